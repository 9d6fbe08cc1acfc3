section
/-! rows pasted from kit/rows (pk_*), then the pure picture: mismatches of a shift, shifts with at most k -/
theorem pk_us {f : Nat → Int32} {k : Nat} {x : Int32} : upd f k x k = x := if_pos rfl
theorem pk_un {f : Nat → Int32} {k j : Nat} {x : Int32} (h : j ≠ k) : upd f k x j = f j := if_neg h
theorem pk_sub {a b : Nat} (h : b ≤ a) : nI a - nI b = nI (a - b) := by
  obtain ⟨c, rfl⟩ : ∃ c, a = c + b := ⟨a - b, by omega⟩
  rw [← nI_add, Int32.add_sub_cancel, Nat.add_sub_cancel]
theorem pk_m1 (n : Nat) : nI (n + 1) + (-1) = nI n := by
  rw [← nI_1, Int32.add_assoc, show (1 : Int32) + (-1) = 0 from rfl, Int32.add_zero]
theorem pk_mul (a b : Nat) : nI a * nI b = nI (a * b) := (Int32.ofNat_mul a b).symm
theorem pk_div {a d : Nat} (ha : a < 2 ^ 31) (h0 : 0 < d) (hd : d < 2 ^ 31) : nI a / nI d = nI (a / d) := by
  apply Int32.toInt_inj.mp
  rw [lg_idiv_nonneg (by rw [nI_toInt ha]; omega) (by rw [nI_toInt hd]; omega), nI_toInt ha, nI_toInt hd, nI_toInt (Nat.lt_of_le_of_lt (Nat.div_le_self a d) ha)]
  first | rfl | exact (Int.natCast_ediv _ _).symm
theorem pk_rem {a d : Nat} (ha : a < 2 ^ 31) (h0 : 0 < d) (hd : d < 2 ^ 31) : nI a - nI a / nI d * nI d = nI (a % d) := by
  rw [pk_div ha h0 hd, pk_mul, pk_sub (Nat.div_mul_le_self a d)]
  exact congrArg nI (by have := Nat.div_add_mod' a d; omega)
theorem pk_sub_toInt {a b : Nat} (ha : a < 2 ^ 30) (hb : b < 2 ^ 30) : (nI a - nI b).toInt = (a : Int) - b := by
  rw [Int32.toInt_sub, nI_toInt (by omega), nI_toInt (by omega)]
  exact Int.bmod_eq_of_le (by omega) (by omega)
theorem pk_sneg {a b : Nat} (hb : b < 2 ^ 30) (h : a < b) : nI a - nI b < 0 := by
  rw [Int32.lt_iff_toInt_lt, pk_sub_toInt (by omega) hb, show (0 : Int32).toInt = 0 from by decide]
  omega
theorem pk_ix (x : Int32) {n : Nat} (hn : n < 2 ^ 31) : x < 0 ∨ nI n ≤ x ∨ ∃ j : Nat, j < n ∧ x = nI j := by
  by_cases h : x < 0
  · exact Or.inl h
  · obtain ⟨j, hj, rfl⟩ := nI_of h
    by_cases h2 : j < n
    · exact Or.inr (Or.inr ⟨j, h2, rfl⟩)
    · exact Or.inr (Or.inl (nI_le (by omega) hj))
theorem pk_le {x y : Int32} {A B : Prop} (a b : Nat) (f : a ≤ b → A) (g : b < a → B) (hx : x = nI a := by rfl) (hy : y = nI b := by rfl) (ha : a < 2 ^ 31 := by omega) (hb : b < 2 ^ 31 := by omega) : (x ≤ y → A) ∧ (¬ x ≤ y → B) := by
  subst hx hy
  rw [nI_leI ha hb]
  exact ⟨f, fun z => g (by omega)⟩
theorem pk_lt {x y : Int32} {A B : Prop} (a b : Nat) (f : a < b → A) (g : b ≤ a → B) (hx : x = nI a := by rfl) (hy : y = nI b := by rfl) (ha : a < 2 ^ 31 := by omega) (hb : b < 2 ^ 31 := by omega) : (x < y → A) ∧ (¬ x < y → B) := by
  subst hx hy
  rw [nI_ltI ha hb]
  exact ⟨f, fun z => g (by omega)⟩
theorem pk_eq {x y : Int32} {A B : Prop} (a b : Nat) (f : a = b → A) (g : a ≠ b → B) (hx : x = nI a := by rfl) (hy : y = nI b := by rfl) (ha : a < 2 ^ 31 := by omega) (hb : b < 2 ^ 31 := by omega) : (x = y → A) ∧ (¬ x = y → B) := by
  subst hx hy
  rw [nI_eq ha hb]
  exact ⟨f, g⟩
theorem pk_in {x : Int32} (n N : Nat) (h : n < N) (hx : x = nI n := by rfl) (hN : N < 2 ^ 31 := by omega) : vp_in x N := by
  subst hx
  exact vp_in_nI h hN
theorem pk_cl {x : Int32} (n : Nat) (hx : x = nI n := by rfl) (h : n < 2 ^ 31 := by omega) : x.toNatClampNeg = n := by
  subst hx
  exact nI_clamp h

/-- the mismatches of the first j letters of the pattern p, laid at place i of the text t, which has n letters -/
def wm_dc (t p : Nat → Int32) (n i : Nat) : Nat → Nat
  | 0 => 0
  | j + 1 => if t ((i + j) % n) = p j ∨ t ((i + j) % n) = 0 ∨ p j = 0 then wm_dc t p n i j else wm_dc t p n i j + 1
theorem wm_dc_t {t p : Nat → Int32} {n i j : Nat} (h : t ((i + j) % n) = p j ∨ t ((i + j) % n) = 0 ∨ p j = 0) : wm_dc t p n i (j + 1) = wm_dc t p n i j := if_pos h
theorem wm_dc_f {t p : Nat → Int32} {n i j : Nat} (h1 : ¬ t ((i + j) % n) = p j) (h2 : ¬ t ((i + j) % n) = 0) (h3 : ¬ p j = 0) : wm_dc t p n i (j + 1) = wm_dc t p n i j + 1 :=
  if_neg fun z => z.elim h1 fun y => y.elim h2 h3
theorem wm_dc_le (t p : Nat → Int32) (n i : Nat) : ∀ j, wm_dc t p n i j ≤ j
  | 0 => Nat.le_refl 0
  | j + 1 => by
    have h := wm_dc_le t p n i j
    by_cases c : t ((i + j) % n) = p j ∨ t ((i + j) % n) = 0 ∨ p j = 0
    · rw [wm_dc_t c]; omega
    · have e : wm_dc t p n i (j + 1) = wm_dc t p n i j + 1 := if_neg c
      rw [e]; omega
/-- how many of the first s numbers of f are at most k -/
def wm_ca (f : Nat → Nat) (k : Int32) : Nat → Nat
  | 0 => 0
  | s + 1 => if nI (f s) ≤ k then wm_ca f k s + 1 else wm_ca f k s
theorem wm_ca_t {f : Nat → Nat} {k : Int32} {s : Nat} (h : nI (f s) ≤ k) : wm_ca f k (s + 1) = wm_ca f k s + 1 := if_pos h
theorem wm_ca_f {f : Nat → Nat} {k : Int32} {s : Nat} (h : ¬ nI (f s) ≤ k) : wm_ca f k (s + 1) = wm_ca f k s := if_neg h
end
section
/-! the counts: X's countFrom and Y's differing both answer wm_dc -/
theorem wm_xagree {post : Int32 → Prop} {a b : Int32} (ht : (a = b ∨ a = 0 ∨ b = 0) → post 1) (hf : ¬ a = b → ¬ a = 0 → ¬ b = 0 → post 0) : wpX_agree post a b := by
  unfold wpX_agree
  exact br_c (fun h => ht (Or.inl h)) fun h1 => br_c (fun h => ht (Or.inr (Or.inl h))) fun h2 => br_c (fun h => ht (Or.inr (Or.inr h))) fun h3 => hf h1 h2 h3
theorem wm_x35 {post : Int32 → Prop} {J : Int32 → Int32 → Prop} {x1 f g : Int32} {t p : Nat → Int32} {n i j q : Nat} (hq : q = (i + j) % n) (hq4 : q < 40) (hj : j < 12) (h : J (nI (wm_dc t p n i (j + 1))) (nI (j + 1))) :
    wX_countFrom_35 post J x1 (nI (wm_dc t p n i j)) (nI j) (nI q) f g t p := by
  unfold wX_countFrom_35
  rw [nI_clamp (n := q) (by omega), nI_clamp (n := j) (by omega)]
  refine ⟨vp_in_nI hq4 (by omega), vp_in_nI hj (by omega), wm_xagree (fun ha => ?_) (fun h1 h2 h3 => ?_)⟩
  · rw [hq] at ha
    rw [wm_dc_t ha] at h
    exact br_f (by decide) (nm_r (nI_1 j) h)
  · rw [hq] at h1 h2
    rw [wm_dc_f h1 h2 h3] at h
    exact br_t rfl (nm_r (nI_1 _) (nm_r (nI_1 j) h))
theorem wm_xcl (t p : Nat → Int32) (n m i : Nat) (hn : n ≤ 40) (hm : m ≤ 12) (hmn : m ≤ n) (hi : i < n ∨ i + m ≤ n) (post : Int32 → Prop) (hp : post (nI (wm_dc t p n i m))) :
    ∀ d j, j + d = m → wX_countFrom_4 post (nI i) (nI n) (nI m) t p (d + 1) (nI (wm_dc t p n i j)) (nI j) := by
  intro d
  induction d with
  | zero =>
    intro j hj
    obtain rfl : j = m := by omega
    exact br_t (nI_le (Nat.le_refl _) (by omega)) hp
  | succ d ih =>
    intro j hj
    have h := ih (j + 1) (by omega)
    refine br_f (nI_ge (by omega) (by omega)) (nm_r (nI_add i j) ?_)
    by_cases hw : i + j < n
    · refine br_t (nI_lt hw (by omega)) ?_
      exact wm_x35 (Nat.mod_eq_of_lt hw).symm (by omega) (by omega) h
    · refine br_f (nI_nlt (by omega) (by omega)) (nm_r (pk_sub (by omega)) ?_)
      refine wm_x35 ?_ (by omega) (by omega) h
      rw [Nat.mod_eq_sub_mod (by omega), Nat.mod_eq_of_lt (by omega)]
theorem wm_xc {t p : Nat → Int32} {n m i : Nat} {post : Int32 → Prop} (hn : n ≤ 40) (hm : m ≤ 12) (hmn : m ≤ n) (hi : i < n ∨ i + m ≤ n) (hp : post (nI (wm_dc t p n i m))) : wpX_countFrom post (nI n, nI m, t, p) (nI i) := by
  have h := wm_xcl t p n m i hn hm hmn hi post hp m 0 (by omega)
  rw [show wm_dc t p n i 0 = 0 from rfl, nI_0] at h
  unfold wpX_countFrom
  exact ⟨m + 1, h⟩
theorem wm_y36 {post : Int32 → Prop} {J : Int32 → Int32 → Prop} {x1 f g : Int32} {t p : Nat → Int32} {n i j q : Nat} (hq : q = (i + j) % n) (hq4 : q < 40) (hj : j < 12) (h : J (nI (wm_dc t p n i (j + 1))) (nI (j + 1))) :
    wY_differing_36 post J x1 (nI (wm_dc t p n i j)) (nI j) (nI q) f g t p := by
  unfold wY_differing_36
  rw [nI_clamp (n := q) (by omega), nI_clamp (n := j) (by omega)]
  refine ⟨vp_in_nI hq4 (by omega), nm_e ⟨vp_in_nI hj (by omega), nm_e ?_⟩⟩
  subst hq
  by_cases h1 : t ((i + j) % n) = p j
  · rw [wm_dc_t (Or.inl h1)] at h
    exact br_t h1 (nm_r (nI_1 j) h)
  · by_cases h2 : t ((i + j) % n) = 0
    · rw [wm_dc_t (Or.inr (Or.inl h2))] at h
      exact br_f h1 (br_t h2 (nm_r (nI_1 j) h))
    · by_cases h3 : p j = 0
      · rw [wm_dc_t (Or.inr (Or.inr h3))] at h
        exact br_f h1 (br_f h2 (br_t h3 (nm_r (nI_1 j) h)))
      · rw [wm_dc_f h1 h2 h3] at h
        exact br_f h1 (br_f h2 (br_f h3 (nm_r (nI_1 _) (nm_r (nI_1 j) h))))
theorem wm_ycl (t p : Nat → Int32) (n m i : Nat) (hn : n ≤ 40) (hm : m ≤ 12) (hmn : m ≤ n) (hi : i ≤ n) (post : Int32 → Prop) (hp : post (nI (wm_dc t p n i m))) :
    ∀ d j, j + d = m → wY_differing_4 post (nI i) (nI n) (nI m) t p (d + 1) (nI (wm_dc t p n i j)) (nI j) := by
  intro d
  induction d with
  | zero =>
    intro j hj
    obtain rfl : j = m := by omega
    exact br_t (nI_le (Nat.le_refl _) (by omega)) hp
  | succ d ih =>
    intro j hj
    have h := ih (j + 1) (by omega)
    have e : (nI i + nI j) - (nI i + nI j) / nI n * nI n = nI ((i + j) % n) := by
      rw [nI_add]
      exact pk_rem (by omega) (by omega) (by omega)
    have hr : (i + j) % n < n := Nat.mod_lt _ (by omega)
    have h1 : (1 : Int32) ≤ nI n := nI_le (a := 1) (by omega) (by omega)
    have h0 : ¬ nI n = 0 := nI_ne0 (by omega) (by omega)
    refine br_f (nI_ge (by omega) (by omega)) (br_t h1 ⟨h0, ?_⟩)
    rw [e]
    exact wm_y36 rfl (by omega) (by omega) h
theorem wm_yc {t p : Nat → Int32} {n m i : Nat} {post : Int32 → Prop} (hn : n ≤ 40) (hm : m ≤ 12) (hmn : m ≤ n) (hi : i ≤ n) (hp : post (nI (wm_dc t p n i m))) : wpY_differing post (nI n, nI m, t, p) (nI i) := by
  have h := wm_ycl t p n m i hn hm hmn hi post hp m 0 (by omega)
  rw [show wm_dc t p n i 0 = 0 from rfl, nI_0] at h
  unfold wpY_differing
  exact ⟨m + 1, h⟩
end
section
/-! shifts: the number of shifts is n + 1 - m on both sides; counts over all shifts, the next match, the best shift -/
theorem wm_xsc {t p : Nat → Int32} {n m : Nat} {post : Int32 → Prop} (hn : n ≤ 40) (hm : m ≤ 12) (h : post (nI (n + 1 - m))) : wpX_shiftCount post (nI n, nI m, t, p) := by
  unfold wpX_shiftCount
  refine pk_le m n (fun z => ?_) (fun z => ?_)
  · have e : nI n - nI m + 1 = nI (n + 1 - m) := by
      rw [pk_sub z, nI_1]
      exact congrArg nI (by omega)
    rw [e]
    exact h
  · have e : n + 1 - m = 0 := by omega
    rw [e, nI_0] at h
    exact h
theorem wm_sl {n m j : Nat} (hn : n ≤ 40) (hm : m ≤ 12) (hj : j < 2 ^ 31) : nI n - nI m < nI j ↔ n + 1 - m ≤ j := by
  rw [Int32.lt_iff_toInt_lt, pk_sub_toInt (by omega) (by omega), nI_toInt hj]
  omega
theorem wm_xisn {t p : Nat → Int32} {n m : Nat} {x : Int32} {post : Int32 → Prop} (hx : x < 0) (h : post 0) : wpX_isShift post (nI n, nI m, t, p) x := by
  unfold wpX_isShift
  exact br_t hx h
theorem wm_xist {t p : Nat → Int32} {n m j : Nat} {post : Int32 → Prop} (hn : n ≤ 40) (hm : m ≤ 12) (hj : j < n + 1 - m) (h : post 1) : wpX_isShift post (nI n, nI m, t, p) (nI j) := by
  unfold wpX_isShift
  exact br_f (nI_pos (by omega)) (wm_xsc hn hm (br_f (nI_ge hj (by omega)) h))
theorem wm_xisf {t p : Nat → Int32} {n m j : Nat} {post : Int32 → Prop} (hn : n ≤ 40) (hm : m ≤ 12) (hj : n + 1 - m ≤ j) (hb : j < 2 ^ 31) (h : post 0) : wpX_isShift post (nI n, nI m, t, p) (nI j) := by
  unfold wpX_isShift
  exact br_f (nI_pos hb) (wm_xsc hn hm (br_t (nI_le hj hb) h))
theorem wm_yisn {t p : Nat → Int32} {n m : Nat} {x : Int32} {post : Int32 → Prop} (hx : x < 0) (h : post 0) : wpY_isShift post (nI n, nI m, t, p) x := by
  unfold wpY_isShift
  exact br_t hx h
theorem wm_yist {t p : Nat → Int32} {n m j : Nat} {post : Int32 → Prop} (hn : n ≤ 40) (hm : m ≤ 12) (hj : j < n + 1 - m) (h : post 1) : wpY_isShift post (nI n, nI m, t, p) (nI j) := by
  unfold wpY_isShift
  exact br_f (nI_pos (by omega)) (br_f (fun z => absurd ((wm_sl hn hm (by omega)).mp z) (by omega)) h)
theorem wm_yisf {t p : Nat → Int32} {n m j : Nat} {post : Int32 → Prop} (hn : n ≤ 40) (hm : m ≤ 12) (hj : n + 1 - m ≤ j) (hb : j < 2 ^ 31) (h : post 0) : wpY_isShift post (nI n, nI m, t, p) (nI j) := by
  unfold wpY_isShift
  exact br_f (nI_pos hb) (br_t ((wm_sl hn hm hb).mpr hj) h)
theorem wm_ymt {t p : Nat → Int32} {n m j : Nat} {post : Int32 → Prop} (hn : n ≤ 40) (hm : m ≤ 12) (hj : j < n + 1 - m) (h1 : nI (wm_dc t p n j m) = 0 → post 1) (h0 : ¬ nI (wm_dc t p n j m) = 0 → post 0) : wpY_matches post (nI n, nI m, t, p) (nI j) := by
  unfold wpY_matches
  exact wm_yist hn hm hj (br_f (by decide) (wm_yc hn hm (by omega) (by omega) (br_c h1 h0)))
/-- how many shifts have at most k mismatches: X -/
theorem wm_xal (t p : Nat → Int32) (n m : Nat) (k : Int32) (hn : n ≤ 40) (hm : m ≤ 12) (post : Int32 → Prop) (hp : post (nI (wm_ca (fun i => wm_dc t p n i m) k (n + 1 - m)))) :
    ∀ d i, i + d = n + 1 - m → wX_countAtMost_10 post k (nI (n + 1 - m)) (nI n) (nI m) t p (d + 1) (nI (wm_ca (fun i => wm_dc t p n i m) k i)) (nI i) := by
  intro d
  induction d with
  | zero =>
    intro i hi
    obtain rfl : i = n + 1 - m := by omega
    exact br_t (nI_le (Nat.le_refl _) (by omega)) hp
  | succ d ih =>
    intro i hi
    have h := ih (i + 1) (by omega)
    refine br_f (nI_ge (by omega) (by omega)) (wm_xc hn hm (by omega) (Or.inr (by omega)) ?_)
    by_cases hc : nI (wm_dc t p n i m) ≤ k
    · rw [wm_ca_t (f := fun i => wm_dc t p n i m) hc] at h
      exact br_f (Int32.not_lt.mpr hc) (nm_r (nI_1 _) (nm_r (nI_1 i) h))
    · rw [wm_ca_f (f := fun i => wm_dc t p n i m) hc] at h
      exact br_t (Int32.not_le.mp hc) (nm_r (nI_1 i) h)
theorem wm_xa {t p : Nat → Int32} {n m : Nat} {k : Int32} {post : Int32 → Prop} (hn : n ≤ 40) (hm : m ≤ 12) (hp : post (nI (wm_ca (fun i => wm_dc t p n i m) k (n + 1 - m)))) : wpX_countAtMost post (nI n, nI m, t, p) k := by
  have h := wm_xal t p n m k hn hm post hp (n + 1 - m) 0 (by omega)
  rw [show wm_ca (fun i => wm_dc t p n i m) k 0 = 0 from rfl, nI_0] at h
  unfold wpX_countAtMost
  exact wm_xsc hn hm ⟨_, h⟩
/-- the same: Y's within -/
theorem wm_ywl (t p : Nat → Int32) (n m : Nat) (k : Int32) (hn : n ≤ 40) (hm : m ≤ 12) (post : Int32 → Prop) (hp : post (nI (wm_ca (fun i => wm_dc t p n i m) k (n + 1 - m)))) :
    ∀ d i, i + d = n + 1 - m → wY_within_4 post k (nI n) (nI m) t p (d + 1) (nI (wm_ca (fun i => wm_dc t p n i m) k i)) (nI i) := by
  intro d
  induction d with
  | zero =>
    intro i hi
    obtain rfl : i = n + 1 - m := by omega
    exact br_t ((wm_sl hn hm (by omega)).mpr (Nat.le_refl _)) hp
  | succ d ih =>
    intro i hi
    have h := ih (i + 1) (by omega)
    have hs : ¬ nI n - nI m < nI i := fun z => absurd ((wm_sl hn hm (by omega)).mp z) (by omega)
    refine br_f hs (wm_yc hn hm (by omega) (by omega) ?_)
    by_cases hc : nI (wm_dc t p n i m) ≤ k
    · rw [wm_ca_t (f := fun i => wm_dc t p n i m) hc] at h
      exact br_f (Int32.not_lt.mpr hc) (nm_r (nI_1 _) (nm_r (nI_1 i) h))
    · rw [wm_ca_f (f := fun i => wm_dc t p n i m) hc] at h
      exact br_t (Int32.not_le.mp hc) (nm_r (nI_1 i) h)
theorem wm_yw {t p : Nat → Int32} {n m : Nat} {k : Int32} {post : Int32 → Prop} (hn : n ≤ 40) (hm : m ≤ 12) (hp : post (nI (wm_ca (fun i => wm_dc t p n i m) k (n + 1 - m)))) : wpY_within post (nI n, nI m, t, p) k := by
  have h := wm_ywl t p n m k hn hm post hp (n + 1 - m) 0 (by omega)
  rw [show wm_ca (fun i => wm_dc t p n i m) k 0 = 0 from rfl, nI_0] at h
  unfold wpY_within
  exact ⟨_, h⟩
theorem wm_le0 {d : Nat} (hd : d < 2 ^ 31) : nI d ≤ 0 ↔ nI d = 0 := by
  rw [← nI_0, nI_leI hd (by omega), nI_eq hd (by omega)]
  omega
/-- the same with k = 0: Y's matchCount -/
theorem wm_yml (t p : Nat → Int32) (n m : Nat) (hn : n ≤ 40) (hm : m ≤ 12) (post : Int32 → Prop) (hp : post (nI (wm_ca (fun i => wm_dc t p n i m) 0 (n + 1 - m)))) :
    ∀ d i, i + d = n + 1 - m → wY_matchCount_4 post (nI n) (nI m) t p (d + 1) (nI (wm_ca (fun i => wm_dc t p n i m) 0 i)) (nI i) := by
  intro d
  induction d with
  | zero =>
    intro i hi
    obtain rfl : i = n + 1 - m := by omega
    exact br_t ((wm_sl hn hm (by omega)).mpr (Nat.le_refl _)) hp
  | succ d ih =>
    intro i hi
    have h := ih (i + 1) (by omega)
    have hs : ¬ nI n - nI m < nI i := fun z => absurd ((wm_sl hn hm (by omega)).mp z) (by omega)
    have hd : wm_dc t p n i m < 2 ^ 31 := by
      have := wm_dc_le t p n i m
      omega
    refine br_f hs (wm_ymt hn hm (by omega) (fun e => ?_) (fun e => ?_))
    · rw [wm_ca_t (f := fun i => wm_dc t p n i m) ((wm_le0 hd).mpr e)] at h
      exact br_f (by decide) (nm_r (nI_1 _) (nm_r (nI_1 i) h))
    · rw [wm_ca_f (f := fun i => wm_dc t p n i m) (fun z => e ((wm_le0 hd).mp z))] at h
      exact br_t rfl (nm_r (nI_1 i) h)
theorem wm_ym {t p : Nat → Int32} {n m : Nat} {post : Int32 → Prop} (hn : n ≤ 40) (hm : m ≤ 12) (hp : post (nI (wm_ca (fun i => wm_dc t p n i m) 0 (n + 1 - m)))) : wpY_matchCount post (nI n, nI m, t, p) := by
  have h := wm_yml t p n m hn hm post hp (n + 1 - m) 0 (by omega)
  rw [show wm_ca (fun i => wm_dc t p n i m) 0 0 = 0 from rfl, nI_0] at h
  unfold wpY_matchCount
  exact ⟨_, h⟩
/-- the next match from i, in lockstep, where x is at most i -/
theorem wm_nm (t p : Nat → Int32) (n m : Nat) (x : Int32) (hn : n ≤ 40) (hm : m ≤ 12) :
    ∀ d i : Nat, i + d = n + 1 - m → x.toInt ≤ (i : Int) → ∃ r : Int32, (∀ post : Int32 → Prop, post r → wX_nextMatch_18 post (nI (n + 1 - m)) (nI n) (nI m) t p (d + 1) (nI i)) ∧ (∀ post : Int32 → Prop, post r → wY_nextMatch_2 post x (nI n) (nI m) t p (d + 1) (nI i)) := by
  intro d
  induction d with
  | zero =>
    intro i hi hx
    obtain rfl : i = n + 1 - m := by omega
    exact ⟨-3, fun post hp => br_t (nI_le (Nat.le_refl _) (by omega)) hp, fun post hp => br_t ((wm_sl hn hm (by omega)).mpr (Nat.le_refl _)) hp⟩
  | succ d ih =>
    intro i hi hx
    have hs : ¬ nI n - nI m < nI i := fun z => absurd ((wm_sl hn hm (by omega)).mp z) (by omega)
    have hg : ¬ nI (n + 1 - m) ≤ nI i := nI_ge (by omega) (by omega)
    have hl : ¬ nI i < x := by
      rw [Int32.lt_iff_toInt_lt, nI_toInt (by omega)]
      omega
    by_cases e : nI (wm_dc t p n i m) = 0
    · refine ⟨nI i, fun post hp => ?_, fun post hp => ?_⟩
      · exact br_f hg (wm_xc hn hm (by omega) (Or.inr (by omega)) (br_t e hp))
      · exact br_f hs (br_f hl (wm_ymt hn hm (by omega) (fun _ => br_f (by decide) hp) (fun z => absurd e z)))
    · obtain ⟨r, hX, hY⟩ := ih (i + 1) (by omega) (by omega)
      refine ⟨r, fun post hp => ?_, fun post hp => ?_⟩
      · exact br_f hg (wm_xc hn hm (by omega) (Or.inr (by omega)) (br_f e (nm_r (nI_1 i) (hX post hp))))
      · exact br_f hs (br_f hl (wm_ymt hn hm (by omega) (fun z => absurd z e) (fun _ => br_t rfl (nm_r (nI_1 i) (hY post hp)))))
/-- Y passes over the shifts below x -/
theorem wm_sk (t p : Nat → Int32) (n m b e : Nat) (x : Int32) (hn : n ≤ 40) (hm : m ≤ 12) (hb : b ≤ n + 1 - m) (hx : (b : Int) ≤ x.toInt) (post : Int32 → Prop) (h : wY_nextMatch_2 post x (nI n) (nI m) t p e (nI b)) :
    ∀ d i : Nat, i + d = b → wY_nextMatch_2 post x (nI n) (nI m) t p (e + d) (nI i) := by
  intro d
  induction d with
  | zero =>
    intro i hi
    obtain rfl : i = b := by omega
    exact h
  | succ d ih =>
    intro i hi
    have hs : ¬ nI n - nI m < nI i := fun z => absurd ((wm_sl hn hm (by omega)).mp z) (by omega)
    have hl : nI i < x := by
      rw [Int32.lt_iff_toInt_lt, nI_toInt (by omega)]
      omega
    exact br_f hs (br_t hl (nm_r (nI_1 i) (ih (i + 1) (by omega))))
/-- the best shift from i on, in lockstep -/
theorem wm_bs (t p : Nat → Int32) (n m : Nat) (hn : n ≤ 40) (hm : m ≤ 12) :
    ∀ (d i : Nat) (b w : Int32), i + d = n + 1 - m → ∃ r : Int32, (∀ post : Int32 → Prop, post r → wX_bestShift_14 post (nI (n + 1 - m)) (nI n) (nI m) t p (d + 1) b w (nI i)) ∧ (∀ post : Int32 → Prop, post r → wY_bestShift_8 post (nI n) (nI m) t p (d + 1) b w (nI i)) := by
  intro d
  induction d with
  | zero =>
    intro i b w hi
    obtain rfl : i = n + 1 - m := by omega
    exact ⟨b, fun post hp => br_t (nI_le (Nat.le_refl _) (by omega)) hp, fun post hp => br_t ((wm_sl hn hm (by omega)).mpr (Nat.le_refl _)) hp⟩
  | succ d ih =>
    intro i b w hi
    have hs : ¬ nI n - nI m < nI i := fun z => absurd ((wm_sl hn hm (by omega)).mp z) (by omega)
    have hg : ¬ nI (n + 1 - m) ≤ nI i := nI_ge (by omega) (by omega)
    by_cases e : w ≤ nI (wm_dc t p n i m)
    · obtain ⟨r, hX, hY⟩ := ih (i + 1) b w (by omega)
      refine ⟨r, fun post hp => ?_, fun post hp => ?_⟩
      · exact br_f hg (wm_xc hn hm (by omega) (Or.inr (by omega)) (br_t e (nm_r (nI_1 i) (hX post hp))))
      · exact br_f hs (wm_yc hn hm (by omega) (by omega) (br_t e (nm_r (nI_1 i) (hY post hp))))
    · obtain ⟨r, hX, hY⟩ := ih (i + 1) (nI i) (nI (wm_dc t p n i m)) (by omega)
      refine ⟨r, fun post hp => ?_, fun post hp => ?_⟩
      · exact br_f hg (wm_xc hn hm (by omega) (Or.inr (by omega)) (br_f e (nm_r (nI_1 i) (hX post hp))))
      · exact br_f hs (wm_yc hn hm (by omega) (by omega) (br_f e (nm_r (nI_1 i) (hY post hp))))
/-- the whole: X begins at 13, Y at 100; a count is at most 12 -/
theorem wm_best (t p : Nat → Int32) (n m : Nat) (hn : n ≤ 40) (hm : m ≤ 12) :
    ∃ (r : Int32) (f : Nat), (∀ post : Int32 → Prop, post r → wX_bestShift_14 post (nI (n + 1 - m)) (nI n) (nI m) t p f (-3) 13 0) ∧ (∀ post : Int32 → Prop, post r → wY_bestShift_8 post (nI n) (nI m) t p f (-3) 100 0) := by
  by_cases h0 : n + 1 - m = 0
  · refine ⟨-3, 1, fun post hp => br_t ?_ hp, fun post hp => br_t ?_ hp⟩
    · rw [h0, nI_0]
      exact Int32.le_refl _
    · rw [← nI_0, wm_sl hn hm (by omega)]
      omega
  · obtain ⟨r, hX, hY⟩ := wm_bs t p n m hn hm (n - m) 1 (nI 0) (nI (wm_dc t p n 0 m)) (by omega)
    have hd := wm_dc_le t p n 0 m
    have h13 : ¬ (13 : Int32) ≤ nI (wm_dc t p n 0 m) := nI_ge (b := 13) (by omega) (by omega)
    have h100 : ¬ (100 : Int32) ≤ nI (wm_dc t p n 0 m) := nI_ge (b := 100) (by omega) (by omega)
    have hs : ¬ nI n - nI m < nI 0 := fun z => absurd ((wm_sl hn hm (by omega)).mp z) (by omega)
    have hg : ¬ nI (n + 1 - m) ≤ nI 0 := nI_ge (by omega) (by omega)
    refine ⟨r, n - m + 1 + 1, fun post hp => ?_, fun post hp => ?_⟩
    · rw [← nI_0]
      exact br_f hg (wm_xc hn hm (by omega) (Or.inr (by omega)) (br_f h13 (nm_r (nI_1 0) (hX post hp))))
    · rw [← nI_0]
      exact br_f hs (wm_yc hn hm (by omega) (by omega) (br_f h100 (nm_r (nI_1 0) (hY post hp))))
end
section
/-! shorten in lockstep: both sides move the letters down by one, one after the other -/
theorem wm_sh0 (p : Nat → Int32) (n m : Nat) (hn : n ≤ 40) :
    ∀ (d i : Nat) (t : Nat → Int32), i + d = n → 1 ≤ i → ∃ t' : Nat → Int32,
      (∀ post : Int32 → SX → Prop, post (nI (n - 1)) (nI (n - 1), nI m, t', p) → wX_shorten_15 post 0 (nI n) (d + 1) (nI i) (nI n) (nI m) t p) ∧
      (∀ post : Int32 → SY → Prop, post (nI (n - 1)) (nI (n - 1), nI m, t', p) → wY_shorten_63 post (nI n) (nI m) (d + 1) (nI i) t p) := by
  intro d
  induction d with
  | zero =>
    intro i t hi h1
    obtain ⟨c, rfl⟩ : ∃ c, n = c + 1 := ⟨n - 1, by omega⟩
    obtain rfl : i = c + 1 := by omega
    refine ⟨t, fun post hp => br_t (nI_le (Nat.le_refl _) (by omega)) ?_, fun post hp => br_t (nI_le (Nat.le_refl _) (by omega)) (nm_r (nI_pred c) hp)⟩
    rw [nI_pred c]
    unfold wpX_setLength
    exact br_t rfl hp
  | succ d ih =>
    intro i t hi h1
    obtain ⟨c, rfl⟩ : ∃ c, i = c + 1 := ⟨i - 1, by omega⟩
    obtain ⟨t', hX, hY⟩ := ih (c + 1 + 1) (upd t c (t (c + 1))) (by omega) (by omega)
    have hg : ¬ nI n ≤ nI (c + 1) := nI_ge (by omega) (by omega)
    refine ⟨t', fun post hp => br_f hg ?_, fun post hp => br_f hg ?_⟩
    · unfold wpX_get
      refine br_t rfl ⟨vp_in_nI (by omega) (by omega), ?_⟩
      unfold wpX_put
      rw [nI_pred c, nI_clamp (n := c) (by omega), nI_clamp (n := c + 1) (by omega)]
      exact br_t rfl ⟨vp_in_nI (by omega) (by omega), nm_e (nm_r (nI_1 (c + 1)) (hX post hp))⟩
    · rw [nI_pred c, nI_clamp (n := c) (by omega), nI_clamp (n := c + 1) (by omega)]
      exact ⟨vp_in_nI (by omega) (by omega), vp_in_nI (by omega) (by omega), nm_e (nm_r (nI_1 (c + 1)) (hY post hp))⟩
theorem wm_sh1 (t : Nat → Int32) (n m : Nat) (hm : m ≤ 12) :
    ∀ (d i : Nat) (p : Nat → Int32), i + d = m → 1 ≤ i → ∃ p' : Nat → Int32,
      (∀ post : Int32 → SX → Prop, post (nI (m - 1)) (nI n, nI (m - 1), t, p') → wX_shorten_15 post 1 (nI m) (d + 1) (nI i) (nI n) (nI m) t p) ∧
      (∀ post : Int32 → SY → Prop, post (nI (m - 1)) (nI n, nI (m - 1), t, p') → wY_shorten_18 post (nI n) (nI m) (d + 1) (nI i) t p) := by
  intro d
  induction d with
  | zero =>
    intro i p hi h1
    obtain ⟨c, rfl⟩ : ∃ c, m = c + 1 := ⟨m - 1, by omega⟩
    obtain rfl : i = c + 1 := by omega
    refine ⟨p, fun post hp => br_t (nI_le (Nat.le_refl _) (by omega)) ?_, fun post hp => br_t (nI_le (Nat.le_refl _) (by omega)) (nm_r (nI_pred c) hp)⟩
    rw [nI_pred c]
    unfold wpX_setLength
    exact br_f (by decide) hp
  | succ d ih =>
    intro i p hi h1
    obtain ⟨c, rfl⟩ : ∃ c, i = c + 1 := ⟨i - 1, by omega⟩
    obtain ⟨p', hX, hY⟩ := ih (c + 1 + 1) (upd p c (p (c + 1))) (by omega) (by omega)
    have hg : ¬ nI m ≤ nI (c + 1) := nI_ge (by omega) (by omega)
    refine ⟨p', fun post hp => br_f hg ?_, fun post hp => br_f hg ?_⟩
    · unfold wpX_get
      refine br_f (by decide) ⟨vp_in_nI (by omega) (by omega), ?_⟩
      unfold wpX_put
      rw [nI_pred c, nI_clamp (n := c) (by omega), nI_clamp (n := c + 1) (by omega)]
      exact br_f (by decide) ⟨vp_in_nI (by omega) (by omega), nm_e (nm_r (nI_1 (c + 1)) (hX post hp))⟩
    · rw [nI_pred c, nI_clamp (n := c) (by omega), nI_clamp (n := c + 1) (by omega)]
      exact ⟨vp_in_nI (by omega) (by omega), vp_in_nI (by omega) (by omega), nm_e (nm_r (nI_1 (c + 1)) (hY post hp))⟩
/-! whether a place holds a letter: a number below the length -/
theorem wm_xhn {t p : Nat → Int32} {n m : Nat} {b x : Int32} {post : Int32 → Prop} (hx : x < 0) (h : post 0) : wpX_hasPlace post (nI n, nI m, t, p) b x := by
  unfold wpX_hasPlace
  exact br_t hx h
theorem wm_xh0 {t p : Nat → Int32} {n m j : Nat} {post : Int32 → Prop} (hn : n ≤ 40) (hj : j < 2 ^ 31) (ht : j < n → post 1) (hf : n ≤ j → post 0) : wpX_hasPlace post (nI n, nI m, t, p) 0 (nI j) := by
  unfold wpX_hasPlace wpX_lengthOf
  exact br_f (nI_pos hj) (br_t rfl (pk_le n j hf ht))
theorem wm_xh1 {t p : Nat → Int32} {n m j : Nat} {post : Int32 → Prop} (hm : m ≤ 12) (hj : j < 2 ^ 31) (ht : j < m → post 1) (hf : m ≤ j → post 0) : wpX_hasPlace post (nI n, nI m, t, p) 1 (nI j) := by
  unfold wpX_hasPlace wpX_lengthOf
  exact br_f (nI_pos hj) (br_f (by decide) (pk_le m j hf ht))
theorem wm_yhn {t p : Nat → Int32} {n m : Nat} {b x : Int32} {post : Int32 → Prop} (hx : x < 0) (h : post 0) : wpY_isLetter post (nI n, nI m, t, p) b x := by
  unfold wpY_isLetter
  exact br_t hx h
theorem wm_yh0 {t p : Nat → Int32} {n m j : Nat} {post : Int32 → Prop} (hn : n ≤ 40) (hj : j < 2 ^ 31) (ht : j < n → post 1) (hf : n ≤ j → post 0) : wpY_isLetter post (nI n, nI m, t, p) 0 (nI j) := by
  unfold wpY_isLetter wY_isLetter_20
  exact br_f (nI_pos hj) (br_t rfl (pk_le n j hf ht))
theorem wm_yh1 {t p : Nat → Int32} {n m j : Nat} {post : Int32 → Prop} (hm : m ≤ 12) (hj : j < 2 ^ 31) (ht : j < m → post 1) (hf : m ≤ j → post 0) : wpY_isLetter post (nI n, nI m, t, p) 1 (nI j) := by
  unfold wpY_isLetter wY_isLetter_20
  exact br_f (nI_pos hj) (br_f (by decide) (pk_le m j hf ht))
end
section
/-- both hold the same text (n letters) and the same pattern (m letters) -/
def i_Rel (_k : Nat) (u : SX) (v : SY) : Prop := ∃ (n m : Nat) (t p : Nat → Int32), n ≤ 40 ∧ m ≤ 12 ∧ u = (nI n, nI m, t, p) ∧ v = (nI n, nI m, t, p)
theorem i_up {k : Nat} {u : SX} {v : SY} (h : i_Rel k u v) : i_Rel (k + 4) u v := h
theorem wm_J {k n m : Nat} {t p : Nat → Int32} (hn : n ≤ 40) (hm : m ≤ 12) : i_Rel k (nI n, nI m, t, p) (nI n, nI m, t, p) := ⟨n, m, t, p, hn, hm, rfl, rfl⟩
theorem i_vc0 : wpX_init (fun u => wpY_init (fun v => i_Rel 0 u v)) := wm_J (k := 0) (n := 0) (m := 0) (Nat.zero_le _) (Nat.zero_le _)
theorem i_vc_type {k : Nat} {u : SX} {v : SY} (I : i_Rel k u v) (hk : k + 4 ≤ 2048) (v1 : Int32) (v2 : Int32) : wpX_type (fun r u' => wpY_type (fun r' v' => r' = r ∧ i_Rel (k + 4) u' v') v (lw_bz v1) v2) u (lw_bz v1) v2 := by
  obtain ⟨n, m, t, p, hn, hm, rfl, rfl⟩ := I
  rcases lw_bz_01 v1 with e | e
  · rw [e]
    unfold wpX_type wpX_lengthOf wX_type_17
    refine br_t rfl (br_t rfl ?_)
    by_cases hf : n < 40
    · have hlt : nI n < 40 := nI_lt (b := 40) hf (by omega)
      have hne : ¬ nI n = 40 := fun z => absurd ((nI_eq (b := 40) (by omega) (by omega)).mp z) (by omega)
      refine br_t hlt ?_
      unfold wpX_isLetter wpY_type wY_type_27
      by_cases h0 : v2 < 0
      · exact br_t h0 (br_t rfl (br_t rfl (br_f hne (br_t h0 ⟨rfl, wm_J hn hm⟩))))
      · by_cases h4 : 4 < v2
        · exact br_f h0 (br_t h4 (br_t rfl (br_t rfl (br_f hne (br_f h0 (br_f (Int32.not_le.mpr h4) ⟨rfl, wm_J hn hm⟩))))))
        · refine br_f h0 (br_f h4 (br_f (by decide) ?_))
          unfold wpX_put wpX_setLength
          rw [nI_1 n, nI_clamp (n := n) (by omega)]
          refine br_t rfl ⟨vp_in_nI hf (by omega), nm_e (br_t rfl (br_t rfl (br_f hne (br_f h0 (br_t (Int32.not_lt.mp h4) (br_t rfl ⟨vp_in_nI hf (by omega), nm_r (e' := upd t n v2) (by rw [nI_clamp (n := n) (by omega)]) (nm_r (nI_1 n) ?_)⟩))))))⟩
          exact ⟨rfl, wm_J (by omega) hm⟩
    · obtain rfl : n = 40 := by omega
      refine br_f (nI_nlt (b := 40) (Nat.le_refl _) (by omega)) ?_
      unfold wpY_type
      exact br_t rfl (br_t rfl ⟨rfl, wm_J hn hm⟩)
  · rw [e]
    unfold wpX_type wpX_lengthOf wX_type_17
    refine br_f (by decide) (br_f (by decide) ?_)
    by_cases hf : m < 12
    · have hlt : nI m < 12 := nI_lt (b := 12) hf (by omega)
      have hne : ¬ nI m = 12 := fun z => absurd ((nI_eq (b := 12) (by omega) (by omega)).mp z) (by omega)
      refine br_t hlt ?_
      unfold wpX_isLetter wpY_type wY_type_27
      by_cases h0 : v2 < 0
      · exact br_t h0 (br_t rfl (br_f (by decide) (br_f hne (br_t h0 ⟨rfl, wm_J hn hm⟩))))
      · by_cases h4 : 4 < v2
        · exact br_f h0 (br_t h4 (br_t rfl (br_f (by decide) (br_f hne (br_f h0 (br_f (Int32.not_le.mpr h4) ⟨rfl, wm_J hn hm⟩))))))
        · refine br_f h0 (br_f h4 (br_f (by decide) ?_))
          unfold wpX_put wpX_setLength
          rw [nI_1 m, nI_clamp (n := m) (by omega)]
          refine br_f (by decide) ⟨vp_in_nI hf (by omega), nm_e (br_f (by decide) (br_f (by decide) (br_f hne (br_f h0 (br_t (Int32.not_lt.mp h4) (br_f (by decide) ⟨vp_in_nI hf (by omega), nm_r (e' := upd p m v2) (by rw [nI_clamp (n := m) (by omega)]) (nm_r (nI_1 m) ?_)⟩))))))⟩
          exact ⟨rfl, wm_J hn (by omega)⟩
    · obtain rfl : m = 12 := by omega
      refine br_f (nI_nlt (b := 12) (Nat.le_refl _) (by omega)) ?_
      unfold wpY_type
      exact br_f (by decide) (br_t rfl ⟨rfl, wm_J hn hm⟩)
theorem i_vc_replace {k : Nat} {u : SX} {v : SY} (I : i_Rel k u v) (hk : k + 4 ≤ 2048) (v1 : Int32) (v2 : Int32) (v3 : Int32) : wpX_replace (fun r u' => wpY_replace (fun r' v' => r' = r ∧ i_Rel (k + 4) u' v') v (lw_bz v1) v2 v3) u (lw_bz v1) v2 v3 := by
  obtain ⟨n, m, t, p, hn, hm, rfl, rfl⟩ := I
  by_cases hx : v2 < 0
  · unfold wpX_replace wpY_replace
    exact wm_xhn hx (br_t rfl (wm_yhn hx (br_t rfl ⟨rfl, wm_J hn hm⟩)))
  · obtain ⟨j, hj, rfl⟩ := nI_of hx
    rcases lw_bz_01 v1 with e | e
    · rw [e]
      unfold wpX_replace
      refine wm_xh0 hn hj (fun hl => br_f (by decide) ?_) (fun hl => br_t rfl ?_)
      · unfold wpX_isLetter wpY_replace
        by_cases h0 : v3 < 0
        · exact br_t h0 (br_t rfl (wm_yh0 hn hj (fun _ => br_f (by decide) (br_t h0 ⟨rfl, wm_J hn hm⟩)) (fun z => absurd z (by omega))))
        · by_cases h4 : 4 < v3
          · exact br_f h0 (br_t h4 (br_t rfl (wm_yh0 hn hj (fun _ => br_f (by decide) (br_f h0 (br_f (Int32.not_le.mpr h4) ⟨rfl, wm_J hn hm⟩))) (fun z => absurd z (by omega)))))
          · refine br_f h0 (br_f h4 (br_f (by decide) ?_))
            unfold wpX_put
            refine br_t rfl ⟨vp_in_nI (by omega) (by omega), nm_e (wm_yh0 hn hj (fun _ => br_f (by decide) (br_f h0 (br_t (Int32.not_lt.mp h4) (br_t rfl ⟨vp_in_nI (by omega) (by omega), nm_e ?_⟩)))) (fun z => absurd z (by omega)))⟩
            exact ⟨rfl, wm_J hn hm⟩
      · unfold wpY_replace
        exact wm_yh0 hn hj (fun z => absurd z (by omega)) (fun _ => br_t rfl ⟨rfl, wm_J hn hm⟩)
    · rw [e]
      unfold wpX_replace
      refine wm_xh1 hm hj (fun hl => br_f (by decide) ?_) (fun hl => br_t rfl ?_)
      · unfold wpX_isLetter wpY_replace
        by_cases h0 : v3 < 0
        · exact br_t h0 (br_t rfl (wm_yh1 hm hj (fun _ => br_f (by decide) (br_t h0 ⟨rfl, wm_J hn hm⟩)) (fun z => absurd z (by omega))))
        · by_cases h4 : 4 < v3
          · exact br_f h0 (br_t h4 (br_t rfl (wm_yh1 hm hj (fun _ => br_f (by decide) (br_f h0 (br_f (Int32.not_le.mpr h4) ⟨rfl, wm_J hn hm⟩))) (fun z => absurd z (by omega)))))
          · refine br_f h0 (br_f h4 (br_f (by decide) ?_))
            unfold wpX_put
            refine br_f (by decide) ⟨vp_in_nI (by omega) (by omega), nm_e (wm_yh1 hm hj (fun _ => br_f (by decide) (br_f h0 (br_t (Int32.not_lt.mp h4) (br_f (by decide) ⟨vp_in_nI (by omega) (by omega), nm_e ?_⟩)))) (fun z => absurd z (by omega)))⟩
            exact ⟨rfl, wm_J hn hm⟩
      · unfold wpY_replace
        exact wm_yh1 hm hj (fun z => absurd z (by omega)) (fun _ => br_t rfl ⟨rfl, wm_J hn hm⟩)
theorem i_vc_shorten {k : Nat} {u : SX} {v : SY} (I : i_Rel k u v) (hk : k + 4 ≤ 2048) (v1 : Int32) : wpX_shorten (fun r u' => wpY_shorten (fun r' v' => r' = r ∧ i_Rel (k + 4) u' v') v (lw_bz v1)) u (lw_bz v1) := by
  obtain ⟨n, m, t, p, hn, hm, rfl, rfl⟩ := I
  rcases lw_bz_01 v1 with e | e
  · rw [e]
    unfold wpX_shorten wpX_lengthOf
    refine br_t rfl ?_
    by_cases hz : n = 0
    · subst hz
      refine br_t rfl ?_
      unfold wpY_shorten
      exact wm_yh0 (j := 0) hn (by omega) (fun z => absurd z (by omega)) (fun _ => br_t rfl ⟨rfl, wm_J hn hm⟩)
    · obtain ⟨t', hX, hY⟩ := wm_sh0 p n m hn (n - 1) 1 t (by omega) (by omega)
      refine br_f (nI_ne0 (by omega) (by omega)) ⟨_, hX _ ?_⟩
      unfold wpY_shorten
      exact wm_yh0 (j := 0) hn (by omega) (fun _ => br_f (by decide) (br_t rfl ⟨_, hY _ ⟨rfl, wm_J (by omega) hm⟩⟩)) (fun z => absurd z (by omega))
  · rw [e]
    unfold wpX_shorten wpX_lengthOf
    refine br_f (by decide) ?_
    by_cases hz : m = 0
    · subst hz
      refine br_t rfl ?_
      unfold wpY_shorten
      exact wm_yh1 (j := 0) hm (by omega) (fun z => absurd z (by omega)) (fun _ => br_t rfl ⟨rfl, wm_J hn hm⟩)
    · obtain ⟨p', hX, hY⟩ := wm_sh1 t n m hm (m - 1) 1 p (by omega) (by omega)
      refine br_f (nI_ne0 (by omega) (by omega)) ⟨_, hX _ ?_⟩
      unfold wpY_shorten
      exact wm_yh1 (j := 0) hm (by omega) (fun _ => br_f (by decide) (br_f (by decide) ⟨_, hY _ ⟨rfl, wm_J hn (by omega)⟩⟩)) (fun z => absurd z (by omega))
theorem i_vc_letter {k : Nat} {u : SX} {v : SY} (I : i_Rel k u v) (hk : k + 4 ≤ 2048) (v1 : Int32) (v2 : Int32) : wpX_letter (fun r => wpY_letter (fun r' => r' = r ∧ i_Rel (k + 4) u v) v (lw_bz v1) v2) u (lw_bz v1) v2 := by
  obtain ⟨n, m, t, p, hn, hm, rfl, rfl⟩ := I
  by_cases hx : v2 < 0
  · unfold wpX_letter wpY_letter
    exact wm_xhn hx (br_t rfl (wm_yhn hx (br_t rfl ⟨rfl, wm_J hn hm⟩)))
  · obtain ⟨j, hj, rfl⟩ := nI_of hx
    rcases lw_bz_01 v1 with e | e
    · rw [e]
      unfold wpX_letter
      refine wm_xh0 hn hj (fun hl => br_f (by decide) ?_) (fun hl => br_t rfl ?_)
      · unfold wpX_get wpY_letter
        exact br_t rfl ⟨vp_in_nI (by omega) (by omega), wm_yh0 hn hj (fun _ => br_f (by decide) (br_t rfl ⟨vp_in_nI (by omega) (by omega), rfl, wm_J hn hm⟩)) (fun z => absurd z (by omega))⟩
      · unfold wpY_letter
        exact wm_yh0 hn hj (fun z => absurd z (by omega)) (fun _ => br_t rfl ⟨rfl, wm_J hn hm⟩)
    · rw [e]
      unfold wpX_letter
      refine wm_xh1 hm hj (fun hl => br_f (by decide) ?_) (fun hl => br_t rfl ?_)
      · unfold wpX_get wpY_letter
        exact br_f (by decide) ⟨vp_in_nI (by omega) (by omega), wm_yh1 hm hj (fun _ => br_f (by decide) (br_f (by decide) ⟨vp_in_nI (by omega) (by omega), rfl, wm_J hn hm⟩)) (fun z => absurd z (by omega))⟩
      · unfold wpY_letter
        exact wm_yh1 hm hj (fun z => absurd z (by omega)) (fun _ => br_t rfl ⟨rfl, wm_J hn hm⟩)
theorem i_vc_length {k : Nat} {u : SX} {v : SY} (I : i_Rel k u v) (hk : k + 4 ≤ 2048) (v1 : Int32) : wpX_length (fun r => wpY_length (fun r' => r' = r ∧ i_Rel (k + 4) u v) v (lw_bz v1)) u (lw_bz v1) := by
  obtain ⟨n, m, t, p, hn, hm, rfl, rfl⟩ := I
  unfold wpX_length wpX_lengthOf wpY_length
  rcases lw_bz_01 v1 with e | e
  · rw [e]
    exact br_t rfl (br_t rfl ⟨rfl, wm_J hn hm⟩)
  · rw [e]
    exact br_f (by decide) (br_f (by decide) ⟨rfl, wm_J hn hm⟩)
theorem i_vc_matches {k : Nat} {u : SX} {v : SY} (I : i_Rel k u v) (hk : k + 4 ≤ 2048) (v1 : Int32) : wpX_matches (fun r => wpY_matches (fun r' => r' = r ∧ i_Rel (k + 4) u v) v v1) u v1 := by
  obtain ⟨n, m, t, p, hn, hm, rfl, rfl⟩ := I
  by_cases hx : v1 < 0
  · unfold wpX_matches wpY_matches
    exact wm_xisn hx (br_t rfl (wm_yisn hx (br_t rfl ⟨rfl, wm_J hn hm⟩)))
  · obtain ⟨j, hj, rfl⟩ := nI_of hx
    by_cases hs : j < n + 1 - m
    · unfold wpX_matches
      refine wm_xist hn hm hs (br_f (by decide) (wm_xc hn hm (by omega) (Or.inr (by omega)) ?_))
      refine br_c (fun z => ?_) (fun z => ?_)
      · exact wm_ymt hn hm hs (fun _ => ⟨rfl, wm_J hn hm⟩) (fun y => absurd z y)
      · exact wm_ymt hn hm hs (fun y => absurd y z) (fun _ => ⟨rfl, wm_J hn hm⟩)
    · unfold wpX_matches wpY_matches
      exact wm_xisf hn hm (by omega) hj (br_t rfl (wm_yisf hn hm (by omega) hj (br_t rfl ⟨rfl, wm_J hn hm⟩)))
theorem i_vc_matchCount {k : Nat} {u : SX} {v : SY} (I : i_Rel k u v) (hk : k + 4 ≤ 2048) : wpX_matchCount (fun r => wpY_matchCount (fun r' => r' = r ∧ i_Rel (k + 4) u v) v) u := by
  obtain ⟨n, m, t, p, hn, hm, rfl, rfl⟩ := I
  unfold wpX_matchCount
  exact wm_xa hn hm (wm_ym hn hm ⟨rfl, wm_J hn hm⟩)
theorem i_vc_nextMatch {k : Nat} {u : SX} {v : SY} (I : i_Rel k u v) (hk : k + 4 ≤ 2048) (v1 : Int32) : wpX_nextMatch (fun r => wpY_nextMatch (fun r' => r' = r ∧ i_Rel (k + 4) u v) v v1) u v1 := by
  obtain ⟨n, m, t, p, hn, hm, rfl, rfl⟩ := I
  unfold wpX_nextMatch wpY_nextMatch
  refine wm_xsc hn hm ?_
  by_cases hx : v1 < 0
  · have h0 : v1.toInt ≤ ((0 : Nat) : Int) := by
      rw [Int32.lt_iff_toInt_lt, show (0 : Int32).toInt = 0 from by decide] at hx
      omega
    obtain ⟨r, hX, hY⟩ := wm_nm t p n m v1 hn hm (n + 1 - m) 0 (by omega) h0
    rw [nI_0] at hX hY
    exact br_f (Int32.not_le.mpr hx) ⟨_, hX _ ⟨_, hY _ ⟨rfl, wm_J hn hm⟩⟩⟩
  · obtain ⟨j, hj, rfl⟩ := nI_of hx
    refine br_t (Int32.not_lt.mp hx) ?_
    by_cases hs : j < n + 1 - m
    · obtain ⟨r, hX, hY⟩ := wm_nm t p n m (nI j) hn hm (n + 1 - m - j) j (by omega) (by rw [nI_toInt hj]; omega)
      refine ⟨_, hX _ ⟨n + 1 - m - j + 1 + j, ?_⟩⟩
      have h := wm_sk t p n m j _ (nI j) hn hm (by omega) (by rw [nI_toInt hj]; omega) _ (hY (fun r' => r' = r ∧ i_Rel (k + 4) (nI n, nI m, t, p) (nI n, nI m, t, p)) ⟨rfl, wm_J hn hm⟩) j 0 (by omega)
      rw [nI_0] at h
      exact h
    · refine ⟨1, br_t (nI_le (by omega) hj) ⟨1 + (n + 1 - m), ?_⟩⟩
      have hz : wY_nextMatch_2 (fun r' => r' = -3 ∧ i_Rel (k + 4) (nI n, nI m, t, p) (nI n, nI m, t, p)) (nI j) (nI n) (nI m) t p 1 (nI (n + 1 - m)) := br_t ((wm_sl hn hm (by omega)).mpr (Nat.le_refl _)) ⟨rfl, wm_J hn hm⟩
      have h := wm_sk t p n m (n + 1 - m) 1 (nI j) hn hm (Nat.le_refl _) (by rw [nI_toInt hj]; omega) _ hz (n + 1 - m) 0 (by omega)
      rw [nI_0] at h
      exact h
theorem i_vc_mismatches {k : Nat} {u : SX} {v : SY} (I : i_Rel k u v) (hk : k + 4 ≤ 2048) (v1 : Int32) : wpX_mismatches (fun r => wpY_mismatches (fun r' => r' = r ∧ i_Rel (k + 4) u v) v v1) u v1 := by
  obtain ⟨n, m, t, p, hn, hm, rfl, rfl⟩ := I
  unfold wpX_mismatches wpY_mismatches
  by_cases hx : v1 < 0
  · exact wm_xisn hx (br_t rfl (wm_yisn hx (br_t rfl ⟨rfl, wm_J hn hm⟩)))
  · obtain ⟨j, hj, rfl⟩ := nI_of hx
    by_cases hs : j < n + 1 - m
    · refine wm_xist hn hm hs (br_f (by decide) (wm_xc hn hm (by omega) (Or.inr (by omega)) ?_))
      exact wm_yist hn hm hs (br_f (by decide) (wm_yc hn hm (by omega) (by omega) ⟨rfl, wm_J hn hm⟩))
    · exact wm_xisf hn hm (by omega) hj (br_t rfl (wm_yisf hn hm (by omega) hj (br_t rfl ⟨rfl, wm_J hn hm⟩)))
theorem i_vc_bestShift {k : Nat} {u : SX} {v : SY} (I : i_Rel k u v) (hk : k + 4 ≤ 2048) : wpX_bestShift (fun r => wpY_bestShift (fun r' => r' = r ∧ i_Rel (k + 4) u v) v) u := by
  obtain ⟨n, m, t, p, hn, hm, rfl, rfl⟩ := I
  obtain ⟨r, f, hX, hY⟩ := wm_best t p n m hn hm
  unfold wpX_bestShift wpY_bestShift
  exact wm_xsc hn hm ⟨f, hX _ ⟨f, hY _ ⟨rfl, wm_J hn hm⟩⟩⟩
theorem i_vc_within {k : Nat} {u : SX} {v : SY} (I : i_Rel k u v) (hk : k + 4 ≤ 2048) (v1 : Int32) : wpX_within (fun r => wpY_within (fun r' => r' = r ∧ i_Rel (k + 4) u v) v v1) u v1 := by
  obtain ⟨n, m, t, p, hn, hm, rfl, rfl⟩ := I
  unfold wpX_within
  exact wm_xa hn hm (wm_yw hn hm ⟨rfl, wm_J hn hm⟩)
theorem i_vc_turnedMismatches {k : Nat} {u : SX} {v : SY} (I : i_Rel k u v) (hk : k + 4 ≤ 2048) (v1 : Int32) : wpX_turnedMismatches (fun r => wpY_turnedMismatches (fun r' => r' = r ∧ i_Rel (k + 4) u v) v v1) u v1 := by
  obtain ⟨n, m, t, p, hn, hm, rfl, rfl⟩ := I
  unfold wpX_turnedMismatches wpX_isTurnedShift wpY_turnedMismatches
  by_cases hx : v1 < 0
  · exact br_t hx (br_t rfl (br_t hx ⟨rfl, wm_J hn hm⟩))
  · obtain ⟨j, hj, rfl⟩ := nI_of hx
    by_cases h1 : n ≤ j
    · have h : nI n ≤ nI j := nI_le h1 hj
      exact br_f hx (br_t h (br_t rfl (br_f hx (br_t h ⟨rfl, wm_J hn hm⟩))))
    · have h : ¬ nI n ≤ nI j := nI_ge (by omega) (by omega)
      by_cases h2 : n < m
      · have g : nI n < nI m := nI_lt h2 (by omega)
        exact br_f hx (br_f h (br_t g (br_t rfl (br_f hx (br_f h (br_t g ⟨rfl, wm_J hn hm⟩))))))
      · have g : ¬ nI n < nI m := nI_nlt (by omega) (by omega)
        refine br_f hx (br_f h (br_f g (br_f (by decide) (wm_xc hn hm (by omega) (Or.inl (by omega)) ?_))))
        exact br_f hx (br_f h (br_f g (wm_yc hn hm (by omega) (by omega) ⟨rfl, wm_J hn hm⟩)))
end
