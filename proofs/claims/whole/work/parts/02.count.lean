/-! the counts: X's countFrom and Y's differing both answer wm_dc -/
theorem wm_xagree {post : Int32 → Prop} {a b : Int32} (ht : (a = b ∨ a = 0 ∨ b = 0) → post 1) (hf : ¬ a = b → ¬ a = 0 → ¬ b = 0 → post 0) : wpX_agree post a b := by
  unfold wpX_agree
  exact br_c (fun h => ht (Or.inl h)) fun h1 => br_c (fun h => ht (Or.inr (Or.inl h))) fun h2 => br_c (fun h => ht (Or.inr (Or.inr h))) fun h3 => hf h1 h2 h3
theorem wm_x35 {post : Int32 → Prop} {J : Int32 → Int32 → Prop} {x1 f g : Int32} {t p : Nat → Int32} {n i j q : Nat} (hq : q = (i + j) % n) (hq4 : q < 40) (hj : j < 12) (h : J (nI (wm_dc t p n i (j + 1))) (nI (j + 1))) :
    wX_countFrom_35 post J x1 (nI (wm_dc t p n i j)) (nI j) (nI q) f g t p := by
  unfold wX_countFrom_35
  rw [nI_clamp (n := q) (by omega), nI_clamp (n := j) (by omega)]
  refine ⟨vp_in_nI hq4 (by omega), vp_in_nI hj (by omega), wm_xagree (fun ha => ?_) (fun h1 h2 h3 => ?_)⟩
  · rw [hq] at ha
    rw [wm_dc_t ha] at h
    exact br_f (by decide) (nm_r (nI_1 j) h)
  · rw [hq] at h1 h2
    rw [wm_dc_f h1 h2 h3] at h
    exact br_t rfl (nm_r (nI_1 _) (nm_r (nI_1 j) h))
theorem wm_xcl (t p : Nat → Int32) (n m i : Nat) (hn : n ≤ 40) (hm : m ≤ 12) (hmn : m ≤ n) (hi : i < n ∨ i + m ≤ n) (post : Int32 → Prop) (hp : post (nI (wm_dc t p n i m))) :
    ∀ d j, j + d = m → wX_countFrom_4 post (nI i) (nI n) (nI m) t p (d + 1) (nI (wm_dc t p n i j)) (nI j) := by
  intro d
  induction d with
  | zero =>
    intro j hj
    obtain rfl : j = m := by omega
    exact br_t (nI_le (Nat.le_refl _) (by omega)) hp
  | succ d ih =>
    intro j hj
    have h := ih (j + 1) (by omega)
    refine br_f (nI_ge (by omega) (by omega)) (nm_r (nI_add i j) ?_)
    by_cases hw : i + j < n
    · refine br_t (nI_lt hw (by omega)) ?_
      exact wm_x35 (Nat.mod_eq_of_lt hw).symm (by omega) (by omega) h
    · refine br_f (nI_nlt (by omega) (by omega)) (nm_r (pk_sub (by omega)) ?_)
      refine wm_x35 ?_ (by omega) (by omega) h
      rw [Nat.mod_eq_sub_mod (by omega), Nat.mod_eq_of_lt (by omega)]
theorem wm_xc {t p : Nat → Int32} {n m i : Nat} {post : Int32 → Prop} (hn : n ≤ 40) (hm : m ≤ 12) (hmn : m ≤ n) (hi : i < n ∨ i + m ≤ n) (hp : post (nI (wm_dc t p n i m))) : wpX_countFrom post (nI n, nI m, t, p) (nI i) := by
  have h := wm_xcl t p n m i hn hm hmn hi post hp m 0 (by omega)
  rw [show wm_dc t p n i 0 = 0 from rfl, nI_0] at h
  unfold wpX_countFrom
  exact ⟨m + 1, h⟩
theorem wm_y36 {post : Int32 → Prop} {J : Int32 → Int32 → Prop} {x1 f g : Int32} {t p : Nat → Int32} {n i j q : Nat} (hq : q = (i + j) % n) (hq4 : q < 40) (hj : j < 12) (h : J (nI (wm_dc t p n i (j + 1))) (nI (j + 1))) :
    wY_differing_36 post J x1 (nI (wm_dc t p n i j)) (nI j) (nI q) f g t p := by
  unfold wY_differing_36
  rw [nI_clamp (n := q) (by omega), nI_clamp (n := j) (by omega)]
  refine ⟨vp_in_nI hq4 (by omega), nm_e ⟨vp_in_nI hj (by omega), nm_e ?_⟩⟩
  subst hq
  by_cases h1 : t ((i + j) % n) = p j
  · rw [wm_dc_t (Or.inl h1)] at h
    exact br_t h1 (nm_r (nI_1 j) h)
  · by_cases h2 : t ((i + j) % n) = 0
    · rw [wm_dc_t (Or.inr (Or.inl h2))] at h
      exact br_f h1 (br_t h2 (nm_r (nI_1 j) h))
    · by_cases h3 : p j = 0
      · rw [wm_dc_t (Or.inr (Or.inr h3))] at h
        exact br_f h1 (br_f h2 (br_t h3 (nm_r (nI_1 j) h)))
      · rw [wm_dc_f h1 h2 h3] at h
        exact br_f h1 (br_f h2 (br_f h3 (nm_r (nI_1 _) (nm_r (nI_1 j) h))))
theorem wm_ycl (t p : Nat → Int32) (n m i : Nat) (hn : n ≤ 40) (hm : m ≤ 12) (hmn : m ≤ n) (hi : i ≤ n) (post : Int32 → Prop) (hp : post (nI (wm_dc t p n i m))) :
    ∀ d j, j + d = m → wY_differing_4 post (nI i) (nI n) (nI m) t p (d + 1) (nI (wm_dc t p n i j)) (nI j) := by
  intro d
  induction d with
  | zero =>
    intro j hj
    obtain rfl : j = m := by omega
    exact br_t (nI_le (Nat.le_refl _) (by omega)) hp
  | succ d ih =>
    intro j hj
    have h := ih (j + 1) (by omega)
    have e : (nI i + nI j) - (nI i + nI j) / nI n * nI n = nI ((i + j) % n) := by
      rw [nI_add]
      exact pk_rem (by omega) (by omega) (by omega)
    have hr : (i + j) % n < n := Nat.mod_lt _ (by omega)
    have h1 : (1 : Int32) ≤ nI n := nI_le (a := 1) (by omega) (by omega)
    have h0 : ¬ nI n = 0 := nI_ne0 (by omega) (by omega)
    refine br_f (nI_ge (by omega) (by omega)) (br_t h1 ⟨h0, ?_⟩)
    rw [e]
    exact wm_y36 rfl (by omega) (by omega) h
theorem wm_yc {t p : Nat → Int32} {n m i : Nat} {post : Int32 → Prop} (hn : n ≤ 40) (hm : m ≤ 12) (hmn : m ≤ n) (hi : i ≤ n) (hp : post (nI (wm_dc t p n i m))) : wpY_differing post (nI n, nI m, t, p) (nI i) := by
  have h := wm_ycl t p n m i hn hm hmn hi post hp m 0 (by omega)
  rw [show wm_dc t p n i 0 = 0 from rfl, nI_0] at h
  unfold wpY_differing
  exact ⟨m + 1, h⟩
