/-! shifts: the number of shifts is n + 1 - m on both sides; counts over all shifts, the next match, the best shift -/
theorem wm_xsc {t p : Nat → Int32} {n m : Nat} {post : Int32 → Prop} (hn : n ≤ 40) (hm : m ≤ 12) (h : post (nI (n + 1 - m))) : wpX_shiftCount post (nI n, nI m, t, p) := by
  unfold wpX_shiftCount
  refine pk_le m n (fun z => ?_) (fun z => ?_)
  · have e : nI n - nI m + 1 = nI (n + 1 - m) := by
      rw [pk_sub z, nI_1]
      exact congrArg nI (by omega)
    rw [e]
    exact h
  · have e : n + 1 - m = 0 := by omega
    rw [e, nI_0] at h
    exact h
theorem wm_sl {n m j : Nat} (hn : n ≤ 40) (hm : m ≤ 12) (hj : j < 2 ^ 31) : nI n - nI m < nI j ↔ n + 1 - m ≤ j := by
  rw [Int32.lt_iff_toInt_lt, pk_sub_toInt (by omega) (by omega), nI_toInt hj]
  omega
theorem wm_xisn {t p : Nat → Int32} {n m : Nat} {x : Int32} {post : Int32 → Prop} (hx : x < 0) (h : post 0) : wpX_isShift post (nI n, nI m, t, p) x := by
  unfold wpX_isShift
  exact br_t hx h
theorem wm_xist {t p : Nat → Int32} {n m j : Nat} {post : Int32 → Prop} (hn : n ≤ 40) (hm : m ≤ 12) (hj : j < n + 1 - m) (h : post 1) : wpX_isShift post (nI n, nI m, t, p) (nI j) := by
  unfold wpX_isShift
  exact br_f (nI_pos (by omega)) (wm_xsc hn hm (br_f (nI_ge hj (by omega)) h))
theorem wm_xisf {t p : Nat → Int32} {n m j : Nat} {post : Int32 → Prop} (hn : n ≤ 40) (hm : m ≤ 12) (hj : n + 1 - m ≤ j) (hb : j < 2 ^ 31) (h : post 0) : wpX_isShift post (nI n, nI m, t, p) (nI j) := by
  unfold wpX_isShift
  exact br_f (nI_pos hb) (wm_xsc hn hm (br_t (nI_le hj hb) h))
theorem wm_yisn {t p : Nat → Int32} {n m : Nat} {x : Int32} {post : Int32 → Prop} (hx : x < 0) (h : post 0) : wpY_isShift post (nI n, nI m, t, p) x := by
  unfold wpY_isShift
  exact br_t hx h
theorem wm_yist {t p : Nat → Int32} {n m j : Nat} {post : Int32 → Prop} (hn : n ≤ 40) (hm : m ≤ 12) (hj : j < n + 1 - m) (h : post 1) : wpY_isShift post (nI n, nI m, t, p) (nI j) := by
  unfold wpY_isShift
  exact br_f (nI_pos (by omega)) (br_f (fun z => absurd ((wm_sl hn hm (by omega)).mp z) (by omega)) h)
theorem wm_yisf {t p : Nat → Int32} {n m j : Nat} {post : Int32 → Prop} (hn : n ≤ 40) (hm : m ≤ 12) (hj : n + 1 - m ≤ j) (hb : j < 2 ^ 31) (h : post 0) : wpY_isShift post (nI n, nI m, t, p) (nI j) := by
  unfold wpY_isShift
  exact br_f (nI_pos hb) (br_t ((wm_sl hn hm hb).mpr hj) h)
theorem wm_ymt {t p : Nat → Int32} {n m j : Nat} {post : Int32 → Prop} (hn : n ≤ 40) (hm : m ≤ 12) (hj : j < n + 1 - m) (h1 : nI (wm_dc t p n j m) = 0 → post 1) (h0 : ¬ nI (wm_dc t p n j m) = 0 → post 0) : wpY_matches post (nI n, nI m, t, p) (nI j) := by
  unfold wpY_matches
  exact wm_yist hn hm hj (br_f (by decide) (wm_yc hn hm (by omega) (by omega) (br_c h1 h0)))
/-- how many shifts have at most k mismatches: X -/
theorem wm_xal (t p : Nat → Int32) (n m : Nat) (k : Int32) (hn : n ≤ 40) (hm : m ≤ 12) (post : Int32 → Prop) (hp : post (nI (wm_ca (fun i => wm_dc t p n i m) k (n + 1 - m)))) :
    ∀ d i, i + d = n + 1 - m → wX_countAtMost_10 post k (nI (n + 1 - m)) (nI n) (nI m) t p (d + 1) (nI (wm_ca (fun i => wm_dc t p n i m) k i)) (nI i) := by
  intro d
  induction d with
  | zero =>
    intro i hi
    obtain rfl : i = n + 1 - m := by omega
    exact br_t (nI_le (Nat.le_refl _) (by omega)) hp
  | succ d ih =>
    intro i hi
    have h := ih (i + 1) (by omega)
    refine br_f (nI_ge (by omega) (by omega)) (wm_xc hn hm (by omega) (Or.inr (by omega)) ?_)
    by_cases hc : nI (wm_dc t p n i m) ≤ k
    · rw [wm_ca_t (f := fun i => wm_dc t p n i m) hc] at h
      exact br_f (Int32.not_lt.mpr hc) (nm_r (nI_1 _) (nm_r (nI_1 i) h))
    · rw [wm_ca_f (f := fun i => wm_dc t p n i m) hc] at h
      exact br_t (Int32.not_le.mp hc) (nm_r (nI_1 i) h)
theorem wm_xa {t p : Nat → Int32} {n m : Nat} {k : Int32} {post : Int32 → Prop} (hn : n ≤ 40) (hm : m ≤ 12) (hp : post (nI (wm_ca (fun i => wm_dc t p n i m) k (n + 1 - m)))) : wpX_countAtMost post (nI n, nI m, t, p) k := by
  have h := wm_xal t p n m k hn hm post hp (n + 1 - m) 0 (by omega)
  rw [show wm_ca (fun i => wm_dc t p n i m) k 0 = 0 from rfl, nI_0] at h
  unfold wpX_countAtMost
  exact wm_xsc hn hm ⟨_, h⟩
/-- the same: Y's within -/
theorem wm_ywl (t p : Nat → Int32) (n m : Nat) (k : Int32) (hn : n ≤ 40) (hm : m ≤ 12) (post : Int32 → Prop) (hp : post (nI (wm_ca (fun i => wm_dc t p n i m) k (n + 1 - m)))) :
    ∀ d i, i + d = n + 1 - m → wY_within_4 post k (nI n) (nI m) t p (d + 1) (nI (wm_ca (fun i => wm_dc t p n i m) k i)) (nI i) := by
  intro d
  induction d with
  | zero =>
    intro i hi
    obtain rfl : i = n + 1 - m := by omega
    exact br_t ((wm_sl hn hm (by omega)).mpr (Nat.le_refl _)) hp
  | succ d ih =>
    intro i hi
    have h := ih (i + 1) (by omega)
    have hs : ¬ nI n - nI m < nI i := fun z => absurd ((wm_sl hn hm (by omega)).mp z) (by omega)
    refine br_f hs (wm_yc hn hm (by omega) (by omega) ?_)
    by_cases hc : nI (wm_dc t p n i m) ≤ k
    · rw [wm_ca_t (f := fun i => wm_dc t p n i m) hc] at h
      exact br_f (Int32.not_lt.mpr hc) (nm_r (nI_1 _) (nm_r (nI_1 i) h))
    · rw [wm_ca_f (f := fun i => wm_dc t p n i m) hc] at h
      exact br_t (Int32.not_le.mp hc) (nm_r (nI_1 i) h)
theorem wm_yw {t p : Nat → Int32} {n m : Nat} {k : Int32} {post : Int32 → Prop} (hn : n ≤ 40) (hm : m ≤ 12) (hp : post (nI (wm_ca (fun i => wm_dc t p n i m) k (n + 1 - m)))) : wpY_within post (nI n, nI m, t, p) k := by
  have h := wm_ywl t p n m k hn hm post hp (n + 1 - m) 0 (by omega)
  rw [show wm_ca (fun i => wm_dc t p n i m) k 0 = 0 from rfl, nI_0] at h
  unfold wpY_within
  exact ⟨_, h⟩
theorem wm_le0 {d : Nat} (hd : d < 2 ^ 31) : nI d ≤ 0 ↔ nI d = 0 := by
  rw [← nI_0, nI_leI hd (by omega), nI_eq hd (by omega)]
  omega
/-- the same with k = 0: Y's matchCount -/
theorem wm_yml (t p : Nat → Int32) (n m : Nat) (hn : n ≤ 40) (hm : m ≤ 12) (post : Int32 → Prop) (hp : post (nI (wm_ca (fun i => wm_dc t p n i m) 0 (n + 1 - m)))) :
    ∀ d i, i + d = n + 1 - m → wY_matchCount_4 post (nI n) (nI m) t p (d + 1) (nI (wm_ca (fun i => wm_dc t p n i m) 0 i)) (nI i) := by
  intro d
  induction d with
  | zero =>
    intro i hi
    obtain rfl : i = n + 1 - m := by omega
    exact br_t ((wm_sl hn hm (by omega)).mpr (Nat.le_refl _)) hp
  | succ d ih =>
    intro i hi
    have h := ih (i + 1) (by omega)
    have hs : ¬ nI n - nI m < nI i := fun z => absurd ((wm_sl hn hm (by omega)).mp z) (by omega)
    have hd : wm_dc t p n i m < 2 ^ 31 := by
      have := wm_dc_le t p n i m
      omega
    refine br_f hs (wm_ymt hn hm (by omega) (fun e => ?_) (fun e => ?_))
    · rw [wm_ca_t (f := fun i => wm_dc t p n i m) ((wm_le0 hd).mpr e)] at h
      exact br_f (by decide) (nm_r (nI_1 _) (nm_r (nI_1 i) h))
    · rw [wm_ca_f (f := fun i => wm_dc t p n i m) (fun z => e ((wm_le0 hd).mp z))] at h
      exact br_t rfl (nm_r (nI_1 i) h)
theorem wm_ym {t p : Nat → Int32} {n m : Nat} {post : Int32 → Prop} (hn : n ≤ 40) (hm : m ≤ 12) (hp : post (nI (wm_ca (fun i => wm_dc t p n i m) 0 (n + 1 - m)))) : wpY_matchCount post (nI n, nI m, t, p) := by
  have h := wm_yml t p n m hn hm post hp (n + 1 - m) 0 (by omega)
  rw [show wm_ca (fun i => wm_dc t p n i m) 0 0 = 0 from rfl, nI_0] at h
  unfold wpY_matchCount
  exact ⟨_, h⟩
/-- the next match from i, in lockstep, where x is at most i -/
theorem wm_nm (t p : Nat → Int32) (n m : Nat) (x : Int32) (hn : n ≤ 40) (hm : m ≤ 12) :
    ∀ d i : Nat, i + d = n + 1 - m → x.toInt ≤ (i : Int) → ∃ r : Int32, (∀ post : Int32 → Prop, post r → wX_nextMatch_18 post (nI (n + 1 - m)) (nI n) (nI m) t p (d + 1) (nI i)) ∧ (∀ post : Int32 → Prop, post r → wY_nextMatch_2 post x (nI n) (nI m) t p (d + 1) (nI i)) := by
  intro d
  induction d with
  | zero =>
    intro i hi hx
    obtain rfl : i = n + 1 - m := by omega
    exact ⟨-3, fun post hp => br_t (nI_le (Nat.le_refl _) (by omega)) hp, fun post hp => br_t ((wm_sl hn hm (by omega)).mpr (Nat.le_refl _)) hp⟩
  | succ d ih =>
    intro i hi hx
    have hs : ¬ nI n - nI m < nI i := fun z => absurd ((wm_sl hn hm (by omega)).mp z) (by omega)
    have hg : ¬ nI (n + 1 - m) ≤ nI i := nI_ge (by omega) (by omega)
    have hl : ¬ nI i < x := by
      rw [Int32.lt_iff_toInt_lt, nI_toInt (by omega)]
      omega
    by_cases e : nI (wm_dc t p n i m) = 0
    · refine ⟨nI i, fun post hp => ?_, fun post hp => ?_⟩
      · exact br_f hg (wm_xc hn hm (by omega) (Or.inr (by omega)) (br_t e hp))
      · exact br_f hs (br_f hl (wm_ymt hn hm (by omega) (fun _ => br_f (by decide) hp) (fun z => absurd e z)))
    · obtain ⟨r, hX, hY⟩ := ih (i + 1) (by omega) (by omega)
      refine ⟨r, fun post hp => ?_, fun post hp => ?_⟩
      · exact br_f hg (wm_xc hn hm (by omega) (Or.inr (by omega)) (br_f e (nm_r (nI_1 i) (hX post hp))))
      · exact br_f hs (br_f hl (wm_ymt hn hm (by omega) (fun z => absurd z e) (fun _ => br_t rfl (nm_r (nI_1 i) (hY post hp)))))
/-- Y passes over the shifts below x -/
theorem wm_sk (t p : Nat → Int32) (n m b e : Nat) (x : Int32) (hn : n ≤ 40) (hm : m ≤ 12) (hb : b ≤ n + 1 - m) (hx : (b : Int) ≤ x.toInt) (post : Int32 → Prop) (h : wY_nextMatch_2 post x (nI n) (nI m) t p e (nI b)) :
    ∀ d i : Nat, i + d = b → wY_nextMatch_2 post x (nI n) (nI m) t p (e + d) (nI i) := by
  intro d
  induction d with
  | zero =>
    intro i hi
    obtain rfl : i = b := by omega
    exact h
  | succ d ih =>
    intro i hi
    have hs : ¬ nI n - nI m < nI i := fun z => absurd ((wm_sl hn hm (by omega)).mp z) (by omega)
    have hl : nI i < x := by
      rw [Int32.lt_iff_toInt_lt, nI_toInt (by omega)]
      omega
    exact br_f hs (br_t hl (nm_r (nI_1 i) (ih (i + 1) (by omega))))
/-- the best shift from i on, in lockstep -/
theorem wm_bs (t p : Nat → Int32) (n m : Nat) (hn : n ≤ 40) (hm : m ≤ 12) :
    ∀ (d i : Nat) (b w : Int32), i + d = n + 1 - m → ∃ r : Int32, (∀ post : Int32 → Prop, post r → wX_bestShift_14 post (nI (n + 1 - m)) (nI n) (nI m) t p (d + 1) b w (nI i)) ∧ (∀ post : Int32 → Prop, post r → wY_bestShift_8 post (nI n) (nI m) t p (d + 1) b w (nI i)) := by
  intro d
  induction d with
  | zero =>
    intro i b w hi
    obtain rfl : i = n + 1 - m := by omega
    exact ⟨b, fun post hp => br_t (nI_le (Nat.le_refl _) (by omega)) hp, fun post hp => br_t ((wm_sl hn hm (by omega)).mpr (Nat.le_refl _)) hp⟩
  | succ d ih =>
    intro i b w hi
    have hs : ¬ nI n - nI m < nI i := fun z => absurd ((wm_sl hn hm (by omega)).mp z) (by omega)
    have hg : ¬ nI (n + 1 - m) ≤ nI i := nI_ge (by omega) (by omega)
    by_cases e : w ≤ nI (wm_dc t p n i m)
    · obtain ⟨r, hX, hY⟩ := ih (i + 1) b w (by omega)
      refine ⟨r, fun post hp => ?_, fun post hp => ?_⟩
      · exact br_f hg (wm_xc hn hm (by omega) (Or.inr (by omega)) (br_t e (nm_r (nI_1 i) (hX post hp))))
      · exact br_f hs (wm_yc hn hm (by omega) (by omega) (br_t e (nm_r (nI_1 i) (hY post hp))))
    · obtain ⟨r, hX, hY⟩ := ih (i + 1) (nI i) (nI (wm_dc t p n i m)) (by omega)
      refine ⟨r, fun post hp => ?_, fun post hp => ?_⟩
      · exact br_f hg (wm_xc hn hm (by omega) (Or.inr (by omega)) (br_f e (nm_r (nI_1 i) (hX post hp))))
      · exact br_f hs (wm_yc hn hm (by omega) (by omega) (br_f e (nm_r (nI_1 i) (hY post hp))))
/-- the whole: X begins at 13, Y at 100; a count is at most 12 -/
theorem wm_best (t p : Nat → Int32) (n m : Nat) (hn : n ≤ 40) (hm : m ≤ 12) :
    ∃ (r : Int32) (f : Nat), (∀ post : Int32 → Prop, post r → wX_bestShift_14 post (nI (n + 1 - m)) (nI n) (nI m) t p f (-3) 13 0) ∧ (∀ post : Int32 → Prop, post r → wY_bestShift_8 post (nI n) (nI m) t p f (-3) 100 0) := by
  by_cases h0 : n + 1 - m = 0
  · refine ⟨-3, 1, fun post hp => br_t ?_ hp, fun post hp => br_t ?_ hp⟩
    · rw [h0, nI_0]
      exact Int32.le_refl _
    · rw [← nI_0, wm_sl hn hm (by omega)]
      omega
  · obtain ⟨r, hX, hY⟩ := wm_bs t p n m hn hm (n - m) 1 (nI 0) (nI (wm_dc t p n 0 m)) (by omega)
    have hd := wm_dc_le t p n 0 m
    have h13 : ¬ (13 : Int32) ≤ nI (wm_dc t p n 0 m) := nI_ge (b := 13) (by omega) (by omega)
    have h100 : ¬ (100 : Int32) ≤ nI (wm_dc t p n 0 m) := nI_ge (b := 100) (by omega) (by omega)
    have hs : ¬ nI n - nI m < nI 0 := fun z => absurd ((wm_sl hn hm (by omega)).mp z) (by omega)
    have hg : ¬ nI (n + 1 - m) ≤ nI 0 := nI_ge (by omega) (by omega)
    refine ⟨r, n - m + 1 + 1, fun post hp => ?_, fun post hp => ?_⟩
    · rw [← nI_0]
      exact br_f hg (wm_xc hn hm (by omega) (Or.inr (by omega)) (br_f h13 (nm_r (nI_1 0) (hX post hp))))
    · rw [← nI_0]
      exact br_f hs (wm_yc hn hm (by omega) (by omega) (br_f h100 (nm_r (nI_1 0) (hY post hp))))
