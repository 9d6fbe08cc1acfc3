/-! shorten in lockstep: both sides move the letters down by one, one after the other -/
theorem wm_sh0 (p : Nat → Int32) (n m : Nat) (hn : n ≤ 40) :
    ∀ (d i : Nat) (t : Nat → Int32), i + d = n → 1 ≤ i → ∃ t' : Nat → Int32,
      (∀ post : Int32 → SX → Prop, post (nI (n - 1)) (nI (n - 1), nI m, t', p) → wX_shorten_15 post 0 (nI n) (d + 1) (nI i) (nI n) (nI m) t p) ∧
      (∀ post : Int32 → SY → Prop, post (nI (n - 1)) (nI (n - 1), nI m, t', p) → wY_shorten_63 post (nI n) (nI m) (d + 1) (nI i) t p) := by
  intro d
  induction d with
  | zero =>
    intro i t hi h1
    obtain ⟨c, rfl⟩ : ∃ c, n = c + 1 := ⟨n - 1, by omega⟩
    obtain rfl : i = c + 1 := by omega
    refine ⟨t, fun post hp => br_t (nI_le (Nat.le_refl _) (by omega)) ?_, fun post hp => br_t (nI_le (Nat.le_refl _) (by omega)) (nm_r (nI_pred c) hp)⟩
    rw [nI_pred c]
    unfold wpX_setLength
    exact br_t rfl hp
  | succ d ih =>
    intro i t hi h1
    obtain ⟨c, rfl⟩ : ∃ c, i = c + 1 := ⟨i - 1, by omega⟩
    obtain ⟨t', hX, hY⟩ := ih (c + 1 + 1) (upd t c (t (c + 1))) (by omega) (by omega)
    have hg : ¬ nI n ≤ nI (c + 1) := nI_ge (by omega) (by omega)
    refine ⟨t', fun post hp => br_f hg ?_, fun post hp => br_f hg ?_⟩
    · unfold wpX_get
      refine br_t rfl ⟨vp_in_nI (by omega) (by omega), ?_⟩
      unfold wpX_put
      rw [nI_pred c, nI_clamp (n := c) (by omega), nI_clamp (n := c + 1) (by omega)]
      exact br_t rfl ⟨vp_in_nI (by omega) (by omega), nm_e (nm_r (nI_1 (c + 1)) (hX post hp))⟩
    · rw [nI_pred c, nI_clamp (n := c) (by omega), nI_clamp (n := c + 1) (by omega)]
      exact ⟨vp_in_nI (by omega) (by omega), vp_in_nI (by omega) (by omega), nm_e (nm_r (nI_1 (c + 1)) (hY post hp))⟩
theorem wm_sh1 (t : Nat → Int32) (n m : Nat) (hm : m ≤ 12) :
    ∀ (d i : Nat) (p : Nat → Int32), i + d = m → 1 ≤ i → ∃ p' : Nat → Int32,
      (∀ post : Int32 → SX → Prop, post (nI (m - 1)) (nI n, nI (m - 1), t, p') → wX_shorten_15 post 1 (nI m) (d + 1) (nI i) (nI n) (nI m) t p) ∧
      (∀ post : Int32 → SY → Prop, post (nI (m - 1)) (nI n, nI (m - 1), t, p') → wY_shorten_18 post (nI n) (nI m) (d + 1) (nI i) t p) := by
  intro d
  induction d with
  | zero =>
    intro i p hi h1
    obtain ⟨c, rfl⟩ : ∃ c, m = c + 1 := ⟨m - 1, by omega⟩
    obtain rfl : i = c + 1 := by omega
    refine ⟨p, fun post hp => br_t (nI_le (Nat.le_refl _) (by omega)) ?_, fun post hp => br_t (nI_le (Nat.le_refl _) (by omega)) (nm_r (nI_pred c) hp)⟩
    rw [nI_pred c]
    unfold wpX_setLength
    exact br_f (by decide) hp
  | succ d ih =>
    intro i p hi h1
    obtain ⟨c, rfl⟩ : ∃ c, i = c + 1 := ⟨i - 1, by omega⟩
    obtain ⟨p', hX, hY⟩ := ih (c + 1 + 1) (upd p c (p (c + 1))) (by omega) (by omega)
    have hg : ¬ nI m ≤ nI (c + 1) := nI_ge (by omega) (by omega)
    refine ⟨p', fun post hp => br_f hg ?_, fun post hp => br_f hg ?_⟩
    · unfold wpX_get
      refine br_f (by decide) ⟨vp_in_nI (by omega) (by omega), ?_⟩
      unfold wpX_put
      rw [nI_pred c, nI_clamp (n := c) (by omega), nI_clamp (n := c + 1) (by omega)]
      exact br_f (by decide) ⟨vp_in_nI (by omega) (by omega), nm_e (nm_r (nI_1 (c + 1)) (hX post hp))⟩
    · rw [nI_pred c, nI_clamp (n := c) (by omega), nI_clamp (n := c + 1) (by omega)]
      exact ⟨vp_in_nI (by omega) (by omega), vp_in_nI (by omega) (by omega), nm_e (nm_r (nI_1 (c + 1)) (hY post hp))⟩
/-! whether a place holds a letter: a number below the length -/
theorem wm_xhn {t p : Nat → Int32} {n m : Nat} {b x : Int32} {post : Int32 → Prop} (hx : x < 0) (h : post 0) : wpX_hasPlace post (nI n, nI m, t, p) b x := by
  unfold wpX_hasPlace
  exact br_t hx h
theorem wm_xh0 {t p : Nat → Int32} {n m j : Nat} {post : Int32 → Prop} (hn : n ≤ 40) (hj : j < 2 ^ 31) (ht : j < n → post 1) (hf : n ≤ j → post 0) : wpX_hasPlace post (nI n, nI m, t, p) 0 (nI j) := by
  unfold wpX_hasPlace wpX_lengthOf
  exact br_f (nI_pos hj) (br_t rfl (pk_le n j hf ht))
theorem wm_xh1 {t p : Nat → Int32} {n m j : Nat} {post : Int32 → Prop} (hm : m ≤ 12) (hj : j < 2 ^ 31) (ht : j < m → post 1) (hf : m ≤ j → post 0) : wpX_hasPlace post (nI n, nI m, t, p) 1 (nI j) := by
  unfold wpX_hasPlace wpX_lengthOf
  exact br_f (nI_pos hj) (br_f (by decide) (pk_le m j hf ht))
theorem wm_yhn {t p : Nat → Int32} {n m : Nat} {b x : Int32} {post : Int32 → Prop} (hx : x < 0) (h : post 0) : wpY_isLetter post (nI n, nI m, t, p) b x := by
  unfold wpY_isLetter
  exact br_t hx h
theorem wm_yh0 {t p : Nat → Int32} {n m j : Nat} {post : Int32 → Prop} (hn : n ≤ 40) (hj : j < 2 ^ 31) (ht : j < n → post 1) (hf : n ≤ j → post 0) : wpY_isLetter post (nI n, nI m, t, p) 0 (nI j) := by
  unfold wpY_isLetter wY_isLetter_20
  exact br_f (nI_pos hj) (br_t rfl (pk_le n j hf ht))
theorem wm_yh1 {t p : Nat → Int32} {n m j : Nat} {post : Int32 → Prop} (hm : m ≤ 12) (hj : j < 2 ^ 31) (ht : j < m → post 1) (hf : m ≤ j → post 0) : wpY_isLetter post (nI n, nI m, t, p) 1 (nI j) := by
  unfold wpY_isLetter wY_isLetter_20
  exact br_f (nI_pos hj) (br_f (by decide) (pk_le m j hf ht))
