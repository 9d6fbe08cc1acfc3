/-- both hold the same text (n letters) and the same pattern (m letters) -/
def i_Rel (_k : Nat) (u : SX) (v : SY) : Prop := ∃ (n m : Nat) (t p : Nat → Int32), n ≤ 40 ∧ m ≤ 12 ∧ u = (nI n, nI m, t, p) ∧ v = (nI n, nI m, t, p)
theorem i_up {k : Nat} {u : SX} {v : SY} (h : i_Rel k u v) : i_Rel (k + 4) u v := h
theorem wm_J {k n m : Nat} {t p : Nat → Int32} (hn : n ≤ 40) (hm : m ≤ 12) : i_Rel k (nI n, nI m, t, p) (nI n, nI m, t, p) := ⟨n, m, t, p, hn, hm, rfl, rfl⟩
theorem i_vc0 : wpX_init (fun u => wpY_init (fun v => i_Rel 0 u v)) := wm_J (k := 0) (n := 0) (m := 0) (Nat.zero_le _) (Nat.zero_le _)
theorem i_vc_type {k : Nat} {u : SX} {v : SY} (I : i_Rel k u v) (hk : k + 4 ≤ 2048) (v1 : Int32) (v2 : Int32) : wpX_type (fun r u' => wpY_type (fun r' v' => r' = r ∧ i_Rel (k + 4) u' v') v (lw_bz v1) v2) u (lw_bz v1) v2 := by
  obtain ⟨n, m, t, p, hn, hm, rfl, rfl⟩ := I
  rcases lw_bz_01 v1 with e | e
  · rw [e]
    unfold wpX_type wpX_lengthOf wX_type_17
    refine br_t rfl (br_t rfl ?_)
    by_cases hf : n < 40
    · have hlt : nI n < 40 := nI_lt (b := 40) hf (by omega)
      have hne : ¬ nI n = 40 := fun z => absurd ((nI_eq (b := 40) (by omega) (by omega)).mp z) (by omega)
      refine br_t hlt ?_
      unfold wpX_isLetter wpY_type wY_type_27
      by_cases h0 : v2 < 0
      · exact br_t h0 (br_t rfl (br_t rfl (br_f hne (br_t h0 ⟨rfl, wm_J hn hm⟩))))
      · by_cases h4 : 4 < v2
        · exact br_f h0 (br_t h4 (br_t rfl (br_t rfl (br_f hne (br_f h0 (br_f (Int32.not_le.mpr h4) ⟨rfl, wm_J hn hm⟩))))))
        · refine br_f h0 (br_f h4 (br_f (by decide) ?_))
          unfold wpX_put wpX_setLength
          rw [nI_1 n, nI_clamp (n := n) (by omega)]
          refine br_t rfl ⟨vp_in_nI hf (by omega), nm_e (br_t rfl (br_t rfl (br_f hne (br_f h0 (br_t (Int32.not_lt.mp h4) (br_t rfl ⟨vp_in_nI hf (by omega), nm_r (e' := upd t n v2) (by rw [nI_clamp (n := n) (by omega)]) (nm_r (nI_1 n) ?_)⟩))))))⟩
          exact ⟨rfl, wm_J (by omega) hm⟩
    · obtain rfl : n = 40 := by omega
      refine br_f (nI_nlt (b := 40) (Nat.le_refl _) (by omega)) ?_
      unfold wpY_type
      exact br_t rfl (br_t rfl ⟨rfl, wm_J hn hm⟩)
  · rw [e]
    unfold wpX_type wpX_lengthOf wX_type_17
    refine br_f (by decide) (br_f (by decide) ?_)
    by_cases hf : m < 12
    · have hlt : nI m < 12 := nI_lt (b := 12) hf (by omega)
      have hne : ¬ nI m = 12 := fun z => absurd ((nI_eq (b := 12) (by omega) (by omega)).mp z) (by omega)
      refine br_t hlt ?_
      unfold wpX_isLetter wpY_type wY_type_27
      by_cases h0 : v2 < 0
      · exact br_t h0 (br_t rfl (br_f (by decide) (br_f hne (br_t h0 ⟨rfl, wm_J hn hm⟩))))
      · by_cases h4 : 4 < v2
        · exact br_f h0 (br_t h4 (br_t rfl (br_f (by decide) (br_f hne (br_f h0 (br_f (Int32.not_le.mpr h4) ⟨rfl, wm_J hn hm⟩))))))
        · refine br_f h0 (br_f h4 (br_f (by decide) ?_))
          unfold wpX_put wpX_setLength
          rw [nI_1 m, nI_clamp (n := m) (by omega)]
          refine br_f (by decide) ⟨vp_in_nI hf (by omega), nm_e (br_f (by decide) (br_f (by decide) (br_f hne (br_f h0 (br_t (Int32.not_lt.mp h4) (br_f (by decide) ⟨vp_in_nI hf (by omega), nm_r (e' := upd p m v2) (by rw [nI_clamp (n := m) (by omega)]) (nm_r (nI_1 m) ?_)⟩))))))⟩
          exact ⟨rfl, wm_J hn (by omega)⟩
    · obtain rfl : m = 12 := by omega
      refine br_f (nI_nlt (b := 12) (Nat.le_refl _) (by omega)) ?_
      unfold wpY_type
      exact br_f (by decide) (br_t rfl ⟨rfl, wm_J hn hm⟩)
theorem i_vc_replace {k : Nat} {u : SX} {v : SY} (I : i_Rel k u v) (hk : k + 4 ≤ 2048) (v1 : Int32) (v2 : Int32) (v3 : Int32) : wpX_replace (fun r u' => wpY_replace (fun r' v' => r' = r ∧ i_Rel (k + 4) u' v') v (lw_bz v1) v2 v3) u (lw_bz v1) v2 v3 := by
  obtain ⟨n, m, t, p, hn, hm, rfl, rfl⟩ := I
  by_cases hx : v2 < 0
  · unfold wpX_replace wpY_replace
    exact wm_xhn hx (br_t rfl (wm_yhn hx (br_t rfl ⟨rfl, wm_J hn hm⟩)))
  · obtain ⟨j, hj, rfl⟩ := nI_of hx
    rcases lw_bz_01 v1 with e | e
    · rw [e]
      unfold wpX_replace
      refine wm_xh0 hn hj (fun hl => br_f (by decide) ?_) (fun hl => br_t rfl ?_)
      · unfold wpX_isLetter wpY_replace
        by_cases h0 : v3 < 0
        · exact br_t h0 (br_t rfl (wm_yh0 hn hj (fun _ => br_f (by decide) (br_t h0 ⟨rfl, wm_J hn hm⟩)) (fun z => absurd z (by omega))))
        · by_cases h4 : 4 < v3
          · exact br_f h0 (br_t h4 (br_t rfl (wm_yh0 hn hj (fun _ => br_f (by decide) (br_f h0 (br_f (Int32.not_le.mpr h4) ⟨rfl, wm_J hn hm⟩))) (fun z => absurd z (by omega)))))
          · refine br_f h0 (br_f h4 (br_f (by decide) ?_))
            unfold wpX_put
            refine br_t rfl ⟨vp_in_nI (by omega) (by omega), nm_e (wm_yh0 hn hj (fun _ => br_f (by decide) (br_f h0 (br_t (Int32.not_lt.mp h4) (br_t rfl ⟨vp_in_nI (by omega) (by omega), nm_e ?_⟩)))) (fun z => absurd z (by omega)))⟩
            exact ⟨rfl, wm_J hn hm⟩
      · unfold wpY_replace
        exact wm_yh0 hn hj (fun z => absurd z (by omega)) (fun _ => br_t rfl ⟨rfl, wm_J hn hm⟩)
    · rw [e]
      unfold wpX_replace
      refine wm_xh1 hm hj (fun hl => br_f (by decide) ?_) (fun hl => br_t rfl ?_)
      · unfold wpX_isLetter wpY_replace
        by_cases h0 : v3 < 0
        · exact br_t h0 (br_t rfl (wm_yh1 hm hj (fun _ => br_f (by decide) (br_t h0 ⟨rfl, wm_J hn hm⟩)) (fun z => absurd z (by omega))))
        · by_cases h4 : 4 < v3
          · exact br_f h0 (br_t h4 (br_t rfl (wm_yh1 hm hj (fun _ => br_f (by decide) (br_f h0 (br_f (Int32.not_le.mpr h4) ⟨rfl, wm_J hn hm⟩))) (fun z => absurd z (by omega)))))
          · refine br_f h0 (br_f h4 (br_f (by decide) ?_))
            unfold wpX_put
            refine br_f (by decide) ⟨vp_in_nI (by omega) (by omega), nm_e (wm_yh1 hm hj (fun _ => br_f (by decide) (br_f h0 (br_t (Int32.not_lt.mp h4) (br_f (by decide) ⟨vp_in_nI (by omega) (by omega), nm_e ?_⟩)))) (fun z => absurd z (by omega)))⟩
            exact ⟨rfl, wm_J hn hm⟩
      · unfold wpY_replace
        exact wm_yh1 hm hj (fun z => absurd z (by omega)) (fun _ => br_t rfl ⟨rfl, wm_J hn hm⟩)
theorem i_vc_shorten {k : Nat} {u : SX} {v : SY} (I : i_Rel k u v) (hk : k + 4 ≤ 2048) (v1 : Int32) : wpX_shorten (fun r u' => wpY_shorten (fun r' v' => r' = r ∧ i_Rel (k + 4) u' v') v (lw_bz v1)) u (lw_bz v1) := by
  obtain ⟨n, m, t, p, hn, hm, rfl, rfl⟩ := I
  rcases lw_bz_01 v1 with e | e
  · rw [e]
    unfold wpX_shorten wpX_lengthOf
    refine br_t rfl ?_
    by_cases hz : n = 0
    · subst hz
      refine br_t rfl ?_
      unfold wpY_shorten
      exact wm_yh0 (j := 0) hn (by omega) (fun z => absurd z (by omega)) (fun _ => br_t rfl ⟨rfl, wm_J hn hm⟩)
    · obtain ⟨t', hX, hY⟩ := wm_sh0 p n m hn (n - 1) 1 t (by omega) (by omega)
      refine br_f (nI_ne0 (by omega) (by omega)) ⟨_, hX _ ?_⟩
      unfold wpY_shorten
      exact wm_yh0 (j := 0) hn (by omega) (fun _ => br_f (by decide) (br_t rfl ⟨_, hY _ ⟨rfl, wm_J (by omega) hm⟩⟩)) (fun z => absurd z (by omega))
  · rw [e]
    unfold wpX_shorten wpX_lengthOf
    refine br_f (by decide) ?_
    by_cases hz : m = 0
    · subst hz
      refine br_t rfl ?_
      unfold wpY_shorten
      exact wm_yh1 (j := 0) hm (by omega) (fun z => absurd z (by omega)) (fun _ => br_t rfl ⟨rfl, wm_J hn hm⟩)
    · obtain ⟨p', hX, hY⟩ := wm_sh1 t n m hm (m - 1) 1 p (by omega) (by omega)
      refine br_f (nI_ne0 (by omega) (by omega)) ⟨_, hX _ ?_⟩
      unfold wpY_shorten
      exact wm_yh1 (j := 0) hm (by omega) (fun _ => br_f (by decide) (br_f (by decide) ⟨_, hY _ ⟨rfl, wm_J hn (by omega)⟩⟩)) (fun z => absurd z (by omega))
theorem i_vc_letter {k : Nat} {u : SX} {v : SY} (I : i_Rel k u v) (hk : k + 4 ≤ 2048) (v1 : Int32) (v2 : Int32) : wpX_letter (fun r => wpY_letter (fun r' => r' = r ∧ i_Rel (k + 4) u v) v (lw_bz v1) v2) u (lw_bz v1) v2 := by
  obtain ⟨n, m, t, p, hn, hm, rfl, rfl⟩ := I
  by_cases hx : v2 < 0
  · unfold wpX_letter wpY_letter
    exact wm_xhn hx (br_t rfl (wm_yhn hx (br_t rfl ⟨rfl, wm_J hn hm⟩)))
  · obtain ⟨j, hj, rfl⟩ := nI_of hx
    rcases lw_bz_01 v1 with e | e
    · rw [e]
      unfold wpX_letter
      refine wm_xh0 hn hj (fun hl => br_f (by decide) ?_) (fun hl => br_t rfl ?_)
      · unfold wpX_get wpY_letter
        exact br_t rfl ⟨vp_in_nI (by omega) (by omega), wm_yh0 hn hj (fun _ => br_f (by decide) (br_t rfl ⟨vp_in_nI (by omega) (by omega), rfl, wm_J hn hm⟩)) (fun z => absurd z (by omega))⟩
      · unfold wpY_letter
        exact wm_yh0 hn hj (fun z => absurd z (by omega)) (fun _ => br_t rfl ⟨rfl, wm_J hn hm⟩)
    · rw [e]
      unfold wpX_letter
      refine wm_xh1 hm hj (fun hl => br_f (by decide) ?_) (fun hl => br_t rfl ?_)
      · unfold wpX_get wpY_letter
        exact br_f (by decide) ⟨vp_in_nI (by omega) (by omega), wm_yh1 hm hj (fun _ => br_f (by decide) (br_f (by decide) ⟨vp_in_nI (by omega) (by omega), rfl, wm_J hn hm⟩)) (fun z => absurd z (by omega))⟩
      · unfold wpY_letter
        exact wm_yh1 hm hj (fun z => absurd z (by omega)) (fun _ => br_t rfl ⟨rfl, wm_J hn hm⟩)
theorem i_vc_length {k : Nat} {u : SX} {v : SY} (I : i_Rel k u v) (hk : k + 4 ≤ 2048) (v1 : Int32) : wpX_length (fun r => wpY_length (fun r' => r' = r ∧ i_Rel (k + 4) u v) v (lw_bz v1)) u (lw_bz v1) := by
  obtain ⟨n, m, t, p, hn, hm, rfl, rfl⟩ := I
  unfold wpX_length wpX_lengthOf wpY_length
  rcases lw_bz_01 v1 with e | e
  · rw [e]
    exact br_t rfl (br_t rfl ⟨rfl, wm_J hn hm⟩)
  · rw [e]
    exact br_f (by decide) (br_f (by decide) ⟨rfl, wm_J hn hm⟩)
theorem i_vc_matches {k : Nat} {u : SX} {v : SY} (I : i_Rel k u v) (hk : k + 4 ≤ 2048) (v1 : Int32) : wpX_matches (fun r => wpY_matches (fun r' => r' = r ∧ i_Rel (k + 4) u v) v v1) u v1 := by
  obtain ⟨n, m, t, p, hn, hm, rfl, rfl⟩ := I
  by_cases hx : v1 < 0
  · unfold wpX_matches wpY_matches
    exact wm_xisn hx (br_t rfl (wm_yisn hx (br_t rfl ⟨rfl, wm_J hn hm⟩)))
  · obtain ⟨j, hj, rfl⟩ := nI_of hx
    by_cases hs : j < n + 1 - m
    · unfold wpX_matches
      refine wm_xist hn hm hs (br_f (by decide) (wm_xc hn hm (by omega) (Or.inr (by omega)) ?_))
      refine br_c (fun z => ?_) (fun z => ?_)
      · exact wm_ymt hn hm hs (fun _ => ⟨rfl, wm_J hn hm⟩) (fun y => absurd z y)
      · exact wm_ymt hn hm hs (fun y => absurd y z) (fun _ => ⟨rfl, wm_J hn hm⟩)
    · unfold wpX_matches wpY_matches
      exact wm_xisf hn hm (by omega) hj (br_t rfl (wm_yisf hn hm (by omega) hj (br_t rfl ⟨rfl, wm_J hn hm⟩)))
theorem i_vc_matchCount {k : Nat} {u : SX} {v : SY} (I : i_Rel k u v) (hk : k + 4 ≤ 2048) : wpX_matchCount (fun r => wpY_matchCount (fun r' => r' = r ∧ i_Rel (k + 4) u v) v) u := by
  obtain ⟨n, m, t, p, hn, hm, rfl, rfl⟩ := I
  unfold wpX_matchCount
  exact wm_xa hn hm (wm_ym hn hm ⟨rfl, wm_J hn hm⟩)
theorem i_vc_nextMatch {k : Nat} {u : SX} {v : SY} (I : i_Rel k u v) (hk : k + 4 ≤ 2048) (v1 : Int32) : wpX_nextMatch (fun r => wpY_nextMatch (fun r' => r' = r ∧ i_Rel (k + 4) u v) v v1) u v1 := by
  obtain ⟨n, m, t, p, hn, hm, rfl, rfl⟩ := I
  unfold wpX_nextMatch wpY_nextMatch
  refine wm_xsc hn hm ?_
  by_cases hx : v1 < 0
  · have h0 : v1.toInt ≤ ((0 : Nat) : Int) := by
      rw [Int32.lt_iff_toInt_lt, show (0 : Int32).toInt = 0 from by decide] at hx
      omega
    obtain ⟨r, hX, hY⟩ := wm_nm t p n m v1 hn hm (n + 1 - m) 0 (by omega) h0
    rw [nI_0] at hX hY
    exact br_f (Int32.not_le.mpr hx) ⟨_, hX _ ⟨_, hY _ ⟨rfl, wm_J hn hm⟩⟩⟩
  · obtain ⟨j, hj, rfl⟩ := nI_of hx
    refine br_t (Int32.not_lt.mp hx) ?_
    by_cases hs : j < n + 1 - m
    · obtain ⟨r, hX, hY⟩ := wm_nm t p n m (nI j) hn hm (n + 1 - m - j) j (by omega) (by rw [nI_toInt hj]; omega)
      refine ⟨_, hX _ ⟨n + 1 - m - j + 1 + j, ?_⟩⟩
      have h := wm_sk t p n m j _ (nI j) hn hm (by omega) (by rw [nI_toInt hj]; omega) _ (hY (fun r' => r' = r ∧ i_Rel (k + 4) (nI n, nI m, t, p) (nI n, nI m, t, p)) ⟨rfl, wm_J hn hm⟩) j 0 (by omega)
      rw [nI_0] at h
      exact h
    · refine ⟨1, br_t (nI_le (by omega) hj) ⟨1 + (n + 1 - m), ?_⟩⟩
      have hz : wY_nextMatch_2 (fun r' => r' = -3 ∧ i_Rel (k + 4) (nI n, nI m, t, p) (nI n, nI m, t, p)) (nI j) (nI n) (nI m) t p 1 (nI (n + 1 - m)) := br_t ((wm_sl hn hm (by omega)).mpr (Nat.le_refl _)) ⟨rfl, wm_J hn hm⟩
      have h := wm_sk t p n m (n + 1 - m) 1 (nI j) hn hm (Nat.le_refl _) (by rw [nI_toInt hj]; omega) _ hz (n + 1 - m) 0 (by omega)
      rw [nI_0] at h
      exact h
theorem i_vc_mismatches {k : Nat} {u : SX} {v : SY} (I : i_Rel k u v) (hk : k + 4 ≤ 2048) (v1 : Int32) : wpX_mismatches (fun r => wpY_mismatches (fun r' => r' = r ∧ i_Rel (k + 4) u v) v v1) u v1 := by
  obtain ⟨n, m, t, p, hn, hm, rfl, rfl⟩ := I
  unfold wpX_mismatches wpY_mismatches
  by_cases hx : v1 < 0
  · exact wm_xisn hx (br_t rfl (wm_yisn hx (br_t rfl ⟨rfl, wm_J hn hm⟩)))
  · obtain ⟨j, hj, rfl⟩ := nI_of hx
    by_cases hs : j < n + 1 - m
    · refine wm_xist hn hm hs (br_f (by decide) (wm_xc hn hm (by omega) (Or.inr (by omega)) ?_))
      exact wm_yist hn hm hs (br_f (by decide) (wm_yc hn hm (by omega) (by omega) ⟨rfl, wm_J hn hm⟩))
    · exact wm_xisf hn hm (by omega) hj (br_t rfl (wm_yisf hn hm (by omega) hj (br_t rfl ⟨rfl, wm_J hn hm⟩)))
theorem i_vc_bestShift {k : Nat} {u : SX} {v : SY} (I : i_Rel k u v) (hk : k + 4 ≤ 2048) : wpX_bestShift (fun r => wpY_bestShift (fun r' => r' = r ∧ i_Rel (k + 4) u v) v) u := by
  obtain ⟨n, m, t, p, hn, hm, rfl, rfl⟩ := I
  obtain ⟨r, f, hX, hY⟩ := wm_best t p n m hn hm
  unfold wpX_bestShift wpY_bestShift
  exact wm_xsc hn hm ⟨f, hX _ ⟨f, hY _ ⟨rfl, wm_J hn hm⟩⟩⟩
theorem i_vc_within {k : Nat} {u : SX} {v : SY} (I : i_Rel k u v) (hk : k + 4 ≤ 2048) (v1 : Int32) : wpX_within (fun r => wpY_within (fun r' => r' = r ∧ i_Rel (k + 4) u v) v v1) u v1 := by
  obtain ⟨n, m, t, p, hn, hm, rfl, rfl⟩ := I
  unfold wpX_within
  exact wm_xa hn hm (wm_yw hn hm ⟨rfl, wm_J hn hm⟩)
theorem i_vc_turnedMismatches {k : Nat} {u : SX} {v : SY} (I : i_Rel k u v) (hk : k + 4 ≤ 2048) (v1 : Int32) : wpX_turnedMismatches (fun r => wpY_turnedMismatches (fun r' => r' = r ∧ i_Rel (k + 4) u v) v v1) u v1 := by
  obtain ⟨n, m, t, p, hn, hm, rfl, rfl⟩ := I
  unfold wpX_turnedMismatches wpX_isTurnedShift wpY_turnedMismatches
  by_cases hx : v1 < 0
  · exact br_t hx (br_t rfl (br_t hx ⟨rfl, wm_J hn hm⟩))
  · obtain ⟨j, hj, rfl⟩ := nI_of hx
    by_cases h1 : n ≤ j
    · have h : nI n ≤ nI j := nI_le h1 hj
      exact br_f hx (br_t h (br_t rfl (br_f hx (br_t h ⟨rfl, wm_J hn hm⟩))))
    · have h : ¬ nI n ≤ nI j := nI_ge (by omega) (by omega)
      by_cases h2 : n < m
      · have g : nI n < nI m := nI_lt h2 (by omega)
        exact br_f hx (br_f h (br_t g (br_t rfl (br_f hx (br_f h (br_t g ⟨rfl, wm_J hn hm⟩))))))
      · have g : ¬ nI n < nI m := nI_nlt (by omega) (by omega)
        refine br_f hx (br_f h (br_f g (br_f (by decide) (wm_xc hn hm (by omega) (Or.inl (by omega)) ?_))))
        exact br_f hx (br_f h (br_f g (wm_yc hn hm (by omega) (by omega) ⟨rfl, wm_J hn hm⟩)))
