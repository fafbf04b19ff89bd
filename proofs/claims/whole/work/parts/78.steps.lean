set_option maxHeartbeats 1000000 in
theorem ls_0 {kf : mM → mM → Int32 → Option Int32} {L j : Nat} {xs : Nat → Int32} {M T : mM} (hR : Rel M T) (hj : j + 4 < L) (hL : L ≤ 2560) (hk : ∀ M' T' : mM, Rel M' T' → kf M' T' (nI j + 5) = some 1) : fL_0 kf L xs M T (nI j) = some 1 := by
  unfold fL_0
  have g1 : ix (nI j + 1) L = true := by rw [show nI j + 1 = nI (j + 1) from nI_add j 1]; exact ix_nI (by omega) (by omega)
  have g2 : ix (nI j + 2) L = true := by rw [show nI j + 2 = nI (j + 2) from nI_add j 2]; exact ix_nI (by omega) (by omega)
  have g3 : ix (nI j + 3) L = true := by rw [show nI j + 3 = nI (j + 3) from nI_add j 3]; exact ix_nI (by omega) (by omega)
  have g4 : ix (nI j + 4) L = true := by rw [show nI j + 4 = nI (j + 4) from nI_add j 4]; exact ix_nI (by omega) (by omega)
  simp only [gd_t g1, gd_t g2, gd_t g3, gd_t g4]
  obtain ⟨r, M', T', h1, h2, h3⟩ := pm_voter hR (xs (Int32.toNatClampNeg (nI j + 1))) (xs (Int32.toNatClampNeg (nI j + 2))) (xs (Int32.toNatClampNeg (nI j + 3))) (xs (Int32.toNatClampNeg (nI j + 4)))
  rw [b2_s h1]
  rw [b2_s h2]
  rw [if_pos rfl]
  exact hk _ _ h3
set_option maxHeartbeats 1000000 in
theorem ls_1 {kf : mM → mM → Int32 → Option Int32} {L j : Nat} {xs : Nat → Int32} {M T : mM} (hR : Rel M T) (hj : j + 4 < L) (hL : L ≤ 2560) (hk : ∀ M' T' : mM, Rel M' T' → kf M' T' (nI j + 5) = some 1) : fL_1 kf L xs M T (nI j) = some 1 := by
  unfold fL_1
  have g1 : ix (nI j + 1) L = true := by rw [show nI j + 1 = nI (j + 1) from nI_add j 1]; exact ix_nI (by omega) (by omega)
  have g2 : ix (nI j + 2) L = true := by rw [show nI j + 2 = nI (j + 2) from nI_add j 2]; exact ix_nI (by omega) (by omega)
  simp only [gd_t g1, gd_t g2]
  obtain ⟨r, M', T', h1, h2, h3⟩ := pm_voterOf hR (xs (Int32.toNatClampNeg (nI j + 1))) (xs (Int32.toNatClampNeg (nI j + 2)))
  rw [b2_s h1]
  rw [b2_s h2]
  rw [if_pos rfl]
  exact hk _ _ h3
set_option maxHeartbeats 1000000 in
theorem ls_2 {kf : mM → mM → Int32 → Option Int32} {L j : Nat} {xs : Nat → Int32} {M T : mM} (hR : Rel M T) (hj : j + 4 < L) (hL : L ≤ 2560) (hk : ∀ M' T' : mM, Rel M' T' → kf M' T' (nI j + 5) = some 1) : fL_2 kf L xs M T (nI j) = some 1 := by
  unfold fL_2
  have g1 : ix (nI j + 1) L = true := by rw [show nI j + 1 = nI (j + 1) from nI_add j 1]; exact ix_nI (by omega) (by omega)
  have g2 : ix (nI j + 2) L = true := by rw [show nI j + 2 = nI (j + 2) from nI_add j 2]; exact ix_nI (by omega) (by omega)
  have g3 : ix (nI j + 3) L = true := by rw [show nI j + 3 = nI (j + 3) from nI_add j 3]; exact ix_nI (by omega) (by omega)
  simp only [gd_t g1, gd_t g2, gd_t g3]
  obtain ⟨r, M', T', h1, h2, h3⟩ := pm_change hR (xs (Int32.toNatClampNeg (nI j + 1))) (xs (Int32.toNatClampNeg (nI j + 2))) (xs (Int32.toNatClampNeg (nI j + 3)))
  rw [b2_s h1]
  rw [b2_s h2]
  rw [if_pos rfl]
  exact hk _ _ h3
set_option maxHeartbeats 1000000 in
theorem ls_3 {kf : mM → mM → Int32 → Option Int32} {L j : Nat} {xs : Nat → Int32} {M T : mM} (hR : Rel M T) (hj : j + 4 < L) (hL : L ≤ 2560) (hk : ∀ M' T' : mM, Rel M' T' → kf M' T' (nI j + 5) = some 1) : fL_3 kf L xs M T (nI j) = some 1 := by
  unfold fL_3
  have g1 : ix (nI j + 1) L = true := by rw [show nI j + 1 = nI (j + 1) from nI_add j 1]; exact ix_nI (by omega) (by omega)
  have g2 : ix (nI j + 2) L = true := by rw [show nI j + 2 = nI (j + 2) from nI_add j 2]; exact ix_nI (by omega) (by omega)
  simp only [gd_t g1, gd_t g2]
  obtain ⟨r, M', T', h1, h2, h3⟩ := pm_remake hR (xs (Int32.toNatClampNeg (nI j + 1))) (xs (Int32.toNatClampNeg (nI j + 2)))
  rw [b2_s h1]
  rw [b2_s h2]
  rw [if_pos rfl]
  exact hk _ _ h3
set_option maxHeartbeats 1000000 in
theorem ls_4 {kf : mM → mM → Int32 → Option Int32} {L j : Nat} {xs : Nat → Int32} {M T : mM} (hR : Rel M T) (hj : j + 4 < L) (hL : L ≤ 2560) (hk : ∀ M' T' : mM, Rel M' T' → kf M' T' (nI j + 5) = some 1) : fL_4 kf L xs M T (nI j) = some 1 := by
  unfold fL_4
  have g1 : ix (nI j + 1) L = true := by rw [show nI j + 1 = nI (j + 1) from nI_add j 1]; exact ix_nI (by omega) (by omega)
  have g2 : ix (nI j + 2) L = true := by rw [show nI j + 2 = nI (j + 2) from nI_add j 2]; exact ix_nI (by omega) (by omega)
  simp only [gd_t g1, gd_t g2]
  by_cases hz : xs (Int32.toNatClampNeg (nI j + 2)) = 0
  · simp only [if_pos hz]
    obtain ⟨r, M', T', h1, h2, h3⟩ := pm_wakes hR (xs (Int32.toNatClampNeg (nI j + 1))) 0
    rw [b2_s h1]
    rw [b2_s h2]
    rw [if_pos rfl]
    exact hk _ _ h3
  · simp only [if_neg hz]
    obtain ⟨r, M', T', h1, h2, h3⟩ := pm_wakes hR (xs (Int32.toNatClampNeg (nI j + 1))) 1
    rw [b2_s h1]
    rw [b2_s h2]
    rw [if_pos rfl]
    exact hk _ _ h3
set_option maxHeartbeats 1000000 in
theorem ls_5 {kf : mM → mM → Int32 → Option Int32} {L j : Nat} {xs : Nat → Int32} {M T : mM} (hR : Rel M T) (hj : j + 4 < L) (hL : L ≤ 2560) (hk : ∀ M' T' : mM, Rel M' T' → kf M' T' (nI j + 5) = some 1) : fL_5 kf L xs M T (nI j) = some 1 := by
  unfold fL_5
  have g1 : ix (nI j + 1) L = true := by rw [show nI j + 1 = nI (j + 1) from nI_add j 1]; exact ix_nI (by omega) (by omega)
  simp only [gd_t g1]
  obtain ⟨r, M', T', h1, h2, h3⟩ := pm_clock hR (xs (Int32.toNatClampNeg (nI j + 1)))
  rw [b2_s h1]
  rw [b2_s h2]
  rw [if_pos rfl]
  exact hk _ _ h3
set_option maxHeartbeats 1000000 in
theorem ls_6 {kf : mM → mM → Int32 → Option Int32} {L j : Nat} {xs : Nat → Int32} {M T : mM} (hR : Rel M T) (hj : j + 4 < L) (hL : L ≤ 2560) (hk : ∀ M' T' : mM, Rel M' T' → kf M' T' (nI j + 5) = some 1) : fL_6 kf L xs M T (nI j) = some 1 := by
  unfold fL_6
  have g1 : ix (nI j + 1) L = true := by rw [show nI j + 1 = nI (j + 1) from nI_add j 1]; exact ix_nI (by omega) (by omega)
  simp only [gd_t g1]
  obtain ⟨r, M', T', h1, h2, h3⟩ := pm_limit hR (xs (Int32.toNatClampNeg (nI j + 1)))
  rw [b2_s h1]
  rw [b2_s h2]
  rw [if_pos rfl]
  exact hk _ _ h3
set_option maxHeartbeats 1000000 in
theorem ls_7 {kf : mM → mM → Int32 → Option Int32} {L j : Nat} {xs : Nat → Int32} {M T : mM} (hR : Rel M T) (hj : j + 4 < L) (hL : L ≤ 2560) (hk : ∀ M' T' : mM, Rel M' T' → kf M' T' (nI j + 5) = some 1) : fL_7 kf L xs M T (nI j) = some 1 := by
  unfold fL_7
  have g1 : ix (nI j + 1) L = true := by rw [show nI j + 1 = nI (j + 1) from nI_add j 1]; exact ix_nI (by omega) (by omega)
  simp only [gd_t g1]
  obtain ⟨r, h1, h2, h3⟩ := pm_state hR (xs (Int32.toNatClampNeg (nI j + 1)))
  rw [h1]
  rw [b1_s h2]
  rw [if_pos rfl]
  exact hk _ _ h3
set_option maxHeartbeats 1000000 in
theorem ls_8 {kf : mM → mM → Int32 → Option Int32} {L j : Nat} {xs : Nat → Int32} {M T : mM} (hR : Rel M T) (hj : j + 4 < L) (hL : L ≤ 2560) (hk : ∀ M' T' : mM, Rel M' T' → kf M' T' (nI j + 5) = some 1) : fL_8 kf L xs M T (nI j) = some 1 := by
  unfold fL_8
  have g1 : ix (nI j + 1) L = true := by rw [show nI j + 1 = nI (j + 1) from nI_add j 1]; exact ix_nI (by omega) (by omega)
  have g2 : ix (nI j + 2) L = true := by rw [show nI j + 2 = nI (j + 2) from nI_add j 2]; exact ix_nI (by omega) (by omega)
  have g3 : ix (nI j + 3) L = true := by rw [show nI j + 3 = nI (j + 3) from nI_add j 3]; exact ix_nI (by omega) (by omega)
  simp only [gd_t g1, gd_t g2, gd_t g3]
  obtain ⟨r, M', T', h1, h2, h3⟩ := pm_feed hR ((Int32.toInt64 (xs (Int32.toNatClampNeg (nI j + 1))) <<< (Int32.toInt64 32 &&& 63)) ||| (Int32.toInt64 (xs (Int32.toNatClampNeg (nI j + 2))) &&& 4294967295)) (xs (Int32.toNatClampNeg (nI j + 3)))
  rw [b2_s h1]
  rw [b2_s h2]
  rw [if_pos rfl]
  exact hk _ _ h3
set_option maxHeartbeats 1000000 in
theorem ls_9 {kf : mM → mM → Int32 → Option Int32} {L j : Nat} {xs : Nat → Int32} {M T : mM} (hR : Rel M T) (hj : j + 4 < L) (hL : L ≤ 2560) (hk : ∀ M' T' : mM, Rel M' T' → kf M' T' (nI j + 5) = some 1) : fL_9 kf L xs M T (nI j) = some 1 := by
  unfold fL_9
  obtain ⟨r, M', T', h1, h2, h3⟩ := pm_rules hR
  rw [b2_s h1]
  rw [b2_s h2]
  rw [if_pos rfl]
  exact hk _ _ h3
set_option maxHeartbeats 1000000 in
theorem ls_10 {kf : mM → mM → Int32 → Option Int32} {L j : Nat} {xs : Nat → Int32} {M T : mM} (hR : Rel M T) (hj : j + 4 < L) (hL : L ≤ 2560) (hk : ∀ M' T' : mM, Rel M' T' → kf M' T' (nI j + 5) = some 1) : fL_10 kf L xs M T (nI j) = some 1 := by
  unfold fL_10
  obtain ⟨r, M', T', h1, h2, h3⟩ := pm_sum hR
  rw [b2_s h1]
  rw [b2_s h2]
  rw [if_pos rfl]
  exact hk _ _ h3
set_option maxHeartbeats 1000000 in
theorem ls_11 {kf : mM → mM → Int32 → Option Int32} {L j : Nat} {xs : Nat → Int32} {M T : mM} (hR : Rel M T) (hj : j + 4 < L) (hL : L ≤ 2560) (hk : ∀ M' T' : mM, Rel M' T' → kf M' T' (nI j + 5) = some 1) : fL_11 kf L xs M T (nI j) = some 1 := by
  unfold fL_11
  obtain ⟨r, M', T', h1, h2, h3⟩ := pm_noon hR
  rw [b2_s h1]
  rw [b2_s h2]
  rw [if_pos rfl]
  exact hk _ _ h3
set_option maxHeartbeats 1000000 in
theorem ls_12 {kf : mM → mM → Int32 → Option Int32} {L j : Nat} {xs : Nat → Int32} {M T : mM} (hR : Rel M T) (hj : j + 4 < L) (hL : L ≤ 2560) (hk : ∀ M' T' : mM, Rel M' T' → kf M' T' (nI j + 5) = some 1) : fL_12 kf L xs M T (nI j) = some 1 := by
  unfold fL_12
  have g1 : ix (nI j + 1) L = true := by rw [show nI j + 1 = nI (j + 1) from nI_add j 1]; exact ix_nI (by omega) (by omega)
  simp only [gd_t g1]
  obtain ⟨r, M', T', h1, h2, h3⟩ := pm_on hR (xs (Int32.toNatClampNeg (nI j + 1)))
  rw [b2_s h1]
  rw [b2_s h2]
  rw [if_pos rfl]
  exact hk _ _ h3
set_option maxHeartbeats 1000000 in
theorem ls_13 {kf : mM → mM → Int32 → Option Int32} {L j : Nat} {xs : Nat → Int32} {M T : mM} (hR : Rel M T) (hj : j + 4 < L) (hL : L ≤ 2560) (hk : ∀ M' T' : mM, Rel M' T' → kf M' T' (nI j + 5) = some 1) : fL_13 kf L xs M T (nI j) = some 1 := by
  unfold fL_13
  have g1 : ix (nI j + 1) L = true := by rw [show nI j + 1 = nI (j + 1) from nI_add j 1]; exact ix_nI (by omega) (by omega)
  simp only [gd_t g1]
  obtain ⟨r, M', T', h1, h2, h3⟩ := pm_when hR (xs (Int32.toNatClampNeg (nI j + 1)))
  rw [b2_s h1]
  rw [b2_s h2]
  rw [if_pos rfl]
  exact hk _ _ h3
set_option maxHeartbeats 1000000 in
theorem ls_14 {kf : mM → mM → Int32 → Option Int32} {L j : Nat} {xs : Nat → Int32} {M T : mM} (hR : Rel M T) (hj : j + 4 < L) (hL : L ≤ 2560) (hk : ∀ M' T' : mM, Rel M' T' → kf M' T' (nI j + 5) = some 1) : fL_14 kf L xs M T (nI j) = some 1 := by
  unfold fL_14
  have g1 : ix (nI j + 1) L = true := by rw [show nI j + 1 = nI (j + 1) from nI_add j 1]; exact ix_nI (by omega) (by omega)
  simp only [gd_t g1]
  obtain ⟨r, M', T', h1, h2, h3⟩ := pm_cycle hR (xs (Int32.toNatClampNeg (nI j + 1)))
  rw [b2_s h1]
  rw [b2_s h2]
  rw [if_pos rfl]
  exact hk _ _ h3
set_option maxHeartbeats 1000000 in
theorem ls_15 {kf : mM → mM → Int32 → Option Int32} {L j : Nat} {xs : Nat → Int32} {M T : mM} (hR : Rel M T) (hj : j + 4 < L) (hL : L ≤ 2560) (hk : ∀ M' T' : mM, Rel M' T' → kf M' T' (nI j + 5) = some 1) : fL_15 kf L xs M T (nI j) = some 1 := by
  unfold fL_15
  have g1 : ix (nI j + 1) L = true := by rw [show nI j + 1 = nI (j + 1) from nI_add j 1]; exact ix_nI (by omega) (by omega)
  simp only [gd_t g1]
  obtain ⟨r, M', T', h1, h2, h3⟩ := pm_buys hR (xs (Int32.toNatClampNeg (nI j + 1)))
  rw [b2_s h1]
  rw [b2_s h2]
  rw [if_pos rfl]
  exact hk _ _ h3
set_option maxHeartbeats 1000000 in
theorem ls_16 {kf : mM → mM → Int32 → Option Int32} {L j : Nat} {xs : Nat → Int32} {M T : mM} (hR : Rel M T) (hj : j + 4 < L) (hL : L ≤ 2560) (hk : ∀ M' T' : mM, Rel M' T' → kf M' T' (nI j + 5) = some 1) : fL_16 kf L xs M T (nI j) = some 1 := by
  unfold fL_16
  have g1 : ix (nI j + 1) L = true := by rw [show nI j + 1 = nI (j + 1) from nI_add j 1]; exact ix_nI (by omega) (by omega)
  simp only [gd_t g1]
  obtain ⟨r, M', T', h1, h2, h3⟩ := pm_whom hR (xs (Int32.toNatClampNeg (nI j + 1)))
  rw [b2_s h1]
  rw [b2_s h2]
  rw [if_pos rfl]
  exact hk _ _ h3
set_option maxHeartbeats 1000000 in
theorem ls_17 {kf : mM → mM → Int32 → Option Int32} {L j : Nat} {xs : Nat → Int32} {M T : mM} (hR : Rel M T) (hj : j + 4 < L) (hL : L ≤ 2560) (hk : ∀ M' T' : mM, Rel M' T' → kf M' T' (nI j + 5) = some 1) : fL_17 kf L xs M T (nI j) = some 1 := by
  unfold fL_17
  obtain ⟨r, M', T', h1, h2, h3⟩ := pm_liars hR
  rw [b2_s h1]
  rw [b2_s h2]
  rw [if_pos rfl]
  exact hk _ _ h3
set_option maxHeartbeats 1000000 in
theorem ls_18 {kf : mM → mM → Int32 → Option Int32} {L j : Nat} {xs : Nat → Int32} {M T : mM} (hR : Rel M T) (hj : j + 4 < L) (hL : L ≤ 2560) (hk : ∀ M' T' : mM, Rel M' T' → kf M' T' (nI j + 5) = some 1) : fL_18 kf L xs M T (nI j) = some 1 := by
  unfold fL_18
  have g1 : ix (nI j + 1) L = true := by rw [show nI j + 1 = nI (j + 1) from nI_add j 1]; exact ix_nI (by omega) (by omega)
  simp only [gd_t g1]
  obtain ⟨r, M', T', h1, h2, h3⟩ := pm_power hR (xs (Int32.toNatClampNeg (nI j + 1)))
  rw [b2_s h1]
  rw [b2_s h2]
  rw [if_pos rfl]
  exact hk _ _ h3
set_option maxHeartbeats 1000000 in
theorem ls_19 {kf : mM → mM → Int32 → Option Int32} {L j : Nat} {xs : Nat → Int32} {M T : mM} (hR : Rel M T) (hj : j + 4 < L) (hL : L ≤ 2560) (hk : ∀ M' T' : mM, Rel M' T' → kf M' T' (nI j + 5) = some 1) : fL_19 kf L xs M T (nI j) = some 1 := by
  unfold fL_19
  have g1 : ix (nI j + 1) L = true := by rw [show nI j + 1 = nI (j + 1) from nI_add j 1]; exact ix_nI (by omega) (by omega)
  simp only [gd_t g1]
  obtain ⟨r, M', T', h1, h2, h3⟩ := pm_fewest hR (xs (Int32.toNatClampNeg (nI j + 1)))
  rw [b2_s h1]
  rw [b2_s h2]
  rw [if_pos rfl]
  exact hk _ _ h3
set_option maxHeartbeats 1000000 in
theorem ls_20 {kf : mM → mM → Int32 → Option Int32} {L j : Nat} {xs : Nat → Int32} {M T : mM} (hR : Rel M T) (hj : j + 4 < L) (hL : L ≤ 2560) (hk : ∀ M' T' : mM, Rel M' T' → kf M' T' (nI j + 5) = some 1) : fL_20 kf L xs M T (nI j) = some 1 := by
  unfold fL_20
  have g1 : ix (nI j + 1) L = true := by rw [show nI j + 1 = nI (j + 1) from nI_add j 1]; exact ix_nI (by omega) (by omega)
  have g2 : ix (nI j + 2) L = true := by rw [show nI j + 2 = nI (j + 2) from nI_add j 2]; exact ix_nI (by omega) (by omega)
  simp only [gd_t g1, gd_t g2]
  obtain ⟨r, M', T', h1, h2, h3⟩ := pm_ith hR (xs (Int32.toNatClampNeg (nI j + 1))) (xs (Int32.toNatClampNeg (nI j + 2)))
  rw [b2_s h1]
  rw [b2_s h2]
  rw [if_pos rfl]
  exact hk _ _ h3
set_option maxHeartbeats 1000000 in
theorem ls_21 {kf : mM → mM → Int32 → Option Int32} {L j : Nat} {xs : Nat → Int32} {M T : mM} (hR : Rel M T) (hj : j + 4 < L) (hL : L ≤ 2560) (hk : ∀ M' T' : mM, Rel M' T' → kf M' T' (nI j + 5) = some 1) : fL_21 kf L xs M T (nI j) = some 1 := by
  unfold fL_21
  have g1 : ix (nI j + 1) L = true := by rw [show nI j + 1 = nI (j + 1) from nI_add j 1]; exact ix_nI (by omega) (by omega)
  have g2 : ix (nI j + 2) L = true := by rw [show nI j + 2 = nI (j + 2) from nI_add j 2]; exact ix_nI (by omega) (by omega)
  simp only [gd_t g1, gd_t g2]
  obtain ⟨r, M', T', h1, h2, h3⟩ := pm_ways hR (xs (Int32.toNatClampNeg (nI j + 1))) (xs (Int32.toNatClampNeg (nI j + 2)))
  rw [b2_s h1]
  rw [b2_s h2]
  rw [if_pos rfl]
  exact hk _ _ h3
set_option maxHeartbeats 1000000 in
theorem ls_22 {kf : mM → mM → Int32 → Option Int32} {L j : Nat} {xs : Nat → Int32} {M T : mM} (hR : Rel M T) (hj : j + 4 < L) (hL : L ≤ 2560) (hk : ∀ M' T' : mM, Rel M' T' → kf M' T' (nI j + 5) = some 1) : fL_22 kf L xs M T (nI j) = some 1 := by
  unfold fL_22
  have g1 : ix (nI j + 1) L = true := by rw [show nI j + 1 = nI (j + 1) from nI_add j 1]; exact ix_nI (by omega) (by omega)
  simp only [gd_t g1]
  obtain ⟨r, M', T', h1, h2, h3⟩ := pm_hours hR (xs (Int32.toNatClampNeg (nI j + 1)))
  rw [b2_s h1]
  rw [b2_s h2]
  rw [if_pos rfl]
  exact hk _ _ h3
set_option maxHeartbeats 1000000 in
theorem ls_23 {kf : mM → mM → Int32 → Option Int32} {L j : Nat} {xs : Nat → Int32} {M T : mM} (hR : Rel M T) (hj : j + 4 < L) (hL : L ≤ 2560) (hk : ∀ M' T' : mM, Rel M' T' → kf M' T' (nI j + 5) = some 1) : fL_23 kf L xs M T (nI j) = some 1 := by
  unfold fL_23
  have g1 : ix (nI j + 1) L = true := by rw [show nI j + 1 = nI (j + 1) from nI_add j 1]; exact ix_nI (by omega) (by omega)
  have g2 : ix (nI j + 2) L = true := by rw [show nI j + 2 = nI (j + 2) from nI_add j 2]; exact ix_nI (by omega) (by omega)
  simp only [gd_t g1, gd_t g2]
  obtain ⟨r, M', T', h1, h2, h3⟩ := pm_limitFor hR (xs (Int32.toNatClampNeg (nI j + 1))) (xs (Int32.toNatClampNeg (nI j + 2)))
  rw [b2_s h1]
  rw [b2_s h2]
  rw [if_pos rfl]
  exact hk _ _ h3
set_option maxHeartbeats 1000000 in
theorem ls_24 {kf : mM → mM → Int32 → Option Int32} {L j : Nat} {xs : Nat → Int32} {M T : mM} (hR : Rel M T) (hj : j + 4 < L) (hL : L ≤ 2560) (hk : ∀ M' T' : mM, Rel M' T' → kf M' T' (nI j + 5) = some 1) : fL_24 kf L xs M T (nI j) = some 1 := by
  unfold fL_24
  have g1 : ix (nI j + 1) L = true := by rw [show nI j + 1 = nI (j + 1) from nI_add j 1]; exact ix_nI (by omega) (by omega)
  simp only [gd_t g1]
  obtain ⟨r, M', T', h1, h2, h3⟩ := pm_game hR (xs (Int32.toNatClampNeg (nI j + 1)))
  rw [b2_s h1]
  rw [b2_s h2]
  rw [if_pos rfl]
  exact hk _ _ h3
set_option maxHeartbeats 1000000 in
theorem ls_25 {kf : mM → mM → Int32 → Option Int32} {L j : Nat} {xs : Nat → Int32} {M T : mM} (hR : Rel M T) (hj : j + 4 < L) (hL : L ≤ 2560) (hk : ∀ M' T' : mM, Rel M' T' → kf M' T' (nI j + 5) = some 1) : fL_25 kf L xs M T (nI j) = some 1 := by
  unfold fL_25
  have g1 : ix (nI j + 1) L = true := by rw [show nI j + 1 = nI (j + 1) from nI_add j 1]; exact ix_nI (by omega) (by omega)
  simp only [gd_t g1]
  obtain ⟨r, M', T', h1, h2, h3⟩ := pm_play hR (xs (Int32.toNatClampNeg (nI j + 1)))
  rw [b2_s h1]
  rw [b2_s h2]
  rw [if_pos rfl]
  exact hk _ _ h3
set_option maxHeartbeats 1000000 in
theorem ls_26 {kf : mM → mM → Int32 → Option Int32} {L j : Nat} {xs : Nat → Int32} {M T : mM} (hR : Rel M T) (hj : j + 4 < L) (hL : L ≤ 2560) (hk : ∀ M' T' : mM, Rel M' T' → kf M' T' (nI j + 5) = some 1) : fL_26 kf L xs M T (nI j) = some 1 := by
  unfold fL_26
  have g1 : ix (nI j + 1) L = true := by rw [show nI j + 1 = nI (j + 1) from nI_add j 1]; exact ix_nI (by omega) (by omega)
  have g2 : ix (nI j + 2) L = true := by rw [show nI j + 2 = nI (j + 2) from nI_add j 2]; exact ix_nI (by omega) (by omega)
  simp only [gd_t g1, gd_t g2]
  obtain ⟨r, M', T', h1, h2, h3⟩ := pm_report hR (xs (Int32.toNatClampNeg (nI j + 1))) (xs (Int32.toNatClampNeg (nI j + 2)))
  rw [b2_s h1]
  rw [b2_s h2]
  rw [if_pos rfl]
  exact hk _ _ h3
set_option maxHeartbeats 1000000 in
theorem ls_27 {kf : mM → mM → Int32 → Option Int32} {L j : Nat} {xs : Nat → Int32} {M T : mM} (hR : Rel M T) (hj : j + 4 < L) (hL : L ≤ 2560) (hk : ∀ M' T' : mM, Rel M' T' → kf M' T' (nI j + 5) = some 1) : fL_27 kf L xs M T (nI j) = some 1 := by
  unfold fL_27
  obtain ⟨r, M', T', h1, h2, h3⟩ := pm_forget hR
  rw [b2_s h1]
  rw [b2_s h2]
  rw [if_pos rfl]
  exact hk _ _ h3
set_option maxHeartbeats 1000000 in
theorem ls_28 {kf : mM → mM → Int32 → Option Int32} {L j : Nat} {xs : Nat → Int32} {M T : mM} (hR : Rel M T) (hj : j + 4 < L) (hL : L ≤ 2560) (hk : ∀ M' T' : mM, Rel M' T' → kf M' T' (nI j + 5) = some 1) : fL_28 kf L xs M T (nI j) = some 1 := by
  unfold fL_28
  have g1 : ix (nI j + 1) L = true := by rw [show nI j + 1 = nI (j + 1) from nI_add j 1]; exact ix_nI (by omega) (by omega)
  simp only [gd_t g1]
  obtain ⟨r, T', h1, h2, h3⟩ := pm_span hR (xs (Int32.toNatClampNeg (nI j + 1)))
  rw [b1_s h1]
  rw [b2_s h2]
  rw [if_pos rfl]
  exact hk _ _ h3
set_option maxHeartbeats 1000000 in
theorem ls_29 {kf : mM → mM → Int32 → Option Int32} {L j : Nat} {xs : Nat → Int32} {M T : mM} (hR : Rel M T) (hj : j + 4 < L) (hL : L ≤ 2560) (hk : ∀ M' T' : mM, Rel M' T' → kf M' T' (nI j + 5) = some 1) : fL_29 kf L xs M T (nI j) = some 1 := by
  unfold fL_29
  obtain ⟨r, T', h1, h2, h3⟩ := pm_liar hR
  rw [b1_s h1]
  rw [b2_s h2]
  rw [if_pos rfl]
  exact hk _ _ h3
set_option maxHeartbeats 1000000 in
theorem ls_30 {kf : mM → mM → Int32 → Option Int32} {L j : Nat} {xs : Nat → Int32} {M T : mM} (hR : Rel M T) (hj : j + 4 < L) (hL : L ≤ 2560) (hk : ∀ M' T' : mM, Rel M' T' → kf M' T' (nI j + 5) = some 1) : fL_30 kf L xs M T (nI j) = some 1 := by
  unfold fL_30
  have g1 : ix (nI j + 1) L = true := by rw [show nI j + 1 = nI (j + 1) from nI_add j 1]; exact ix_nI (by omega) (by omega)
  simp only [gd_t g1]
  obtain ⟨r, M', T', h1, h2, h3⟩ := pm_seed hR (xs (Int32.toNatClampNeg (nI j + 1)))
  rw [b2_s h1]
  rw [b2_s h2]
  rw [if_pos rfl]
  exact hk _ _ h3
set_option maxHeartbeats 1000000 in
theorem ls_31 {kf : mM → mM → Int32 → Option Int32} {L j : Nat} {xs : Nat → Int32} {M T : mM} (hR : Rel M T) (hj : j + 4 < L) (hL : L ≤ 2560) (hk : ∀ M' T' : mM, Rel M' T' → kf M' T' (nI j + 5) = some 1) : fL_31 kf L xs M T (nI j) = some 1 := by
  unfold fL_31
  obtain ⟨r, M', T', h1, h2, h3⟩ := pm_lot hR
  rw [b2_s h1]
  rw [b2_s h2]
  rw [if_pos rfl]
  exact hk _ _ h3
set_option maxHeartbeats 1000000 in
theorem ls_32 {kf : mM → mM → Int32 → Option Int32} {L j : Nat} {xs : Nat → Int32} {M T : mM} (hR : Rel M T) (hj : j + 4 < L) (hL : L ≤ 2560) (hk : ∀ M' T' : mM, Rel M' T' → kf M' T' (nI j + 5) = some 1) : fL_32 kf L xs M T (nI j) = some 1 := by
  unfold fL_32
  have g1 : ix (nI j + 1) L = true := by rw [show nI j + 1 = nI (j + 1) from nI_add j 1]; exact ix_nI (by omega) (by omega)
  have g2 : ix (nI j + 2) L = true := by rw [show nI j + 2 = nI (j + 2) from nI_add j 2]; exact ix_nI (by omega) (by omega)
  simp only [gd_t g1, gd_t g2]
  obtain ⟨r, M', T', h1, h2, h3⟩ := pm_often hR (xs (Int32.toNatClampNeg (nI j + 1))) (xs (Int32.toNatClampNeg (nI j + 2)))
  rw [b2_s h1]
  rw [b2_s h2]
  rw [if_pos rfl]
  exact hk _ _ h3
set_option maxHeartbeats 1000000 in
theorem ls_33 {kf : mM → mM → Int32 → Option Int32} {L j : Nat} {xs : Nat → Int32} {M T : mM} (hR : Rel M T) (hj : j + 4 < L) (hL : L ≤ 2560) (hk : ∀ M' T' : mM, Rel M' T' → kf M' T' (nI j + 5) = some 1) : fL_33 kf L xs M T (nI j) = some 1 := by
  unfold fL_33
  have g1 : ix (nI j + 1) L = true := by rw [show nI j + 1 = nI (j + 1) from nI_add j 1]; exact ix_nI (by omega) (by omega)
  simp only [gd_t g1]
  obtain ⟨r, M', T', h1, h2, h3⟩ := pm_prove hR (xs (Int32.toNatClampNeg (nI j + 1)))
  rw [b2_s h1]
  rw [b2_s h2]
  rw [if_pos rfl]
  exact hk _ _ h3
set_option maxHeartbeats 1000000 in
theorem ls_34 {kf : mM → mM → Int32 → Option Int32} {L j : Nat} {xs : Nat → Int32} {M T : mM} (hR : Rel M T) (hj : j + 4 < L) (hL : L ≤ 2560) (hk : ∀ M' T' : mM, Rel M' T' → kf M' T' (nI j + 5) = some 1) : fL_34 kf L xs M T (nI j) = some 1 := by
  unfold fL_34
  have g1 : ix (nI j + 1) L = true := by rw [show nI j + 1 = nI (j + 1) from nI_add j 1]; exact ix_nI (by omega) (by omega)
  have g2 : ix (nI j + 2) L = true := by rw [show nI j + 2 = nI (j + 2) from nI_add j 2]; exact ix_nI (by omega) (by omega)
  simp only [gd_t g1, gd_t g2]
  obtain ⟨r, h1, h2, h3⟩ := pm_row hR (xs (Int32.toNatClampNeg (nI j + 1))) (xs (Int32.toNatClampNeg (nI j + 2)))
  rw [b1_s h1]
  rw [b1_s h2]
  rw [if_pos rfl]
  exact hk _ _ h3
set_option maxHeartbeats 1000000 in
theorem ls_35 {kf : mM → mM → Int32 → Option Int32} {L j : Nat} {xs : Nat → Int32} {M T : mM} (hR : Rel M T) (hj : j + 4 < L) (hL : L ≤ 2560) (hk : ∀ M' T' : mM, Rel M' T' → kf M' T' (nI j + 5) = some 1) : fL_35 kf L xs M T (nI j) = some 1 := by
  unfold fL_35
  have g1 : ix (nI j + 1) L = true := by rw [show nI j + 1 = nI (j + 1) from nI_add j 1]; exact ix_nI (by omega) (by omega)
  have g2 : ix (nI j + 2) L = true := by rw [show nI j + 2 = nI (j + 2) from nI_add j 2]; exact ix_nI (by omega) (by omega)
  have g3 : ix (nI j + 3) L = true := by rw [show nI j + 3 = nI (j + 3) from nI_add j 3]; exact ix_nI (by omega) (by omega)
  simp only [gd_t g1, gd_t g2, gd_t g3]
  obtain ⟨r, M', T', h1, h2, h3⟩ := pm_alterRow hR (xs (Int32.toNatClampNeg (nI j + 1))) (xs (Int32.toNatClampNeg (nI j + 2))) (xs (Int32.toNatClampNeg (nI j + 3)))
  rw [b2_s h1]
  rw [b2_s h2]
  rw [if_pos rfl]
  exact hk _ _ h3
set_option maxHeartbeats 1000000 in
theorem ls_36 {kf : mM → mM → Int32 → Option Int32} {L j : Nat} {xs : Nat → Int32} {M T : mM} (hR : Rel M T) (hj : j + 4 < L) (hL : L ≤ 2560) (hk : ∀ M' T' : mM, Rel M' T' → kf M' T' (nI j + 5) = some 1) : fL_36 kf L xs M T (nI j) = some 1 := by
  unfold fL_36
  have g1 : ix (nI j + 1) L = true := by rw [show nI j + 1 = nI (j + 1) from nI_add j 1]; exact ix_nI (by omega) (by omega)
  simp only [gd_t g1]
  obtain ⟨r, M', T', h1, h2, h3⟩ := pm_judge hR (xs (Int32.toNatClampNeg (nI j + 1)))
  rw [b2_s h1]
  rw [b2_s h2]
  rw [if_pos rfl]
  exact hk _ _ h3
set_option maxHeartbeats 1000000 in
theorem ls_37 {kf : mM → mM → Int32 → Option Int32} {L j : Nat} {xs : Nat → Int32} {M T : mM} (hR : Rel M T) (hj : j + 4 < L) (hL : L ≤ 2560) (hk : ∀ M' T' : mM, Rel M' T' → kf M' T' (nI j + 5) = some 1) : fL_37 kf L xs M T (nI j) = some 1 := by
  unfold fL_37
  have g1 : ix (nI j + 1) L = true := by rw [show nI j + 1 = nI (j + 1) from nI_add j 1]; exact ix_nI (by omega) (by omega)
  have g2 : ix (nI j + 2) L = true := by rw [show nI j + 2 = nI (j + 2) from nI_add j 2]; exact ix_nI (by omega) (by omega)
  have g3 : ix (nI j + 3) L = true := by rw [show nI j + 3 = nI (j + 3) from nI_add j 3]; exact ix_nI (by omega) (by omega)
  simp only [gd_t g1, gd_t g2, gd_t g3]
  obtain ⟨r, M', T', h1, h2, h3⟩ := pm_sheet hR (xs (Int32.toNatClampNeg (nI j + 1))) (xs (Int32.toNatClampNeg (nI j + 2))) (xs (Int32.toNatClampNeg (nI j + 3)))
  rw [b2_s h1]
  rw [b2_s h2]
  rw [if_pos rfl]
  exact hk _ _ h3
set_option maxHeartbeats 1000000 in
theorem ls_38 {kf : mM → mM → Int32 → Option Int32} {L j : Nat} {xs : Nat → Int32} {M T : mM} (hR : Rel M T) (hj : j + 4 < L) (hL : L ≤ 2560) (hk : ∀ M' T' : mM, Rel M' T' → kf M' T' (nI j + 5) = some 1) : fL_38 kf L xs M T (nI j) = some 1 := by
  unfold fL_38
  have g1 : ix (nI j + 1) L = true := by rw [show nI j + 1 = nI (j + 1) from nI_add j 1]; exact ix_nI (by omega) (by omega)
  have g2 : ix (nI j + 2) L = true := by rw [show nI j + 2 = nI (j + 2) from nI_add j 2]; exact ix_nI (by omega) (by omega)
  have g3 : ix (nI j + 3) L = true := by rw [show nI j + 3 = nI (j + 3) from nI_add j 3]; exact ix_nI (by omega) (by omega)
  simp only [gd_t g1, gd_t g2, gd_t g3]
  obtain ⟨r, M', T', h1, h2, h3⟩ := pm_write hR (xs (Int32.toNatClampNeg (nI j + 1))) (xs (Int32.toNatClampNeg (nI j + 2))) (xs (Int32.toNatClampNeg (nI j + 3)))
  rw [b2_s h1]
  rw [b2_s h2]
  rw [if_pos rfl]
  exact hk _ _ h3
set_option maxHeartbeats 1000000 in
theorem ls_39 {kf : mM → mM → Int32 → Option Int32} {L j : Nat} {xs : Nat → Int32} {M T : mM} (hR : Rel M T) (hj : j + 4 < L) (hL : L ≤ 2560) (hk : ∀ M' T' : mM, Rel M' T' → kf M' T' (nI j + 5) = some 1) : fL_39 kf L xs M T (nI j) = some 1 := by
  unfold fL_39
  have g1 : ix (nI j + 1) L = true := by rw [show nI j + 1 = nI (j + 1) from nI_add j 1]; exact ix_nI (by omega) (by omega)
  have g2 : ix (nI j + 2) L = true := by rw [show nI j + 2 = nI (j + 2) from nI_add j 2]; exact ix_nI (by omega) (by omega)
  have g3 : ix (nI j + 3) L = true := by rw [show nI j + 3 = nI (j + 3) from nI_add j 3]; exact ix_nI (by omega) (by omega)
  simp only [gd_t g1, gd_t g2, gd_t g3]
  obtain ⟨r, h1, h2, h3⟩ := pm_item hR (xs (Int32.toNatClampNeg (nI j + 1))) (xs (Int32.toNatClampNeg (nI j + 2))) (xs (Int32.toNatClampNeg (nI j + 3)))
  rw [b1_s h1]
  rw [b1_s h2]
  rw [if_pos rfl]
  exact hk _ _ h3
set_option maxHeartbeats 1000000 in
theorem ls_40 {kf : mM → mM → Int32 → Option Int32} {L j : Nat} {xs : Nat → Int32} {M T : mM} (hR : Rel M T) (hj : j + 4 < L) (hL : L ≤ 2560) (hk : ∀ M' T' : mM, Rel M' T' → kf M' T' (nI j + 5) = some 1) : fL_40 kf L xs M T (nI j) = some 1 := by
  unfold fL_40
  have g1 : ix (nI j + 1) L = true := by rw [show nI j + 1 = nI (j + 1) from nI_add j 1]; exact ix_nI (by omega) (by omega)
  have g2 : ix (nI j + 2) L = true := by rw [show nI j + 2 = nI (j + 2) from nI_add j 2]; exact ix_nI (by omega) (by omega)
  have g3 : ix (nI j + 3) L = true := by rw [show nI j + 3 = nI (j + 3) from nI_add j 3]; exact ix_nI (by omega) (by omega)
  simp only [gd_t g1, gd_t g2, gd_t g3]
  obtain ⟨r, M', T', h1, h2, h3⟩ := pm_goAll hR (xs (Int32.toNatClampNeg (nI j + 1))) (xs (Int32.toNatClampNeg (nI j + 2))) (xs (Int32.toNatClampNeg (nI j + 3)))
  rw [b2_s h1]
  rw [b2_s h2]
  rw [if_pos rfl]
  exact hk _ _ h3
set_option maxHeartbeats 1000000 in
theorem ls_41 {kf : mM → mM → Int32 → Option Int32} {L j : Nat} {xs : Nat → Int32} {M T : mM} (hR : Rel M T) (hj : j + 4 < L) (hL : L ≤ 2560) (hk : ∀ M' T' : mM, Rel M' T' → kf M' T' (nI j + 5) = some 1) : fL_41 kf L xs M T (nI j) = some 1 := by
  unfold fL_41
  have g1 : ix (nI j + 1) L = true := by rw [show nI j + 1 = nI (j + 1) from nI_add j 1]; exact ix_nI (by omega) (by omega)
  have g2 : ix (nI j + 2) L = true := by rw [show nI j + 2 = nI (j + 2) from nI_add j 2]; exact ix_nI (by omega) (by omega)
  have g3 : ix (nI j + 3) L = true := by rw [show nI j + 3 = nI (j + 3) from nI_add j 3]; exact ix_nI (by omega) (by omega)
  simp only [gd_t g1, gd_t g2, gd_t g3]
  obtain ⟨r, M', T', h1, h2, h3⟩ := pm_wouldBe hR (xs (Int32.toNatClampNeg (nI j + 1))) (xs (Int32.toNatClampNeg (nI j + 2))) (xs (Int32.toNatClampNeg (nI j + 3)))
  rw [b2_s h1]
  rw [b2_s h2]
  rw [if_pos rfl]
  exact hk _ _ h3
set_option maxHeartbeats 1000000 in
theorem ls_42 {kf : mM → mM → Int32 → Option Int32} {L j : Nat} {xs : Nat → Int32} {M T : mM} (hR : Rel M T) (hj : j + 4 < L) (hL : L ≤ 2560) (hk : ∀ M' T' : mM, Rel M' T' → kf M' T' (nI j + 5) = some 1) : fL_42 kf L xs M T (nI j) = some 1 := by
  unfold fL_42
  have g1 : ix (nI j + 1) L = true := by rw [show nI j + 1 = nI (j + 1) from nI_add j 1]; exact ix_nI (by omega) (by omega)
  have g2 : ix (nI j + 2) L = true := by rw [show nI j + 2 = nI (j + 2) from nI_add j 2]; exact ix_nI (by omega) (by omega)
  have g3 : ix (nI j + 3) L = true := by rw [show nI j + 3 = nI (j + 3) from nI_add j 3]; exact ix_nI (by omega) (by omega)
  simp only [gd_t g1, gd_t g2, gd_t g3]
  obtain ⟨r, M', T', h1, h2, h3⟩ := pm_shelf hR (xs (Int32.toNatClampNeg (nI j + 1))) (xs (Int32.toNatClampNeg (nI j + 2))) (xs (Int32.toNatClampNeg (nI j + 3)))
  rw [b2_s h1]
  rw [b2_s h2]
  rw [if_pos rfl]
  exact hk _ _ h3
set_option maxHeartbeats 1000000 in
theorem ls_43 {kf : mM → mM → Int32 → Option Int32} {L j : Nat} {xs : Nat → Int32} {M T : mM} (hR : Rel M T) (hj : j + 4 < L) (hL : L ≤ 2560) (hk : ∀ M' T' : mM, Rel M' T' → kf M' T' (nI j + 5) = some 1) : fL_43 kf L xs M T (nI j) = some 1 := by
  unfold fL_43
  have g1 : ix (nI j + 1) L = true := by rw [show nI j + 1 = nI (j + 1) from nI_add j 1]; exact ix_nI (by omega) (by omega)
  have g2 : ix (nI j + 2) L = true := by rw [show nI j + 2 = nI (j + 2) from nI_add j 2]; exact ix_nI (by omega) (by omega)
  simp only [gd_t g1, gd_t g2]
  obtain ⟨r, h1, h2, h3⟩ := pm_taken hR (xs (Int32.toNatClampNeg (nI j + 1))) (xs (Int32.toNatClampNeg (nI j + 2)))
  rw [b1_s h1]
  rw [b1_s h2]
  rw [if_pos rfl]
  exact hk _ _ h3
set_option maxHeartbeats 1000000 in
theorem ls_44 {kf : mM → mM → Int32 → Option Int32} {L j : Nat} {xs : Nat → Int32} {M T : mM} (hR : Rel M T) (hj : j + 4 < L) (hL : L ≤ 2560) (hk : ∀ M' T' : mM, Rel M' T' → kf M' T' (nI j + 5) = some 1) : fL_44 kf L xs M T (nI j) = some 1 := by
  unfold fL_44
  have g1 : ix (nI j + 1) L = true := by rw [show nI j + 1 = nI (j + 1) from nI_add j 1]; exact ix_nI (by omega) (by omega)
  have g2 : ix (nI j + 2) L = true := by rw [show nI j + 2 = nI (j + 2) from nI_add j 2]; exact ix_nI (by omega) (by omega)
  have g3 : ix (nI j + 3) L = true := by rw [show nI j + 3 = nI (j + 3) from nI_add j 3]; exact ix_nI (by omega) (by omega)
  simp only [gd_t g1, gd_t g2, gd_t g3]
  obtain ⟨r, M', T', h1, h2, h3⟩ := pm_act hR (xs (Int32.toNatClampNeg (nI j + 1))) (xs (Int32.toNatClampNeg (nI j + 2))) (xs (Int32.toNatClampNeg (nI j + 3)))
  rw [b2_s h1]
  rw [b2_s h2]
  rw [if_pos rfl]
  exact hk _ _ h3
set_option maxHeartbeats 1000000 in
theorem ls_45 {kf : mM → mM → Int32 → Option Int32} {L j : Nat} {xs : Nat → Int32} {M T : mM} (hR : Rel M T) (hj : j + 4 < L) (hL : L ≤ 2560) (hk : ∀ M' T' : mM, Rel M' T' → kf M' T' (nI j + 5) = some 1) : fL_45 kf L xs M T (nI j) = some 1 := by
  unfold fL_45
  have g1 : ix (nI j + 1) L = true := by rw [show nI j + 1 = nI (j + 1) from nI_add j 1]; exact ix_nI (by omega) (by omega)
  simp only [gd_t g1]
  obtain ⟨r, h1, h2, h3⟩ := pm_trace hR (xs (Int32.toNatClampNeg (nI j + 1)))
  rw [b1_s h1]
  rw [b1_s h2]
  rw [if_pos rfl]
  exact hk _ _ h3
set_option maxHeartbeats 1000000 in
theorem ls_46 {kf : mM → mM → Int32 → Option Int32} {L j : Nat} {xs : Nat → Int32} {M T : mM} (hR : Rel M T) (hj : j + 4 < L) (hL : L ≤ 2560) (hk : ∀ M' T' : mM, Rel M' T' → kf M' T' (nI j + 5) = some 1) : fL_46 kf L xs M T (nI j) = some 1 := by
  unfold fL_46
  have g1 : ix (nI j + 1) L = true := by rw [show nI j + 1 = nI (j + 1) from nI_add j 1]; exact ix_nI (by omega) (by omega)
  simp only [gd_t g1]
  obtain ⟨r, h1, h2, h3⟩ := pm_many hR (xs (Int32.toNatClampNeg (nI j + 1)))
  rw [h1]
  rw [b1_s h2]
  rw [if_pos rfl]
  exact hk _ _ h3
set_option maxHeartbeats 1000000 in
theorem ls_47 {kf : mM → mM → Int32 → Option Int32} {L j : Nat} {xs : Nat → Int32} {M T : mM} (hR : Rel M T) (hj : j + 4 < L) (hL : L ≤ 2560) (hk : ∀ M' T' : mM, Rel M' T' → kf M' T' (nI j + 5) = some 1) : fL_47 kf L xs M T (nI j) = some 1 := by
  unfold fL_47
  obtain ⟨r, M', T', h1, h2, h3⟩ := pm_keep hR
  rw [b2_s h1]
  rw [b2_s h2]
  rw [if_pos rfl]
  exact hk _ _ h3
set_option maxHeartbeats 1000000 in
theorem ls_48 {kf : mM → mM → Int32 → Option Int32} {L j : Nat} {xs : Nat → Int32} {M T : mM} (hR : Rel M T) (hj : j + 4 < L) (hL : L ≤ 2560) (hk : ∀ M' T' : mM, Rel M' T' → kf M' T' (nI j + 5) = some 1) : fL_48 kf L xs M T (nI j) = some 1 := by
  unfold fL_48
  obtain ⟨r, M', T', h1, h2, h3⟩ := pm_again hR
  rw [b2_s h1]
  rw [b2_s h2]
  rw [if_pos rfl]
  exact hk _ _ h3
theorem law_steps (L : Nat) (xs : Nat → Int32) (hL : L ≤ 2560) : ∀ (d n j : Nat) (M T : mM), j + d = L → d < 5 * n → Rel M T → fL L xs n M T (nI j) = some 1 := by
  intro d
  induction d using Nat.strongRecOn with
  | ind d ih =>
    intro n j M T hd hn hR
    obtain ⟨m, rfl⟩ : ∃ m, n = m + 1 := ⟨n - 1, by omega⟩
    show fL_b (fL L xs m) L xs M T (nI j) = some 1
    unfold fL_b
    by_cases h5 : d < 5
    · rw [if_pos]
      rw [Int32.lt_iff_toInt_lt]
      have e1 : (Int32.ofNat L - 5).toInt = (L : Int) - 5 := pk_sub_toInt (a := L) (b := 5) (by omega) (by omega)
      rw [e1, nI_toInt (by omega)]
      omega
    · rw [if_neg, gd_t (ix_nI (by omega) (by omega))]
      · have hk : ∀ M' T' : mM, Rel M' T' → fL L xs m M' T' (nI j + 5) = some 1 := fun M' T' h => by
          rw [show nI j + 5 = nI (j + 5) from nI_add j 5]
          exact ih (d - 5) (by omega) m (j + 5) M' T' (by omega) (by omega) h
        by_cases h0 : (xs (nI j).toNatClampNeg &&& 63) = 0
        · rw [if_pos h0]; exact ls_0 hR (by omega) hL hk
        rw [if_neg h0]
        by_cases h1 : (xs (nI j).toNatClampNeg &&& 63) = 1
        · rw [if_pos h1]; exact ls_1 hR (by omega) hL hk
        rw [if_neg h1]
        by_cases h2 : (xs (nI j).toNatClampNeg &&& 63) = 2
        · rw [if_pos h2]; exact ls_2 hR (by omega) hL hk
        rw [if_neg h2]
        by_cases h3 : (xs (nI j).toNatClampNeg &&& 63) = 3
        · rw [if_pos h3]; exact ls_3 hR (by omega) hL hk
        rw [if_neg h3]
        by_cases h4 : (xs (nI j).toNatClampNeg &&& 63) = 4
        · rw [if_pos h4]; exact ls_4 hR (by omega) hL hk
        rw [if_neg h4]
        by_cases h5 : (xs (nI j).toNatClampNeg &&& 63) = 5
        · rw [if_pos h5]; exact ls_5 hR (by omega) hL hk
        rw [if_neg h5]
        by_cases h6 : (xs (nI j).toNatClampNeg &&& 63) = 6
        · rw [if_pos h6]; exact ls_6 hR (by omega) hL hk
        rw [if_neg h6]
        by_cases h7 : (xs (nI j).toNatClampNeg &&& 63) = 7
        · rw [if_pos h7]; exact ls_7 hR (by omega) hL hk
        rw [if_neg h7]
        by_cases h8 : (xs (nI j).toNatClampNeg &&& 63) = 8
        · rw [if_pos h8]; exact ls_8 hR (by omega) hL hk
        rw [if_neg h8]
        by_cases h9 : (xs (nI j).toNatClampNeg &&& 63) = 9
        · rw [if_pos h9]; exact ls_9 hR (by omega) hL hk
        rw [if_neg h9]
        by_cases h10 : (xs (nI j).toNatClampNeg &&& 63) = 10
        · rw [if_pos h10]; exact ls_10 hR (by omega) hL hk
        rw [if_neg h10]
        by_cases h11 : (xs (nI j).toNatClampNeg &&& 63) = 11
        · rw [if_pos h11]; exact ls_11 hR (by omega) hL hk
        rw [if_neg h11]
        by_cases h12 : (xs (nI j).toNatClampNeg &&& 63) = 12
        · rw [if_pos h12]; exact ls_12 hR (by omega) hL hk
        rw [if_neg h12]
        by_cases h13 : (xs (nI j).toNatClampNeg &&& 63) = 13
        · rw [if_pos h13]; exact ls_13 hR (by omega) hL hk
        rw [if_neg h13]
        by_cases h14 : (xs (nI j).toNatClampNeg &&& 63) = 14
        · rw [if_pos h14]; exact ls_14 hR (by omega) hL hk
        rw [if_neg h14]
        by_cases h15 : (xs (nI j).toNatClampNeg &&& 63) = 15
        · rw [if_pos h15]; exact ls_15 hR (by omega) hL hk
        rw [if_neg h15]
        by_cases h16 : (xs (nI j).toNatClampNeg &&& 63) = 16
        · rw [if_pos h16]; exact ls_16 hR (by omega) hL hk
        rw [if_neg h16]
        by_cases h17 : (xs (nI j).toNatClampNeg &&& 63) = 17
        · rw [if_pos h17]; exact ls_17 hR (by omega) hL hk
        rw [if_neg h17]
        by_cases h18 : (xs (nI j).toNatClampNeg &&& 63) = 18
        · rw [if_pos h18]; exact ls_18 hR (by omega) hL hk
        rw [if_neg h18]
        by_cases h19 : (xs (nI j).toNatClampNeg &&& 63) = 19
        · rw [if_pos h19]; exact ls_19 hR (by omega) hL hk
        rw [if_neg h19]
        by_cases h20 : (xs (nI j).toNatClampNeg &&& 63) = 20
        · rw [if_pos h20]; exact ls_20 hR (by omega) hL hk
        rw [if_neg h20]
        by_cases h21 : (xs (nI j).toNatClampNeg &&& 63) = 21
        · rw [if_pos h21]; exact ls_21 hR (by omega) hL hk
        rw [if_neg h21]
        by_cases h22 : (xs (nI j).toNatClampNeg &&& 63) = 22
        · rw [if_pos h22]; exact ls_22 hR (by omega) hL hk
        rw [if_neg h22]
        by_cases h23 : (xs (nI j).toNatClampNeg &&& 63) = 23
        · rw [if_pos h23]; exact ls_23 hR (by omega) hL hk
        rw [if_neg h23]
        by_cases h24 : (xs (nI j).toNatClampNeg &&& 63) = 24
        · rw [if_pos h24]; exact ls_24 hR (by omega) hL hk
        rw [if_neg h24]
        by_cases h25 : (xs (nI j).toNatClampNeg &&& 63) = 25
        · rw [if_pos h25]; exact ls_25 hR (by omega) hL hk
        rw [if_neg h25]
        by_cases h26 : (xs (nI j).toNatClampNeg &&& 63) = 26
        · rw [if_pos h26]; exact ls_26 hR (by omega) hL hk
        rw [if_neg h26]
        by_cases h27 : (xs (nI j).toNatClampNeg &&& 63) = 27
        · rw [if_pos h27]; exact ls_27 hR (by omega) hL hk
        rw [if_neg h27]
        by_cases h28 : (xs (nI j).toNatClampNeg &&& 63) = 28
        · rw [if_pos h28]; exact ls_28 hR (by omega) hL hk
        rw [if_neg h28]
        by_cases h29 : (xs (nI j).toNatClampNeg &&& 63) = 29
        · rw [if_pos h29]; exact ls_29 hR (by omega) hL hk
        rw [if_neg h29]
        by_cases h30 : (xs (nI j).toNatClampNeg &&& 63) = 30
        · rw [if_pos h30]; exact ls_30 hR (by omega) hL hk
        rw [if_neg h30]
        by_cases h31 : (xs (nI j).toNatClampNeg &&& 63) = 31
        · rw [if_pos h31]; exact ls_31 hR (by omega) hL hk
        rw [if_neg h31]
        by_cases h32 : (xs (nI j).toNatClampNeg &&& 63) = 32
        · rw [if_pos h32]; exact ls_32 hR (by omega) hL hk
        rw [if_neg h32]
        by_cases h33 : (xs (nI j).toNatClampNeg &&& 63) = 33
        · rw [if_pos h33]; exact ls_33 hR (by omega) hL hk
        rw [if_neg h33]
        by_cases h34 : (xs (nI j).toNatClampNeg &&& 63) = 34
        · rw [if_pos h34]; exact ls_34 hR (by omega) hL hk
        rw [if_neg h34]
        by_cases h35 : (xs (nI j).toNatClampNeg &&& 63) = 35
        · rw [if_pos h35]; exact ls_35 hR (by omega) hL hk
        rw [if_neg h35]
        by_cases h36 : (xs (nI j).toNatClampNeg &&& 63) = 36
        · rw [if_pos h36]; exact ls_36 hR (by omega) hL hk
        rw [if_neg h36]
        by_cases h37 : (xs (nI j).toNatClampNeg &&& 63) = 37
        · rw [if_pos h37]; exact ls_37 hR (by omega) hL hk
        rw [if_neg h37]
        by_cases h38 : (xs (nI j).toNatClampNeg &&& 63) = 38
        · rw [if_pos h38]; exact ls_38 hR (by omega) hL hk
        rw [if_neg h38]
        by_cases h39 : (xs (nI j).toNatClampNeg &&& 63) = 39
        · rw [if_pos h39]; exact ls_39 hR (by omega) hL hk
        rw [if_neg h39]
        by_cases h40 : (xs (nI j).toNatClampNeg &&& 63) = 40
        · rw [if_pos h40]; exact ls_40 hR (by omega) hL hk
        rw [if_neg h40]
        by_cases h41 : (xs (nI j).toNatClampNeg &&& 63) = 41
        · rw [if_pos h41]; exact ls_41 hR (by omega) hL hk
        rw [if_neg h41]
        by_cases h42 : (xs (nI j).toNatClampNeg &&& 63) = 42
        · rw [if_pos h42]; exact ls_42 hR (by omega) hL hk
        rw [if_neg h42]
        by_cases h43 : (xs (nI j).toNatClampNeg &&& 63) = 43
        · rw [if_pos h43]; exact ls_43 hR (by omega) hL hk
        rw [if_neg h43]
        by_cases h44 : (xs (nI j).toNatClampNeg &&& 63) = 44
        · rw [if_pos h44]; exact ls_44 hR (by omega) hL hk
        rw [if_neg h44]
        by_cases h45 : (xs (nI j).toNatClampNeg &&& 63) = 45
        · rw [if_pos h45]; exact ls_45 hR (by omega) hL hk
        rw [if_neg h45]
        by_cases h46 : (xs (nI j).toNatClampNeg &&& 63) = 46
        · rw [if_pos h46]; exact ls_46 hR (by omega) hL hk
        rw [if_neg h46]
        by_cases h47 : (xs (nI j).toNatClampNeg &&& 63) = 47
        · rw [if_pos h47]; exact ls_47 hR (by omega) hL hk
        rw [if_neg h47]
        by_cases h48 : (xs (nI j).toNatClampNeg &&& 63) = 48
        · rw [if_pos h48]; exact ls_48 hR (by omega) hL hk
        rw [if_neg h48]
        exact hk M T hR
      · intro h
        rw [Int32.lt_iff_toInt_lt] at h
        have e1 : (Int32.ofNat L - 5).toInt = (L : Int) - 5 := pk_sub_toInt (a := L) (b := 5) (by omega) (by omega)
        rw [e1, nI_toInt (by omega)] at h
        omega
theorem law_pure (L : Nat) (xs : Nat → Int32) (hL : L ≤ 2560) : fL L xs 5000 (cl63 M0C) M0R 0 = some 1 := law_steps L xs hL L 5000 0 _ _ (by omega) (by omega) pm_init
