/-! THE HOST: sheets -/
theorem four_yes {v : Int32} (h : ¬ fX11_isIn v 0 3 = 0) : ∃ n, n < 4 ∧ v = nI n := by
  obtain ⟨n, -, h2, h3⟩ := isIn_yes (a := 0) (b := 3) (by omega) (by omega) h
  exact ⟨n, by omega, h3⟩
theorem isFour_eq (v : Int32) : fX12_isFour v = fX11_isIn v 0 3 := in_eq v 0 3
/-- whether a place lies in a sheet of c items -/
def hasS (i : Int32) (c : Nat) : Int32 := if i < 0 then 0 else if nI c ≤ i then 0 else 1
theorem has_at {M : mM} {s c : Nat} (hs : s < 4) (h : M 61 s = nI c) (i : Int32) : fX2_hasItem M (nI s) i = some (hasS i c) := by
  unfold fX2_hasItem hasS
  by_cases h1 : i < 0
  · rw [if_pos h1, if_pos h1]
  · rw [if_neg h1, if_neg h1, gd_t (ix_nI hs (by omega)), tn_nI (by omega), h]
    by_cases h2 : nI c ≤ i
    · rw [if_pos h2, if_pos h2]
    · rw [if_neg h2, if_neg h2]
theorem has_yes {i : Int32} {c : Nat} (hc : c ≤ 40) (h : ¬ hasS i c = 0) : ∃ j, j < c ∧ i = nI j := by
  unfold hasS at h
  by_cases h1 : i < 0
  · rw [if_pos h1] at h; exact absurd rfl h
  · rw [if_neg h1] at h
    by_cases h2 : nI c ≤ i
    · rw [if_pos h2] at h; exact absurd rfl h
    · obtain ⟨j, hj, rfl⟩ := nI_of h1
      rcases Nat.lt_or_ge j c with z | z
      · exact ⟨j, z, rfl⟩
      · exact absurd (nI_le z hj) h2
theorem lacks29 {T : mM} {s c : Nat} (hs : s < 4) (hc : c ≤ 40) (h : T 11 s = nI c) (i : Int32) : fX12_lacks_L29 T (nI s) i = some (if hasS i c = 0 then -12 else 0) := by
  unfold fX12_lacks_L29
  rw [gd_t (ix_nI hs (by omega)), tn_nI (by omega), h, in_pred i c (by omega)]
  show (if hasS i c = 0 then some (-12) else some 0) = _
  by_cases z : hasS i c = 0
  · rw [if_pos z, if_pos z]
  · rw [if_neg z, if_neg z]
theorem sort_ge {M : mM} {s : Nat} (h : M 57 s = -1 ∨ ∃ z : Nat, z ≤ 4 ∧ M 57 s = nI z) : (0 ≤ M 57 s ↔ ¬ M 57 s = -1) := by
  rcases h with h | ⟨z, hz, h⟩
  · rw [h]; exact ⟨fun q => absurd q (by decide), fun q => absurd rfl q⟩
  · rw [h]
    refine ⟨fun _ q => ?_, fun _ => nI_pos' (by omega)⟩
    have h1 := nI_toInt (n := z) (by omega)
    rw [q] at h1
    simp at h1
/-- why a place of a sheet can't be had -/
theorem lacks_at {M T : mM} {s c : Nat} (hs : s < 4) (hc : c ≤ 40) (h1 : M 57 s = T 10 s) (hz : M 57 s = -1 ∨ ∃ z : Nat, z ≤ 4 ∧ M 57 s = nI z) (h : T 11 s = nI c) (so i : Int32) :
    fX12_lacks T (nI s) so i = some (if M 57 s = -1 then -11 else if so < 0 ∨ so = M 57 s then (if hasS i c = 0 then -12 else 0) else -13) := by
  unfold fX12_lacks
  rw [gd_t (ix_nI hs (by omega)), tn_nI (by omega), ← h1]
  by_cases g1 : M 57 s = -1
  · rw [if_neg (fun q => (sort_ge hz).mp q g1), if_pos g1]
  · rw [if_pos ((sort_ge hz).mpr g1), if_neg g1]
    by_cases g2 : so < 0
    · rw [if_pos g2, if_pos (Or.inl g2), lacks29 hs hc h]
    · rw [if_neg g2, gd_t (ix_nI hs (by omega))]
      by_cases g3 : so = M 57 s
      · rw [if_pos g3, if_pos (Or.inr g3), lacks29 hs hc h]
      · rw [if_neg g3, if_neg (fun q => q.elim g2 g3)]
theorem itemix {s j : Nat} : nI s * 40 + nI j = nI (40 * s + j) ∧ 40 * nI s + nI j = nI (40 * s + j) := by
  refine ⟨?_, ?_⟩
  · rw [show nI s * 40 = nI (s * 40) from pk_mul s 40, nI_add, Nat.mul_comm]
  · rw [show 40 * nI s = nI (40 * s) from pk_mul 40 s, nI_add]
theorem pm_item {M T : mM} (hR : Rel M T) (a0 : Int32) (a1 : Int32) (a2 : Int32) : ∃ (r : Int32), fX11_item M a0 a1 a2 = some r ∧ fX12_item T a0 a1 a2 = some r ∧ Rel M T := by
  obtain ⟨hh, -⟩ := hR.2.2.2.2.2.1
  unfold fX11_item fX12_item
  rw [isFour_eq, show fX12_in (Int32.toInt64 a1) 0 4 = fX11_isIn a1 0 4 from in_eq a1 0 4]
  by_cases h : fX11_isIn a0 0 3 = 0
  · exact ⟨-1, by rw [if_pos h], by rw [if_pos h], hR⟩
  · rw [if_neg h, if_neg h]
    obtain ⟨s, hs, rfl⟩ := four_yes h
    by_cases h' : fX11_isIn a1 0 4 = 0
    · exact ⟨-1, by rw [if_pos h'], by rw [if_pos h'], hR⟩
    · rw [if_neg h', if_neg h']
      obtain ⟨z, -, hz, rfl⟩ := isIn_yes (a := 0) (b := 4) (by omega) (by omega) h'
      obtain ⟨⟨g1, g2⟩, ⟨c, c1, c2, c3⟩, g3⟩ := hh s hs
      rw [b1_s (lacks_at hs c1 g1 g2 c3 (nI z) a2)]
      unfold fX2_refusalAs
      rw [gd_t (ix_nI hs (by omega)), tn_nI (by omega), gd_t (ix_nI hs (by omega))]
      by_cases k1 : M 57 s = -1
      · refine ⟨-11, ?_, ?_, hR⟩
        · rw [if_pos k1, b1_s rfl, if_neg (by decide)]
        · rw [if_pos k1, if_neg (by decide)]
      · rw [if_neg k1, if_neg k1]
        by_cases k2 : M 57 s = nI z
        · rw [if_pos k2, if_pos (Or.inr k2.symm), b1_s rfl, if_pos (by decide), b1_s (has_at hs c2 a2)]
          by_cases k3 : hasS a2 c = 0
          · exact ⟨-12, by rw [if_pos k3], by rw [if_pos k3, if_neg (by decide)], hR⟩
          · obtain ⟨j, hj, rfl⟩ := has_yes c1 k3
            refine ⟨M 62 (40 * s + j), ?_, ?_, hR⟩
            · rw [if_neg k3]
              unfold fX2_get
              rw [itemix.1, gd_t (ix_nI (by omega) (by omega)), tn_nI (by omega)]
              rfl
            · rw [if_neg k3, if_pos (by decide), itemix.2, gd_t (ix_nI (by omega) (by omega)), tn_nI (by omega), g3 j (by rw [c2, nI_clamp (by omega)]; exact hj)]
        · refine ⟨-13, ?_, ?_, hR⟩
          · rw [if_neg k2, b1_s rfl, if_neg (by decide)]
          · have k4 : ¬ (nI z < 0 ∨ nI z = M 57 s) := fun q => q.elim (fun y => nI_pos (by omega) y) (fun e => k2 e.symm)
            rw [if_neg k4, if_neg (by decide)]
/-- only the host changes -/
theorem Rel.host {M T M' T' : mM} (hR : Rel M T) (hc : ∀ q, q < 57 ∨ 62 < q → M' q = M q) (ht : ∀ q, q < 10 ∨ 15 < q → T' q = T q) (h : Rh M' T') : Rel M' T' := by
  obtain ⟨p, s, k, t, w, -, a⟩ := hR
  refine ⟨?_, ?_, ?_, ?_, ?_, h, ?_⟩
  · rw [ht 1 (by omega)]
    exact Rp_eq (fun q hq => hc (1 + q) (by omega)) p
  · exact s.keep (hc 63 (by omega)) ⟨congrFun (hc 1 (by omega)) 0, fun q h1 h2 _ => hc (1 + q) (by omega), fun k _ => congrFun (hc 16 (by omega)) k⟩
  · unfold Rk
    rw [hc 0 (by omega), ht 0 (by omega), ht 2 (by omega)]
    rcases k with k | ⟨k1, k2, k3⟩
    · exact Or.inl k
    · exact Or.inr ⟨k1, k2, Rp_eq (fun q hq => hc (17 + q) (by omega)) k3⟩
  · unfold Rt
    rw [hc 33 (by omega), hc 43 (by omega), ht 0 (by omega), ht 4 (by omega)]
    exact t
  · unfold Rw
    rw [hc 0 (by omega), hc 67 (by omega), ht 0 (by omega), ht 9 (by omega)]
    exact w
  · unfold Ra
    rw [hc 47 (by omega), hc 48 (by omega), ht 0 (by omega), ht 16 (by omega)]
    exact a
theorem set_at {M : mM} {s j : Nat} (hs : s < 4) (hj : j < 40) (v : Int32) : fX2_set M (nI s) (nI j) v = some (0, wr M 62 (40 * s + j) (fX12_narrowed (M 57 s) v)) := by
  unfold fX2_set fX12_narrowed
  have e : ∀ w : Int32, fX2_set_L57 M (nI s) (nI j) w = some (0, wr M 62 (40 * s + j) w) := fun w => by
    unfold fX2_set_L57
    rw [itemix.1, gd_t (ix_nI (by omega) (by omega)), tn_nI (by omega)]
  have e5 : ∀ w : Int32, fX2_set_L55 M (nI s) (nI j) w = some (0, wr M 62 (40 * s + j) w) := fun w => e w
  simp only [gd_t (ix_nI hs (show (4 : Nat) ≤ 2 ^ 31 by omega)), tn_nI (show s < 2 ^ 31 by omega), e, e5]
  by_cases h0 : M 57 s = 0
  · simp only [if_pos h0]
  · simp only [if_neg h0]
    by_cases h1 : M 57 s = 1
    · simp only [if_pos h1]
    · simp only [if_neg h1]
      by_cases h4 : M 57 s = 4
      · simp only [if_pos h4]
        by_cases hv : v = 0
        · simp only [if_pos hv]
        · simp only [if_neg hv]
      · simp only [if_neg h4]
theorem pm_write {M T : mM} (hR : Rel M T) (a0 : Int32) (a1 : Int32) (a2 : Int32) : ∃ (r : Int32) (M' : mM) (T' : mM), fX11_write M a0 a1 a2 = some (r, M') ∧ fX12_write T a0 a1 a2 = some (r, T') ∧ Rel M' T' := by
  have hh := hR.2.2.2.2.2.1
  unfold fX11_write fX12_write
  rw [isFour_eq]
  by_cases h : fX11_isIn a0 0 3 = 0
  · exact ⟨-1, M, T, by rw [if_pos h], by rw [if_pos h], hR⟩
  · rw [if_neg h, if_neg h]
    obtain ⟨s, hs, rfl⟩ := four_yes h
    obtain ⟨⟨g1, g2⟩, ⟨c, c1, c2, c3⟩, g3⟩ := hh.1 s hs
    rw [b1_s (lacks_at hs c1 g1 g2 c3 (-1) a1), gd_t (ix_nI hs (by omega)), tn_nI (by omega), if_pos (Or.inl (by decide : (-1 : Int32) < 0))]
    by_cases k1 : M 57 s = -1
    · exact ⟨-11, M, T, by rw [if_pos k1], by rw [if_pos k1, if_neg (by decide)], hR⟩
    · rw [if_neg k1, if_neg k1, b1_s (has_at hs c2 a1)]
      by_cases k3 : hasS a1 c = 0
      · exact ⟨-12, M, T, by rw [if_pos k3], by rw [if_pos k3, if_neg (by decide)], hR⟩
      · obtain ⟨j, hj, rfl⟩ := has_yes c1 k3
        refine ⟨1, wr M 62 (40 * s + j) (fX12_narrowed (M 57 s) a2), wr T 12 (40 * s + j) (fX12_narrowed (M 57 s) a2), ?_, ?_, ?_⟩
        · rw [if_neg k3, b2_s (set_at hs (by omega) a2)]
        · rw [if_neg k3, if_pos (by decide), itemix.2, gd_t (ix_nI (by omega) (by omega)), gd_t (ix_nI (by omega) (by omega)), tn_nI (by omega), ← g1]
        · refine hR.host (fun q hq => wr_q _ _ (by omega)) (fun q hq => wr_q _ _ (by omega)) ⟨fun u hu => ?_, fun u hu => ?_⟩
          · obtain ⟨y1, y2, y3⟩ := hh.1 u hu
            rw [wr_q _ _ (by omega), wr_q _ _ (by omega), wr_q _ _ (by omega), wr_q _ _ (by omega)]
            refine ⟨y1, y2, fun i hi => ?_⟩
            rw [wr_at, wr_at]
            by_cases z : 40 * u + i = 40 * s + j
            · rw [if_pos ⟨rfl, z⟩, if_pos ⟨rfl, z⟩]
            · rw [if_neg (fun y => z y.2), if_neg (fun y => z y.2)]; exact y3 i hi
          · rw [wr_q _ _ (by omega), wr_q _ _ (by omega), wr_q _ _ (by omega), wr_q _ _ (by omega), wr_q _ _ (by omega), wr_q _ _ (by omega)]
            exact hh.2 u hu
