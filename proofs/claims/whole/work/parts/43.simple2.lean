/-! MORE SIMPLE CALLS: rows, trace, counts, reports -/
theorem in_pred (v : Int32) (n : Nat) (hn : n < 2 ^ 30) : fX12_in (Int32.toInt64 v) 0 (Int32.toInt64 (nI n - 1)) = (if v < 0 then 0 else if nI n ≤ v then 0 else 1) := by
  rw [show fX12_in (Int32.toInt64 v) 0 (Int32.toInt64 (nI n - 1)) = fX11_isIn v 0 (nI n - 1) from in_eq v 0 (nI n - 1)]
  unfold fX11_isIn
  by_cases h : v < 0
  · rw [if_pos h, if_pos h]
  · rw [if_neg h, if_neg h]
    obtain ⟨j, hj, rfl⟩ := nI_of h
    have e1 : (nI n - 1).toInt = (n : Int) - 1 := pk_sub_toInt (a := n) (b := 1) (by omega) (by omega)
    by_cases h2 : n ≤ j
    · rw [if_pos (nI_le h2 hj), if_pos]
      rw [Int32.lt_iff_toInt_lt, e1, nI_toInt hj]; omega
    · rw [if_neg (nI_ge (by omega) (by omega)), if_neg]
      rw [Int32.lt_iff_toInt_lt, e1, nI_toInt hj]; omega
theorem pm_trace {M T : mM} (hR : Rel M T) (a0 : Int32) : ∃ (r : Int32), fX11_trace M a0 = some r ∧ fX12_trace T a0 = some r ∧ Rel M T := by
  obtain ⟨c, h1, h2, h3, h4⟩ := hR.2.2.2.2.2.2
  unfold fX11_trace fX12_trace
  rw [h2, h3, in_pred a0 c (by omega)]
  by_cases g1 : a0 < 0
  · exact ⟨-3, by rw [if_pos g1], by rw [if_pos g1, if_pos rfl], hR⟩
  · by_cases g2 : nI c ≤ a0
    · exact ⟨-3, by rw [if_neg g1, if_pos g2], by rw [if_neg g1, if_pos g2, if_pos rfl], hR⟩
    · obtain ⟨j, hj, rfl⟩ := nI_of g1
      have hjc : j < c := by
        rcases Nat.lt_or_ge j c with z | z
        · exact z
        · exact absurd (nI_le z hj) g2
      refine ⟨M 48 j, ?_, ?_, hR⟩
      · rw [if_neg g1, if_neg g2, gd_t (ix_nI (by omega) (by omega)), tn_nI (by omega)]
      · rw [if_neg g1, if_neg g2, if_neg (by decide), gd_t (ix_nI (by omega) (by omega)), tn_nI (by omega), h4 j hjc]
theorem pm_many {M T : mM} (hR : Rel M T) (a0 : Int32) : ∃ (r : Int32), fX11_many M a0 = r ∧ fX12_many T a0 = some r ∧ Rel M T := by
  obtain ⟨⟨n, n1, n2, n3⟩, v1, ⟨no, o1, o2, o3⟩, v3, v4, v5, ⟨rp, p1, p2, p3⟩⟩ := Rp_vals hR.1
  obtain ⟨-, -, rc, st, vc, se, fr, to, z1, z2, z3, z4, z5, z6, z7, z8, -⟩ := hR.1
  obtain ⟨-, -, -, ⟨z, t1, t2, t3, -⟩, ⟨w, w1, w2, w3, -⟩, -, ⟨c, c1, c2, c3, -⟩⟩ := id hR
  refine ⟨_, rfl, ?_, hR⟩
  unfold fX11_many fX12_many
  have e0 : M 1 0 = T 1 0 := n2.trans n3.symm
  have e1 : M 8 0 = T 1 7 := z5.trans z8.symm
  have e2 : M 1 7 = T 1 2 := o2.trans o3.symm
  have e3 : M 1 11 = T 1 6 := p2.trans p3.symm
  rw [e0, e1, e2, e3, w2, w3, t2, t3, c2, c3]
  by_cases h0 : a0 = 0
  · simp only [if_pos h0]; rfl
  · simp only [if_neg h0]
    by_cases h1 : a0 = 1
    · simp only [if_pos h1]; rfl
    · simp only [if_neg h1]
      by_cases h2 : a0 = 2
      · simp only [if_pos h2]; rfl
      · simp only [if_neg h2]
        by_cases h3 : a0 = 3
        · simp only [if_pos h3]; rfl
        · simp only [if_neg h3]
          by_cases h4 : a0 = 4
          · simp only [if_pos h4]
          · simp only [if_neg h4]
            by_cases h5 : a0 = 5
            · simp only [if_pos h5]
            · simp only [if_neg h5]
              by_cases h6 : a0 = 6
              · simp only [if_pos h6]
              · simp only [if_neg h6]
theorem isCell_eq {M T : mM} {r : Nat} (hr : r ≤ 4) (h1 : M 0 12 = nI r) (h2 : T 0 20 = nI r) (k w : Int32) : fX12_isCell T k w = fX11_isInRow M k w := by
  unfold fX12_isCell fX11_isInRow
  rw [h1, h2, in_pred k r (by omega), show fX12_in (Int32.toInt64 w) 0 2 = fX11_isIn w 0 2 from in_eq w 0 2]
  by_cases g1 : k < 0
  · rw [if_pos g1, if_pos g1, if_pos rfl]
  · rw [if_neg g1, if_neg g1]
    by_cases g2 : nI r ≤ k
    · rw [if_pos g2, if_pos g2, if_pos rfl]
    · rw [if_neg g2, if_neg g2, if_neg (by decide)]
theorem inRow_yes {M : mM} {r : Nat} (hr : r ≤ 4) (h1 : M 0 12 = nI r) {k w : Int32} (h : ¬ fX11_isInRow M k w = 0) : ∃ j u : Nat, j < r ∧ u < 3 ∧ k = nI j ∧ w = nI u := by
  unfold fX11_isInRow at h
  rw [h1] at h
  by_cases g1 : k < 0
  · rw [if_pos g1] at h; exact absurd rfl h
  · rw [if_neg g1] at h
    by_cases g2 : nI r ≤ k
    · rw [if_pos g2] at h; exact absurd rfl h
    · rw [if_neg g2] at h
      by_cases g3 : fX11_isIn w 0 2 = 0
      · rw [if_pos g3] at h; exact absurd rfl h
      · obtain ⟨u, -, hu, rfl⟩ := isIn_yes (a := 0) (b := 2) (by omega) (by omega) g3
        obtain ⟨j, hj, rfl⟩ := nI_of g1
        refine ⟨j, u, ?_, by omega, rfl, rfl⟩
        rcases Nat.lt_or_ge j r with z | z
        · exact z
        · exact absurd (nI_le z hj) g2
theorem rowix (j u : Nat) : nI j * 3 + nI u = nI (3 * j + u) ∧ 3 * nI j + nI u = nI (3 * j + u) := by
  refine ⟨?_, ?_⟩
  · rw [show nI j * 3 = nI (j * 3) from pk_mul j 3, nI_add, Nat.mul_comm]
  · rw [show 3 * nI j = nI (3 * j) from pk_mul 3 j, nI_add]
theorem pm_row {M T : mM} (hR : Rel M T) (a0 : Int32) (a1 : Int32) : ∃ (r : Int32), fX11_row M a0 a1 = some r ∧ fX12_row T a0 a1 = some r ∧ Rel M T := by
  obtain ⟨w, w1, w2, w3, w4⟩ := hR.2.2.2.2.1
  unfold fX11_row fX12_row
  rw [isCell_eq w1 w2 w3]
  by_cases h : fX11_isInRow M a0 a1 = 0
  · exact ⟨-9, by rw [if_pos h], by rw [if_pos h], hR⟩
  · obtain ⟨j, u, hj, hu, rfl, rfl⟩ := inRow_yes w1 w2 h
    refine ⟨M 67 (3 * j + u), ?_, ?_, hR⟩
    · rw [if_neg h, (rowix j u).1, gd_t (ix_nI (by omega) (by omega)), tn_nI (by omega)]
    · rw [if_neg h, (rowix j u).2, gd_t (ix_nI (by omega) (by omega)), tn_nI (by omega), w4 _ (by omega)]
/-- only the rows change -/
theorem Rel.rows {M T M' T' : mM} (hR : Rel M T) (hc : ∀ q, q ≠ 67 → M' q = M q) (ht : ∀ q, q ≠ 9 → T' q = T q) (h : Rw M' T') : Rel M' T' := by
  obtain ⟨p, s, k, t, -, hh, a⟩ := hR
  have e : nowC M' = fun q => if 1 + q = 67 then M' 67 else nowC M q := by
    funext q
    by_cases z : 1 + q = 67
    · rw [if_pos z]; show M' (1 + q) = M' 67; rw [z]
    · rw [if_neg z]; exact hc (1 + q) z
  refine ⟨?_, ?_, ?_, ?_, h, ?_, ?_⟩
  · rw [ht 1 (by omega)]
    exact Rp_eq (fun q hq => hc (1 + q) (by omega)) p
  · exact s.keep (hc 63 (by omega)) ⟨congrFun (hc 1 (by omega)) 0, fun q h1 h2 _ => hc (1 + q) (by omega), fun k _ => congrFun (hc 16 (by omega)) k⟩
  · unfold Rk
    rw [hc 0 (by omega), ht 0 (by omega), ht 2 (by omega)]
    rcases k with k | ⟨k1, k2, k3⟩
    · exact Or.inl k
    · exact Or.inr ⟨k1, k2, Rp_eq (fun q hq => hc (17 + q) (by omega)) k3⟩
  · unfold Rt
    rw [hc 33 (by omega), hc 43 (by omega), ht 0 (by omega), ht 4 (by omega)]
    exact t
  · unfold Rh
    rw [hc 57 (by omega), hc 58 (by omega), hc 59 (by omega), hc 60 (by omega), hc 61 (by omega), hc 62 (by omega), ht 10 (by omega), ht 11 (by omega), ht 12 (by omega), ht 13 (by omega), ht 14 (by omega), ht 15 (by omega)]
    exact hh
  · unfold Ra
    rw [hc 47 (by omega), hc 48 (by omega), ht 0 (by omega), ht 16 (by omega)]
    exact a
theorem pm_alterRow {M T : mM} (hR : Rel M T) (a0 : Int32) (a1 : Int32) (a2 : Int32) : ∃ (r : Int32) (M' : mM) (T' : mM), fX11_alterRow M a0 a1 a2 = some (r, M') ∧ fX12_alterRow T a0 a1 a2 = some (r, T') ∧ Rel M' T' := by
  obtain ⟨w, w1, w2, w3, w4⟩ := hR.2.2.2.2.1
  unfold fX11_alterRow fX12_alterRow fX11_alterRow_L34
  rw [isCell_eq w1 w2 w3]
  by_cases h : fX11_isInRow M a0 a1 = 0
  · exact ⟨0, M, T, by rw [if_pos h], by rw [if_pos h], hR⟩
  · obtain ⟨j, u, hj, hu, rfl, rfl⟩ := inRow_yes w1 w2 h
    have hRel : Rel (wr M 67 (3 * j + u) a2) (wr T 9 (3 * j + u) a2) := hR.rows (fun q hq => wr_q _ _ hq) (fun q hq => wr_q _ _ hq) (by
      refine ⟨w, w1, by rw [wr_q _ _ (by omega)]; exact w2, by rw [wr_q _ _ (by omega)]; exact w3, fun k hk => ?_⟩
      rw [wr_at, wr_at]
      by_cases z : k = 3 * j + u
      · rw [if_pos ⟨rfl, z⟩, if_pos ⟨rfl, z⟩]
      · rw [if_neg (fun y => z y.2), if_neg (fun y => z y.2)]; exact w4 k hk)
    rw [if_neg h, if_neg h, (rowix j u).1, (rowix j u).2, gd_t (ix_nI (by omega) (by omega)), gd_t (ix_nI (by omega) (by omega)), gd_t (ix_nI (by omega) (by omega)), gd_t (ix_nI (by omega) (by omega)), gd_t (ix_nI (by omega) (by omega)), tn_nI (by omega), ← w4 _ (by omega)]
    by_cases z : M 67 (3 * j + u) = a2
    · exact ⟨1, _, _, by rw [if_pos z, if_neg (by decide)], by rw [if_pos z], hRel⟩
    · exact ⟨2, _, _, by rw [if_neg z, if_pos rfl], by rw [if_neg z], hRel⟩
