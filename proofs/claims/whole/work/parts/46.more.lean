/-! voter, report, sheet, shelf, taken -/
theorem sets0 (T : mM) {p : Nat} (hp : p < 7) (v : Int32) : fX12_sets T (nI p) 0 v = some (0, wr T 1 (8 + 5 * p) v) := sets_at T hp (j := 0) (by omega) v
theorem sets1 (T : mM) {p : Nat} (hp : p < 7) (v : Int32) : fX12_sets T (nI p) 1 v = some (0, wr T 1 (8 + 5 * p + 1) v) := sets_at T hp (j := 1) (by omega) v
theorem sets2 (T : mM) {p : Nat} (hp : p < 7) (v : Int32) : fX12_sets T (nI p) 2 v = some (0, wr T 1 (8 + 5 * p + 2) v) := sets_at T hp (j := 2) (by omega) v
theorem sets3 (T : mM) {p : Nat} (hp : p < 7) (v : Int32) : fX12_sets T (nI p) 3 v = some (0, wr T 1 (8 + 5 * p + 3) v) := sets_at T hp (j := 3) (by omega) v
theorem sets4 (T : mM) {p : Nat} (hp : p < 7) (v : Int32) : fX12_sets T (nI p) 4 v = some (0, wr T 1 (8 + 5 * p + 4) v) := sets_at T hp (j := 4) (by omega) v
theorem its0 (T : mM) {p : Nat} (hp : p < 7) : fX12_its T (nI p) 0 = some (T 1 (8 + 5 * p)) := its_at T hp (j := 0) (by omega)
theorem its1 (T : mM) {p : Nat} (hp : p < 7) : fX12_its T (nI p) 1 = some (T 1 (8 + 5 * p + 1)) := its_at T hp (j := 1) (by omega)
theorem its2 (T : mM) {p : Nat} (hp : p < 7) : fX12_its T (nI p) 2 = some (T 1 (8 + 5 * p + 2)) := its_at T hp (j := 2) (by omega)
theorem its3 (T : mM) {p : Nat} (hp : p < 7) : fX12_its T (nI p) 3 = some (T 1 (8 + 5 * p + 3)) := its_at T hp (j := 3) (by omega)
theorem its4 (T : mM) {p : Nat} (hp : p < 7) : fX12_its T (nI p) 4 = some (T 1 (8 + 5 * p + 4)) := its_at T hp (j := 4) (by omega)
theorem c0N : Int32.toNatClampNeg 0 = 0 := rfl
theorem c1N : Int32.toNatClampNeg 1 = 1 := rfl
theorem c2N : Int32.toNatClampNeg 2 = 2 := rfl
theorem c3N : Int32.toNatClampNeg 3 = 3 := rfl
theorem c4N : Int32.toNatClampNeg 4 = 4 := rfl
theorem c5N : Int32.toNatClampNeg 5 = 5 := rfl
theorem c6N : Int32.toNatClampNeg 6 = 6 := rfl
theorem c7N : Int32.toNatClampNeg 7 = 7 := rfl
theorem g0N {α : Type} {x : Option α} : gd (ix 0 295) x = x := rfl
theorem g1N {α : Type} {x : Option α} : gd (ix 1 295) x = x := rfl
theorem g2N {α : Type} {x : Option α} : gd (ix 2 295) x = x := rfl
theorem g3N {α : Type} {x : Option α} : gd (ix 3 295) x = x := rfl
theorem g4N {α : Type} {x : Option α} : gd (ix 4 295) x = x := rfl
theorem g5N {α : Type} {x : Option α} : gd (ix 5 295) x = x := rfl
theorem g6N {α : Type} {x : Option α} : gd (ix 6 295) x = x := rfl
theorem g7N {α : Type} {x : Option α} : gd (ix 7 295) x = x := rfl
theorem pm_voter {M T : mM} (hR : Rel M T) (a0 : Int32) (a1 : Int32) (a2 : Int32) (a3 : Int32) : ∃ (r : Int32) (M' : mM) (T' : mM), fX11_voter M a0 a1 a2 a3 = some (r, M') ∧ fX12_voter T a0 a1 a2 a3 = some (r, T') ∧ Rel M' T' := by
  obtain ⟨⟨n, aw, hh, no, li, la, hV⟩, -, -⟩ := id hR.1
  obtain ⟨a, b, c, hv⟩ := id hV
  have n2 : M 1 0 = nI n := b.1
  have n3 : T 1 0 = nI n := c.1
  have a5 : M 1 5 = nI aw := b.2.1
  have a128 := pow_le7 a.1 a.2.1
  unfold fX11_voter fX12_voter fX12_isKind
  simp only [suits_eq, g0N, c0N]
  rw [show fX12_in (Int32.toInt64 a0) 1 5 = fX11_isIn a0 1 5 from in_eq a0 1 5]
  by_cases h1 : fX11_isIn a0 1 5 = 0
  · exact ⟨-1, M, T, by rw [if_pos h1], by rw [if_pos h1], hR⟩
  rw [if_neg h1, if_neg h1]
  by_cases h2 : fX11_suits 1 a1 = 0
  · exact ⟨-1, M, T, by rw [if_pos h2], by rw [if_pos h2], hR⟩
  rw [if_neg h2, if_neg h2]
  by_cases h3 : fX11_suits 2 a2 = 0
  · exact ⟨-1, M, T, by rw [if_pos h3], by rw [if_pos h3], hR⟩
  rw [if_neg h3, if_neg h3]
  by_cases h4 : fX11_suits 3 a3 = 0
  · exact ⟨-1, M, T, by rw [if_pos h4], by rw [if_pos h4], hR⟩
  rw [if_neg h4, if_neg h4]
  obtain ⟨k, hk, hk', rfl⟩ := isIn_yes (a := 1) (b := 5) (by omega) (by omega) h1
  obtain ⟨w, hw, rfl⟩ := isHour_yes (v := a1) h2
  obtain ⟨g, hg, hg', rfl⟩ := isIn_yes (v := a2) (a := 1) (b := 9) (by omega) (by omega) h3
  obtain ⟨m, -, hm, rfl⟩ := isIn_yes (v := a3) (a := 0) (b := 99) (by omega) (by omega) h4
  simp only [n2, n3]
  by_cases h5 : n = 7
  · subst h5
    exact ⟨-2, M, T, by rw [if_neg (by decide)], by rw [if_pos (by decide)], hR⟩
  · have hn : n < 7 := by omega
    rw [if_pos (show nI n < 7 from nI_lt (b := 7) (by omega) (by omega)), if_neg (show ¬ nI n = 7 from fun q => h5 ((nI_eq (b := 7) (by omega) (by omega)).mp q))]
    have z0 : aw / 2 ^ n % 2 = 0 := by rw [Nat.div_eq_of_lt a.2.1]
    refine ⟨nI n, cl63 (wr (wr (wr (wr (wr (wr M 2 n (nI k)) 3 n (nI w)) 4 n (nI g)) 5 n (nI m)) 1 5 (nI (onS aw n))) 1 0 (nI (n + 1))), wr (wr (wr (wr (wr (wr T 1 0 (nI (n + 1))) 1 (8 + 5 * n) (nI k)) 1 (8 + 5 * n + 1) (nI w)) 1 (8 + 5 * n + 2) (nI g)) 1 (8 + 5 * n + 3) (nI m)) 1 (8 + 5 * n + 4) 1, ?_, ?_, ?_⟩
    · simp only [wr_at, gd_t (ix_nI hn (show (7 : Nat) ≤ 2 ^ 31 by omega)), tn_nI (show n < 2 ^ 31 by omega), n2, a5]
      simp only [show ¬ ((1 : Nat) = 2 ∧ (0 : Nat) = n) from fun q => absurd q.1 (by omega), show ¬ ((1 : Nat) = 3 ∧ (0 : Nat) = n) from fun q => absurd q.1 (by omega), show ¬ ((1 : Nat) = 4 ∧ (0 : Nat) = n) from fun q => absurd q.1 (by omega), show ¬ ((1 : Nat) = 5 ∧ (0 : Nat) = n) from fun q => absurd q.1 (by omega), show ¬ ((1 : Nat) = 2 ∧ (5 : Nat) = n) from fun q => absurd q.1 (by omega), show ¬ ((1 : Nat) = 3 ∧ (5 : Nat) = n) from fun q => absurd q.1 (by omega), show ¬ ((1 : Nat) = 4 ∧ (5 : Nat) = n) from fun q => absurd q.1 (by omega), show ¬ ((1 : Nat) = 5 ∧ (5 : Nat) = n) from fun q => absurd q.1 (by omega), show ¬ ((1 : Nat) = 1 ∧ (0 : Nat) = 5) from fun q => absurd q.2 (by omega), if_false, n2, a5]
      rw [bit_or n hn aw a128, if_neg (show ¬ (True ∧ (0 : Nat) = 5) by decide), nI_1, b2_s (p_forgetSums _)]
    · rw [nI_1, b2_s (sets0 _ hn _), b2_s (sets1 _ hn _), b2_s (sets2 _ hn _), b2_s (sets3 _ hn _), b2_s (sets4 _ hn _)]
    · have e0 : ∀ (X : mM) (v1 v2 v3 v4 v5 v6 : Int32) (q : Nat), q ≠ 1 → q ≠ 2 → q ≠ 3 → q ≠ 4 → q ≠ 5 → wr (wr (wr (wr (wr (wr X 2 n v1) 3 n v2) 4 n v3) 5 n v4) 1 5 v5) 1 0 v6 q = X q := fun X v1 v2 v3 v4 v5 v6 q h1 h2 h3 h4 h5 => by rw [wr_q _ _ h1, wr_q _ _ h1, wr_q _ _ h5, wr_q _ _ h4, wr_q _ _ h3, wr_q _ _ h2]
      refine hR.cl (Rp_vot hR.1 (fun q h1 h2 => ?_) ?_ (fun k hk => ?_) ⟨n + 1, onS aw n, hh, no, li, la, ⟨by omega, ?_, a.2.2⟩, ?_, ?_, fun p hp => ?_⟩) ⟨e0 _ _ _ _ _ _ _ _ (by omega) (by omega) (by omega) (by omega) (by omega), fun q _ _ => e0 _ _ _ _ _ _ _ _ (by omega) (by omega) (by omega) (by omega) (by omega), e0 _ _ _ _ _ _ _ _ (by omega) (by omega) (by omega) (by omega) (by omega)⟩ ?_
      · exact e0 _ _ _ _ _ _ _ _ (by omega) (by omega) (by omega) (by omega) (by omega)
      · show wr _ 1 0 _ 1 11 = M 1 11
        rw [wr_k _ (by omega), wr_k _ (by omega), wr_q _ _ (by omega), wr_q _ _ (by omega), wr_q _ _ (by omega), wr_q _ _ (by omega)]
      · rw [wr_k _ (by omega), wr_k _ (by omega), wr_k _ (by omega), wr_k _ (by omega), wr_k _ (by omega), wr_k _ (by omega)]
      · exact (on_bit n hn aw a128).2 (n + 1) (by omega) (by omega) (Nat.lt_of_lt_of_le a.2.1 (Nat.pow_le_pow_right (by omega) (by omega)))
      · have e : ∀ j, j ≠ 0 → j ≠ 5 → nowC (wr (wr (wr (wr (wr (wr M 2 n (nI k)) 3 n (nI w)) 4 n (nI g)) 5 n (nI m)) 1 5 (nI (onS aw n))) 1 0 (nI (n + 1))) 0 j = M 1 j := fun j h0 h5 => by
          show wr _ 1 0 _ 1 j = M 1 j
          rw [wr_k _ h0, wr_k _ h5, wr_q _ _ (by omega), wr_q _ _ (by omega), wr_q _ _ (by omega), wr_q _ _ (by omega)]
        rw [e 6 (by omega) (by omega), e 7 (by omega) (by omega), e 8 (by omega) (by omega), e 9 (by omega) (by omega)]
        refine ⟨wr_s _ _ _ _, ?_, b.2.2⟩
        show wr _ 1 0 _ 1 5 = _
        rw [wr_k _ (by omega), wr_s]
      · have e : nowC (wr (wr (wr (wr (wr (wr M 2 n (nI k)) 3 n (nI w)) 4 n (nI g)) 5 n (nI m)) 1 5 (nI (onS aw n))) 1 0 (nI (n + 1))) 0 10 = M 1 10 := by
          show wr _ 1 0 _ 1 10 = M 1 10
          rw [wr_k _ (by omega), wr_k _ (by omega), wr_q _ _ (by omega), wr_q _ _ (by omega), wr_q _ _ (by omega), wr_q _ _ (by omega)]
        have e' : ∀ j, j < 8 → j ≠ 0 → wr (wr (wr (wr (wr (wr T 1 0 (nI (n + 1))) 1 (8 + 5 * n) (nI k)) 1 (8 + 5 * n + 1) (nI w)) 1 (8 + 5 * n + 2) (nI g)) 1 (8 + 5 * n + 3) (nI m)) 1 (8 + 5 * n + 4) 1 1 j = T 1 j := fun j hj h0 => by
          rw [wr_k _ (by omega), wr_k _ (by omega), wr_k _ (by omega), wr_k _ (by omega), wr_k _ (by omega), wr_k _ h0]
        rw [e, e' 1 (by omega) (by omega), e' 2 (by omega) (by omega), e' 3 (by omega) (by omega), e' 4 (by omega) (by omega), e' 5 (by omega) (by omega)]
        refine ⟨?_, c.2⟩
        rw [wr_k _ (by omega), wr_k _ (by omega), wr_k _ (by omega), wr_k _ (by omega), wr_k _ (by omega), wr_s]
      · have ob := (on_bit n hn aw a128).1 p (by omega)
        have f1 : nowC (wr (wr (wr (wr (wr (wr M 2 n (nI k)) 3 n (nI w)) 4 n (nI g)) 5 n (nI m)) 1 5 (nI (onS aw n))) 1 0 (nI (n + 1))) 1 p = if p = n then nI k else M 2 p := by
          show wr _ 1 0 _ 2 p = _
          rw [wr_q _ _ (by omega), wr_q _ _ (by omega), wr_q _ _ (by omega), wr_q _ _ (by omega), wr_q _ _ (by omega), wr_at]; simp
        have f2 : nowC (wr (wr (wr (wr (wr (wr M 2 n (nI k)) 3 n (nI w)) 4 n (nI g)) 5 n (nI m)) 1 5 (nI (onS aw n))) 1 0 (nI (n + 1))) 2 p = if p = n then nI w else M 3 p := by
          show wr _ 1 0 _ 3 p = _
          rw [wr_q _ _ (by omega), wr_q _ _ (by omega), wr_q _ _ (by omega), wr_q _ _ (by omega), wr_at, wr_q _ _ (by omega)]; simp
        have f3 : nowC (wr (wr (wr (wr (wr (wr M 2 n (nI k)) 3 n (nI w)) 4 n (nI g)) 5 n (nI m)) 1 5 (nI (onS aw n))) 1 0 (nI (n + 1))) 3 p = if p = n then nI g else M 4 p := by
          show wr _ 1 0 _ 4 p = _
          rw [wr_q _ _ (by omega), wr_q _ _ (by omega), wr_q _ _ (by omega), wr_at, wr_q _ _ (by omega), wr_q _ _ (by omega)]; simp
        have f4 : nowC (wr (wr (wr (wr (wr (wr M 2 n (nI k)) 3 n (nI w)) 4 n (nI g)) 5 n (nI m)) 1 5 (nI (onS aw n))) 1 0 (nI (n + 1))) 4 p = if p = n then nI m else M 5 p := by
          show wr _ 1 0 _ 5 p = _
          rw [wr_q _ _ (by omega), wr_q _ _ (by omega), wr_at, wr_q _ _ (by omega), wr_q _ _ (by omega), wr_q _ _ (by omega)]; simp
        unfold Rvo
        rw [f1, f2, f3, f4, ob]
        by_cases hpn : p = n
        · subst hpn
          refine ⟨k, w, g, m, ⟨hk, hk', hw, hg, hg', hm⟩, ⟨if_pos rfl, if_pos rfl, if_pos rfl, if_pos rfl⟩, ?_, ?_, ?_, ?_, ?_⟩
          · rw [wr_k _ (by omega), wr_k _ (by omega), wr_k _ (by omega), wr_k _ (by omega), wr_s]
          · rw [wr_k _ (by omega), wr_k _ (by omega), wr_k _ (by omega), wr_at, if_pos ⟨rfl, by omega⟩]
          · rw [wr_k _ (by omega), wr_k _ (by omega), wr_at, if_pos ⟨rfl, by omega⟩]
          · rw [wr_k _ (by omega), wr_at, if_pos ⟨rfl, by omega⟩]
          · rw [wr_at, if_pos ⟨rfl, by omega⟩, if_pos rfl]; rfl
        · rw [if_neg hpn, if_neg hpn, if_neg hpn, if_neg hpn, if_neg hpn]
          have e' : ∀ j, 8 + 5 * p ≤ j → j < 13 + 5 * p → wr (wr (wr (wr (wr (wr T 1 0 (nI (n + 1))) 1 (8 + 5 * n) (nI k)) 1 (8 + 5 * n + 1) (nI w)) 1 (8 + 5 * n + 2) (nI g)) 1 (8 + 5 * n + 3) (nI m)) 1 (8 + 5 * n + 4) 1 1 j = T 1 j := fun j hj h0 => by
            rw [wr_k _ (by omega), wr_k _ (by omega), wr_k _ (by omega), wr_k _ (by omega), wr_k _ (by omega), wr_k _ (by omega)]
          rw [e' _ (by omega) (by omega), e' _ (by omega) (by omega), e' _ (by omega) (by omega), e' _ (by omega) (by omega), e' _ (by omega) (by omega)]
          exact hv p (by omega)
      · have e' : ∀ q, q ≠ 1 → wr (wr (wr (wr (wr (wr T 1 0 (nI (n + 1))) 1 (8 + 5 * n) (nI k)) 1 (8 + 5 * n + 1) (nI w)) 1 (8 + 5 * n + 2) (nI g)) 1 (8 + 5 * n + 3) (nI m)) 1 (8 + 5 * n + 4) 1 q = T q := fun q hq => by
          rw [wr_q _ _ hq, wr_q _ _ hq, wr_q _ _ hq, wr_q _ _ hq, wr_q _ _ hq, wr_q _ _ hq]
        exact ⟨by rw [e' 0 (by omega)]; exact ⟨rfl, rfl, rfl, rfl⟩, e' 2 (by omega), e' 4 (by omega), fun q hq => e' q (by omega)⟩
theorem pm_report {M T : mM} (hR : Rel M T) (a0 : Int32) (a1 : Int32) : ∃ (r : Int32) (M' : mM) (T' : mM), fX11_report M a0 a1 = some (r, M') ∧ fX12_report T a0 a1 = some (r, T') ∧ Rel M' T' := by
  obtain ⟨hV, ⟨rp, d1, d2, d3, d4⟩, hL⟩ := id hR.1
  have r2 : M 1 11 = nI rp := d2
  unfold fX11_report fX12_report
  rw [isHour_eq, show fX12_in (Int32.toInt64 a0) 0 60 = fX11_isIn a0 0 60 from in_eq a0 0 60]
  by_cases h1 : fX11_isIn a0 0 60 = 0
  · exact ⟨-1, M, T, by rw [if_pos h1], by rw [if_pos h1], hR⟩
  rw [if_neg h1, if_neg h1]
  by_cases h2 : fX11_isHour a1 = 0
  · exact ⟨-1, M, T, by rw [if_pos h2], by rw [if_pos h2], hR⟩
  rw [if_neg h2, if_neg h2]
  obtain ⟨x, -, hx, rfl⟩ := isIn_yes (a := 0) (b := 60) (by omega) (by omega) h1
  obtain ⟨y, hy, rfl⟩ := isHour_yes h2
  simp only [g6N, c6N]
  simp only [r2, d3]
  by_cases h5 : rp = 6
  · subst h5
    exact ⟨-2, M, T, by rw [if_neg (by decide)], by rw [if_pos (by decide)], hR⟩
  · have hn : rp < 6 := by omega
    rw [if_pos (show nI rp < 6 from nI_lt (b := 6) (by omega) (by omega)), if_neg (show ¬ nI rp = 6 from fun q => h5 ((nI_eq (b := 6) (by omega) (by omega)).mp q))]
    have i1 : (43 : Int32) + 2 * nI rp = nI (43 + 2 * rp) := by
      rw [show (2 : Int32) * nI rp = nI (2 * rp) from pk_mul 2 rp, show (43 : Int32) + nI (2 * rp) = nI (43 + 2 * rp) from nI_add 43 _]
    refine ⟨nI rp, wr (wr (wr M 6 rp (nI x)) 7 rp (nI y)) 1 11 (nI (rp + 1)), wr (wr (wr T 1 (43 + 2 * rp) (nI x)) 1 (44 + 2 * rp) (nI y)) 1 6 (nI (rp + 1)), ?_, ?_, ?_⟩
    · have w1 : wr M 6 rp (nI x) 1 11 = nI rp := by rw [wr_q _ _ (by omega)]; exact r2
      have w2 : wr (wr M 6 rp (nI x)) 7 rp (nI y) 1 11 = nI rp := by rw [wr_q _ _ (by omega)]; exact w1
      rw [gd_t (ix_nI hn (by omega)), tn_nI (by omega), w1, gd_t (ix_nI hn (by omega)), tn_nI (by omega), w2, nI_1]
    · have w1 : wr T 1 (43 + 2 * rp) (nI x) 1 6 = nI rp := by rw [wr_k _ (by omega)]; exact d3
      have w2 : wr (wr T 1 (43 + 2 * rp) (nI x)) 1 (44 + 2 * rp) (nI y) 1 6 = nI rp := by rw [wr_k _ (by omega)]; exact w1
      rw [i1, gx (by omega), tn_nI (by omega), w1, i1, nI_1, gx (by omega), tn_nI (by omega), show 43 + 2 * rp + 1 = 44 + 2 * rp by omega, w2, nI_1, wr_s, nI_pred]
    · have e0 : ∀ (X : mM) (v1 v2 v5 : Int32) (q : Nat), q ≠ 1 → q ≠ 6 → q ≠ 7 → wr (wr (wr X 6 rp v1) 7 rp v2) 1 11 v5 q = X q := fun X v1 v2 v5 q h1 h2 h3 => by rw [wr_q _ _ h1, wr_q _ _ h3, wr_q _ _ h2]
      have e1 : ∀ j, j ≠ 11 → wr (wr (wr M 6 rp (nI x)) 7 rp (nI y)) 1 11 (nI (rp + 1)) 1 j = M 1 j := fun j hj => by rw [wr_k _ hj, wr_q _ _ (by omega), wr_q _ _ (by omega)]
      have e2 : ∀ j, j ≠ 6 → j ≠ 43 + 2 * rp → j ≠ 44 + 2 * rp → wr (wr (wr T 1 (43 + 2 * rp) (nI x)) 1 (44 + 2 * rp) (nI y)) 1 6 (nI (rp + 1)) 1 j = T 1 j := fun j h1 h2 h3 => by rw [wr_k _ h1, wr_k _ h3, wr_k _ h2]
      refine hR.now ⟨?_, ⟨rp + 1, by omega, wr_s _ _ _ _, wr_s _ _ _ _, fun k hk => ?_⟩, Rl_eq (fun q h1 h2 => e0 M _ _ _ (1 + q) (by omega) (by omega) (by omega)) (fun k h1 h2 => e2 k (by omega) (by omega) (by omega)) hL⟩ ?_ ⟨e0 _ _ _ _ _ (by omega) (by omega) (by omega), fun q _ _ => e0 _ _ _ _ _ (by omega) (by omega) (by omega), e0 _ _ _ _ _ (by omega) (by omega) (by omega)⟩ ?_
      · obtain ⟨n, aw, h, no, li, la, a, b, c, hv⟩ := hV
        refine ⟨n, aw, h, no, li, la, a, ?_, ?_, fun p hp => ?_⟩
        · rw [show nowC (wr (wr (wr M 6 rp (nI x)) 7 rp (nI y)) 1 11 (nI (rp + 1))) 0 = wr (wr (wr M 6 rp (nI x)) 7 rp (nI y)) 1 11 (nI (rp + 1)) 1 from rfl, e1 0 (by omega), e1 5 (by omega), e1 6 (by omega), e1 7 (by omega), e1 8 (by omega), e1 9 (by omega)]
          exact b
        · rw [show nowC (wr (wr (wr M 6 rp (nI x)) 7 rp (nI y)) 1 11 (nI (rp + 1))) 0 = wr (wr (wr M 6 rp (nI x)) 7 rp (nI y)) 1 11 (nI (rp + 1)) 1 from rfl, e1 10 (by omega), e2 0 (by omega) (by omega) (by omega), e2 1 (by omega) (by omega) (by omega), e2 2 (by omega) (by omega) (by omega), e2 3 (by omega) (by omega) (by omega), e2 4 (by omega) (by omega) (by omega), e2 5 (by omega) (by omega) (by omega)]
          exact c
        · have := hv p hp
          unfold Rvo at this ⊢
          rw [e2 _ (by omega) (by omega) (by omega), e2 _ (by omega) (by omega) (by omega), e2 _ (by omega) (by omega) (by omega), e2 _ (by omega) (by omega) (by omega), e2 _ (by omega) (by omega) (by omega)]
          rw [show nowC (wr (wr (wr M 6 rp (nI x)) 7 rp (nI y)) 1 11 (nI (rp + 1))) 1 = M 2 from e0 _ _ _ _ _ (by omega) (by omega) (by omega), show nowC (wr (wr (wr M 6 rp (nI x)) 7 rp (nI y)) 1 11 (nI (rp + 1))) 2 = M 3 from e0 _ _ _ _ _ (by omega) (by omega) (by omega), show nowC (wr (wr (wr M 6 rp (nI x)) 7 rp (nI y)) 1 11 (nI (rp + 1))) 3 = M 4 from e0 _ _ _ _ _ (by omega) (by omega) (by omega), show nowC (wr (wr (wr M 6 rp (nI x)) 7 rp (nI y)) 1 11 (nI (rp + 1))) 4 = M 5 from e0 _ _ _ _ _ (by omega) (by omega) (by omega)]
          exact this
      · have f6 : wr (wr (wr M 6 rp (nI x)) 7 rp (nI y)) 1 11 (nI (rp + 1)) 6 k = if k = rp then nI x else M 6 k := by
          rw [wr_q _ _ (by omega), wr_q _ _ (by omega), wr_at]; simp
        have f7 : wr (wr (wr M 6 rp (nI x)) 7 rp (nI y)) 1 11 (nI (rp + 1)) 7 k = if k = rp then nI y else M 7 k := by
          rw [wr_q _ _ (by omega), wr_at, wr_q _ _ (by omega)]; simp
        show ∃ a b : Nat, a ≤ 60 ∧ b < 24 ∧ wr (wr (wr M 6 rp (nI x)) 7 rp (nI y)) 1 11 (nI (rp + 1)) 6 k = nI a ∧ wr (wr (wr M 6 rp (nI x)) 7 rp (nI y)) 1 11 (nI (rp + 1)) 7 k = nI b ∧ _
        rw [f6, f7]
        by_cases hkr : k = rp
        · subst hkr
          refine ⟨x, y, hx, hy, if_pos rfl, if_pos rfl, ?_, ?_⟩
          · rw [wr_k _ (by omega), wr_k _ (by omega), wr_s]
          · rw [wr_k _ (by omega), wr_s]
        · rw [if_neg hkr, if_neg hkr, e2 _ (by omega) (by omega) (by omega), e2 _ (by omega) (by omega) (by omega)]
          exact d4 k (by omega)
      · refine hR.2.1.keep (wr_q _ _ (by omega)) ⟨e1 0 (by omega), fun q h1 h2 h3 => ?_, fun k _ => ?_⟩
        · exact e0 _ _ _ _ (1 + q) (by omega) (by omega) (by omega)
        · exact congrFun (e0 _ _ _ _ _ (by omega) (by omega) (by omega)) k
      · exact ⟨by rw [wr_q _ _ (by omega), wr_q _ _ (by omega), wr_q _ _ (by omega)]; exact ⟨rfl, rfl, rfl, rfl⟩, by rw [wr_q _ _ (by omega), wr_q _ _ (by omega), wr_q _ _ (by omega)], by rw [wr_q _ _ (by omega), wr_q _ _ (by omega), wr_q _ _ (by omega)], fun q hq => by rw [wr_q _ _ (by omega), wr_q _ _ (by omega), wr_q _ _ (by omega)]⟩
