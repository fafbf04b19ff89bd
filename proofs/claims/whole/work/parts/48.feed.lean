/-! feed, state -/
theorem sh64a : ∀ k, k < 64 → ((nI k).toInt64 &&& 63) = Int64.ofNat k := by decide +kernel
theorem sh64b : ∀ k, k < 64 → ((nI k).toInt64.toUInt64 &&& Int64.toUInt64 63) = UInt64.ofNat k := by decide +kernel
theorem sm64 : ∀ k, k < 64 → ((Int64.ofNat k).toBitVec.smod 64) = BitVec.ofNat 64 k := by decide +kernel
theorem um64 : ∀ k, k < 64 → ((UInt64.ofNat k).toBitVec % 64).toNat = k := by decide +kernel
theorem l255 : ∀ i, i < 32 → (255#32).getLsbD i = decide (i < 8) ∧ (255#64).getLsbD i = decide (i < 8) := by decide +kernel
theorem byte_eq (x : Int64) {j : Nat} (hj : j ≤ 56) : Int64.toInt32 (lushr x (nI j)) &&& 255 = Int64.toInt32 ((x >>> (Int32.toInt64 (nI j) &&& 63)) &&& 255) := by
  unfold lushr
  rw [sh64a j (by omega), sh64b j (by omega)]
  apply Int32.toBitVec_inj.mp
  have e1 : (Int64.toInt32 ((x.toUInt64 >>> UInt64.ofNat j).toInt64) &&& 255).toBitVec = (x.toBitVec >>> ((UInt64.ofNat j).toBitVec % 64)).signExtend 32 &&& 255#32 := rfl
  have e2 : (Int64.toInt32 ((x >>> Int64.ofNat j) &&& 255)).toBitVec = (x.toBitVec.sshiftRight' ((Int64.ofNat j).toBitVec.smod 64) &&& 255#64).signExtend 32 := rfl
  rw [e1, e2, sm64 j (by omega)]
  apply BitVec.eq_of_getLsbD_eq
  intro i hi
  rw [BitVec.getLsbD_and, BitVec.getLsbD_signExtend, BitVec.getLsbD_signExtend, if_pos (show i < 64 by omega), if_pos (show i < 64 by omega), BitVec.getLsbD_and, (l255 i hi).1, (l255 i hi).2]
  by_cases h8 : i < 8
  · have e3 : (x.toBitVec >>> ((UInt64.ofNat j).toBitVec % 64)).getLsbD i = x.toBitVec.getLsbD (j + i) := by
      show (x.toBitVec >>> (((UInt64.ofNat j).toBitVec % 64).toNat)).getLsbD i = _
      rw [um64 j (by omega), BitVec.getLsbD_ushiftRight]
    have e4 : (x.toBitVec.sshiftRight' (BitVec.ofNat 64 j)).getLsbD i = x.toBitVec.getLsbD (j + i) := by
      show (x.toBitVec.sshiftRight (BitVec.ofNat 64 j).toNat).getLsbD i = _
      rw [BitVec.getLsbD_sshiftRight]
      have : (BitVec.ofNat 64 j).toNat = j := by rw [BitVec.toNat_ofNat]; exact Nat.mod_eq_of_lt (by omega)
      rw [this]
      simp only [show ¬ 64 ≤ i by omega, show j + i < 64 by omega, decide_false, Bool.not_false, Bool.true_and, if_true]
    rw [e3, e4]
    simp [h8, hi]
  · simp [h8]
theorem byte_yes (v : Int32) : ∃ b : Nat, b < 256 ∧ v &&& 255 = nI b := pk_andE v (m := 255) 8 (by decide)
theorem feedL : ∀ (d i n z fuel : Nat) (M T : mM) (x : Int64), Rel M T → i + d = n → n ≤ 8 → M 33 0 = nI z → z + d ≤ 200 → d < fuel →
    ∃ (r : Int32) (M' T' : mM), fX5_take_L3 fuel M x (nI n) (nI i) = some (r, M') ∧ fX12_feed_L32 fuel T x (nI n) (nI i) = some (r, T') ∧ Rel M' T' := by
  intro d
  induction d with
  | zero =>
    intro i n z fuel M T x hR h hn hz hd hf
    obtain ⟨k, rfl⟩ : ∃ k, fuel = k + 1 := ⟨fuel - 1, by omega⟩
    obtain ⟨z', t1, t2, t3, t4⟩ := hR.2.2.2.1
    refine ⟨nI z', M, T, ?_, ?_, hR⟩
    · show fX5_take_L3_b (fX5_take_L3 k) M x (nI n) (nI i) = _
      unfold fX5_take_L3_b
      rw [if_pos (nI_le (by omega) (by omega)), t2]
    · show fX12_feed_L32_b (fX12_feed_L32 k) T x (nI n) (nI i) = _
      unfold fX12_feed_L32_b
      rw [if_pos (nI_le (by omega) (by omega)), t3]
  | succ d ih =>
    intro i n z fuel M T x hR h hn hz hd hf
    obtain ⟨k, rfl⟩ : ∃ k, fuel = k + 1 := ⟨fuel - 1, by omega⟩
    obtain ⟨z', t1, t2, t3, t4⟩ := hR.2.2.2.1
    have ez : z' = z := (nI_eq (by omega) (by omega)).mp (t2.symm.trans hz)
    subst ez
    have i8 : (8 : Int32) * nI i = nI (8 * i) := pk_mul 8 i
    obtain ⟨b, hb, hb'⟩ := byte_yes (Int64.toInt32 (lushr x (nI (8 * i))))
    have hR' : Rel (wr (wr M 43 z' (nI b)) 33 0 (nI (z' + 1))) (wr (wr T 4 z' (nI b)) 0 5 (nI (z' + 1))) := by
      obtain ⟨p, s, k, t, w, hh, a⟩ := hR
      have e1 : ∀ q, q ≠ 43 → q ≠ 33 → wr (wr M 43 z' (nI b)) 33 0 (nI (z' + 1)) q = M q := fun q h1 h2 => by rw [wr_q _ _ h2, wr_q _ _ h1]
      have e2 : ∀ q, q ≠ 4 → q ≠ 0 → wr (wr T 4 z' (nI b)) 0 5 (nI (z' + 1)) q = T q := fun q h1 h2 => by rw [wr_q _ _ h2, wr_q _ _ h1]
      have e3 : ∀ k, k ≠ 5 → wr (wr T 4 z' (nI b)) 0 5 (nI (z' + 1)) 0 k = T 0 k := fun k h1 => by rw [wr_k _ h1, wr_q _ _ (by omega)]
      refine ⟨?_, ?_, ?_, ?_, ?_, ?_, ?_⟩
      · rw [e2 1 (by omega) (by omega)]; exact Rp_eq (fun q hq => e1 (1 + q) (by omega) (by omega)) p
      · exact s.keep (e1 63 (by omega) (by omega)) ⟨congrFun (e1 1 (by omega) (by omega)) 0, fun q h1 h2 _ => e1 (1 + q) (by omega) (by omega), fun k _ => congrFun (e1 16 (by omega) (by omega)) k⟩
      · unfold Rk
        rw [e1 0 (by omega) (by omega), e3 2 (by omega), e2 2 (by omega) (by omega)]
        rcases k with k | ⟨k1, k2, k3⟩
        · exact Or.inl k
        · exact Or.inr ⟨k1, k2, Rp_eq (fun q hq => e1 (17 + q) (by omega) (by omega)) k3⟩
      · refine ⟨z' + 1, by omega, wr_s _ _ _ _, wr_s _ _ _ _, fun k hk => ?_⟩
        have f1 : wr (wr M 43 z' (nI b)) 33 0 (nI (z' + 1)) 43 k = if k = z' then nI b else M 43 k := by rw [wr_q _ _ (by omega), wr_at]; simp
        have f2 : wr (wr T 4 z' (nI b)) 0 5 (nI (z' + 1)) 4 k = if k = z' then nI b else T 4 k := by rw [wr_q _ _ (by omega), wr_at]; simp
        rw [f1, f2]
        by_cases g : k = z'
        · exact ⟨b, hb, if_pos g, if_pos g⟩
        · obtain ⟨c, c1, c2, c3⟩ := t4 k (by omega)
          exact ⟨c, c1, by rw [if_neg g]; exact c2, by rw [if_neg g]; exact c3⟩
      · unfold Rw
        rw [e1 0 (by omega) (by omega), e1 67 (by omega) (by omega), e3 20 (by omega), e2 9 (by omega) (by omega)]
        exact w
      · unfold Rh
        rw [e1 57 (by omega) (by omega), e1 58 (by omega) (by omega), e1 59 (by omega) (by omega), e1 60 (by omega) (by omega), e1 61 (by omega) (by omega), e1 62 (by omega) (by omega), e2 10 (by omega) (by omega), e2 11 (by omega) (by omega), e2 12 (by omega) (by omega), e2 13 (by omega) (by omega), e2 14 (by omega) (by omega), e2 15 (by omega) (by omega)]
        exact hh
      · unfold Ra
        rw [e1 47 (by omega) (by omega), e1 48 (by omega) (by omega), e3 29 (by omega), e2 16 (by omega) (by omega)]
        exact a
    obtain ⟨r, M', T', r1, r2, r3⟩ := ih (i + 1) n (z' + 1) k _ _ x hR' (by omega) hn (wr_s _ _ _ _) (by omega) (by omega)
    refine ⟨r, M', T', ?_, ?_, r3⟩
    · show fX5_take_L3_b (fX5_take_L3 k) M x (nI n) (nI i) = _
      unfold fX5_take_L3_b
      rw [if_neg (nI_ge (by omega) (by omega)), t2, if_neg (show ¬ (200 : Int32) ≤ nI z' from nI_ge (b := 200) (by omega) (by omega)), gd_t (ix_nI (by omega) (by omega)), tn_nI (by omega), i8, hb']
      rw [show wr M 43 z' (nI b) 33 0 = nI z' by rw [wr_q _ _ (by omega)]; exact t2, nI_1, nI_1]
      exact r1
    · show fX12_feed_L32_b (fX12_feed_L32 k) T x (nI n) (nI i) = _
      unfold fX12_feed_L32_b
      rw [if_neg (nI_ge (by omega) (by omega)), t3, gd_t (ix_nI (by omega) (by omega)), tn_nI (by omega), i8, ← byte_eq x (by omega), hb']
      rw [show wr T 4 z' (nI b) 0 5 = nI z' by rw [wr_q _ _ (by omega)]; exact t3, nI_1, nI_1]
      exact r2
theorem pm_feed {M T : mM} (hR : Rel M T) (a0 : Int64) (a1 : Int32) : ∃ (r : Int32) (M' : mM) (T' : mM), fX11_feed M a0 a1 = some (r, M') ∧ fX12_feed T a0 a1 = some (r, T') ∧ Rel M' T' := by
  unfold fX11_feed fX12_feed
  rw [show fX12_in (Int32.toInt64 a1) 1 8 = fX11_isIn a1 1 8 from in_eq a1 1 8]
  by_cases h1 : fX11_isIn a1 1 8 = 0
  · exact ⟨-1, M, T, by rw [if_pos h1], by rw [if_pos h1], hR⟩
  rw [if_neg h1, if_neg h1]
  obtain ⟨n, hn1, hn, rfl⟩ := isIn_yes (a := 1) (b := 8) (by omega) (by omega) h1
  obtain ⟨z, t1, t2, t3, t4⟩ := hR.2.2.2.1
  rw [t2, t3, nI_add]
  by_cases h2 : z + n ≤ 200
  · have h2' : nI (z + n) ≤ 200 := nI_le (b := 200) h2 (by omega)
    rw [if_pos h2', if_pos h2']
    obtain ⟨r, M', T', r1, r2, r3⟩ := feedL n 0 n z 5000 M T a0 hR (by omega) hn t2 h2 (by omega)
    refine ⟨r, M', T', ?_, r2, r3⟩
    unfold fX5_take
    rw [b2_s (show fX5_take_L3 5000 M a0 (nI n) 0 = _ from r1)]
  · have h2' : ¬ nI (z + n) ≤ 200 := nI_ge (a := 200) (by omega) (by omega)
    exact ⟨-2, M, T, by rw [if_neg h2'], by rw [if_neg h2'], hR⟩
-- the model's set of those awake
set_option maxRecDepth 100000 in
theorem aset_step : ∀ p, p < 7 → ∀ a, a < 128 → (nI (a % 2 ^ p) ||| (nI (a / 2 ^ p % 2) <<< (nI p &&& 31))) = nI (a % 2 ^ (p + 1)) := by decide +kernel
theorem awakeSetL : ∀ (d p n aw fuel : Nat) (T : mM), p + d = n → n ≤ 7 → aw < 2 ^ n → T 1 0 = nI n → (∀ p, p < n → T 1 (12 + 5 * p) = nI (aw / 2 ^ p % 2)) → d < fuel → fX12_awakeSet_L4 fuel T (nI (aw % 2 ^ p)) (nI p) = some (nI aw) := by
  intro d
  induction d with
  | zero =>
    intro p n aw fuel T h hn ha h0 hb hf
    obtain ⟨k, rfl⟩ : ∃ k, fuel = k + 1 := ⟨fuel - 1, by omega⟩
    show fX12_awakeSet_L4_b (fX12_awakeSet_L4 k) T (nI (aw % 2 ^ p)) (nI p) = _
    unfold fX12_awakeSet_L4_b
    rw [g0N, c0N, h0, if_pos (nI_le (by omega) (by omega))]
    have : p = n := by omega
    subst this
    rw [Nat.mod_eq_of_lt ha]
  | succ d ih =>
    intro p n aw fuel T h hn ha h0 hb hf
    obtain ⟨k, rfl⟩ : ∃ k, fuel = k + 1 := ⟨fuel - 1, by omega⟩
    show fX12_awakeSet_L4_b (fX12_awakeSet_L4 k) T (nI (aw % 2 ^ p)) (nI p) = _
    unfold fX12_awakeSet_L4_b
    rw [g0N, c0N, h0, if_neg (nI_ge (by omega) (by omega)), b1_s (its4 T (by omega)), show 8 + 5 * p + 4 = 12 + 5 * p by omega, hb p (by omega), aset_step p (by omega) aw (pow_le7 hn ha), nI_1]
    exact ih (p + 1) n aw k T (by omega) hn ha h0 hb (by omega)
theorem awakeSet_at {X T : mM} {n aw h no li la : Nat} (hV : Rv X (T 1) n aw h no li la) : fX12_awakeSet T = some (nI aw) := by
  obtain ⟨a, b, c, hv⟩ := hV
  have := awakeSetL n 0 n aw 5000 T (by omega) a.1 a.2.1 c.1 (fun p hp => (hv p hp).elim fun k h => h.elim fun w h => h.elim fun g h => h.elim fun c h => h.2.2.2.2.2.2) (by omega)
  unfold fX12_awakeSet
  rw [Nat.pow_zero, Nat.mod_one] at this
  exact this
theorem pm_state {M T : mM} (hR : Rel M T) (a0 : Int32) : ∃ (r : Int32), fX11_state M a0 = r ∧ fX12_state T a0 = some r ∧ Rel M T := by
  obtain ⟨⟨n, aw, h, no, li, la, hV⟩, -, -⟩ := id hR.1
  obtain ⟨a, b, c, hv⟩ := id hV
  refine ⟨_, rfl, ?_, hR⟩
  unfold fX12_state fX11_state
  rw [b1_s (awakeSet_at hV)]
  simp only [g1N, g2N, g3N, g4N, c1N, c2N, c3N, c4N]
  rw [show M 1 6 = T 1 1 from b.2.2.1.trans c.2.1.symm, show M 1 7 = T 1 2 from b.2.2.2.1.trans c.2.2.1.symm, show M 1 8 = T 1 3 from b.2.2.2.2.1.trans c.2.2.2.1.symm, show M 1 5 = nI aw from b.2.1, show M 1 9 = T 1 4 from b.2.2.2.2.2.trans c.2.2.2.2.1.symm]
  by_cases h0 : a0 = 0
  · rw [if_pos h0, if_pos h0]
  rw [if_neg h0, if_neg h0]
  by_cases h1 : a0 = 1
  · rw [if_pos h1, if_pos h1]
  rw [if_neg h1, if_neg h1]
  by_cases h2 : a0 = 2
  · rw [if_pos h2, if_pos h2]
  rw [if_neg h2, if_neg h2]
  by_cases h3 : a0 = 3
  · rw [if_pos h3, if_pos h3]
  rw [if_neg h3, if_neg h3]
  by_cases h4 : a0 = 4
  · rw [if_pos h4, if_pos h4]
  rw [if_neg h4, if_neg h4]
