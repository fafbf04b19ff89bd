/-! a rule, all rules, rules() -/
theorem cd_ne40 {b : Nat → Nat} {z f : Nat} (h : f < z) : ¬ cdT b z f = 40 := by
  unfold cdT
  rw [if_pos h]
  split
  · unfold nmT
    rcases fndT_is b f (teT b z f) 18 0 with ⟨t, h1, h2, h3, h4⟩ | ⟨h1, h2⟩
    · rw [h4]; exact (code_ne t (by omega)).2.1
    · rw [h1]; decide
  · split
    · split <;> omega
    · rcases sgT_is (b f) with ⟨s, h1, h2, h3, h4⟩ | h
      · rw [h4]; exact (code_ne s h2).2.1
      · rw [h]; decide
theorem hold_keep {M M' T T' : mM} {vc rc s0 f0 : Nat} {se fr to : Nat → Nat} (hrc : rc < 8) (hold : ∀ r, r < rc → ruV (drC M) (T 5) vc r (se r) (se (r + 1)) (fr r) (to r) ∧ se (r + 1) ≤ s0 ∧ to r ≤ f0) (hM : frM s0 M M') (hT : ∀ j, j < 95 + f0 → j ≠ 55 + 5 * rc → j ≠ 58 + 5 * rc → T' 5 j = T 5 j) : ∀ r, r < rc → ruV (drC M') (T' 5) vc r (se r) (se (r + 1)) (fr r) (to r) ∧ se (r + 1) ≤ s0 ∧ to r ≤ f0 := by
  intro r hr
  obtain ⟨h1, h2, h3⟩ := hold r hr
  have e : ∀ q, 8 ≤ q → q ≤ 11 → drC M' q = drC M q := fun q a b => hM.1 (27 + q) (by omega) (by omega) (by omega) (by omega) (by omega)
  refine ⟨h1.keep ?_ (fun j hj => hM.2.2.2 j (by omega)) (hM.1 42 (by omega) (by omega) (by omega) (by omega) (by omega)) (fun j a b => hT j (by omega) (by omega) (by omega)) (fun j a b => hT j (by omega) (by omega) (by omega)), h2, h3⟩
  rw [e 8 (by omega) (by omega), e 9 (by omega) (by omega), e 10 (by omega) (by omega), e 11 (by omega) (by omega)]
  exact ⟨rfl, rfl, rfl, rfl⟩
theorem ruleB {b : Nat → Nat} {z w vc i st sg rc : Nat} {M T : mM} (hrc : rc < 8) (h : rsP b z w vc i st sg rc M T) : ∃ (r : Bool) (M' T' : mM), fX5_readRule M = some (bI r, M') ∧ fX12_rule T = some (0, T') ∧ fwM M M' ∧ fwT T T' ∧ (r = true → ∃ i' st' sg', i < i' ∧ rsP b z w vc i' st' sg' (rc + 1) M' T') ∧ (r = false → rfP b z w M' T') := by
  obtain ⟨⟨hta, ⟨m7, m5⟩, ⟨hA, t7, t10⟩, hiw, hsti, hsgi⟩, se, fr, to, ⟨r8, h0, h7⟩, hs0, hsr, hold⟩ := h
  have hw := hta.1
  have t10' : T 0 10 = 0 := t10
  obtain ⟨x1, -, -⟩ := hta.2.2.2.1 i hiw
  have x1' : M 44 i = nI (wdT b z i) := x1
  have hc42 : wdT b z i < 42 := cdT_lt b z _
  have gi : ∀ {x : Option (Int32 × mM)}, gd (ix (nI i) 201) x = x := gd_t (ix_nI (by omega) (by omega))
  by_cases hk : wdT b z i ≤ 5
  · have hiw' : i < w := wd_40 hta hiw (by omega)
    have isin : ¬ fX11_isIn (nI (wdT b z i)) 0 5 = 0 := by
      rw [show fX11_isIn (nI (wdT b z i)) 0 5 = 1 from isIn_t (a := 0) (b := 5) (by omega) hk (by omega)]
      decide
    obtain ⟨T1, n1, n2, n3⟩ := next_i hA
    have t57 : T1 5 7 = nI rc := (congrFun (n2.1 5 (by omega)) 7).trans h7
    have t17 : T1 0 7 = nI sg := (n2.2 7 (by omega) (by omega)).trans t7
    have a55 : (55 : Int32) + 5 * nI rc = nI (55 + 5 * rc) := by
      rw [show (5 : Int32) * nI rc = nI (5 * rc) from pk_mul 5 rc]; exact nI_add 55 _
    have a58 : nI (55 + 5 * rc) + 3 = nI (58 + 5 * rc) := by rw [show nI (55 + 5 * rc) + 3 = nI (55 + 5 * rc + 3) from nI_add _ 3]; congr 1; omega
    have A2 := at_5 (at_5 n3 (55 + 5 * rc) (nI (wdT b z i))) (58 + 5 * rc) (nI sg)
    have f2 : fwT T (wr (wr T1 5 (55 + 5 * rc) (nI (wdT b z i))) 5 (58 + 5 * rc) (nI sg)) := (n2.fw.trans (fwT_5 _ _ _)).trans (fwT_5 _ _ _)
    have r2 : ∀ j, wr (wr T1 5 (55 + 5 * rc) (nI (wdT b z i))) 5 (58 + 5 * rc) (nI sg) 5 j = if j = 58 + 5 * rc then nI sg else if j = 55 + 5 * rc then nI (wdT b z i) else T 5 j := fun j => by
      rw [wr_at, wr_at, n2.1 5 (by omega)]
      simp only [true_and]
    have e7 : ∀ (k : Nat), wr (wr T1 5 (55 + 5 * rc) (nI (wdT b z i))) 5 (58 + 5 * rc) (nI sg) 0 k = T1 0 k := fun k => by rw [wr_q _ _ (by omega), wr_q _ _ (by omega)]
    have HM : fX12_rule T = b2 (fX12_takes (wr (wr T1 5 (55 + 5 * rc) (nI (wdT b z i))) 5 (58 + 5 * rc) (nI sg)) 11) fun r13 M15 => (if r13 = 0 then (fX12_rule_L87 M15 (nI (55 + 5 * rc))) else (b2 (fX12_any 6 M15) fun r17 M19 => (fX12_rule_L87 M19 (nI (55 + 5 * rc))))) := by
      unfold fX12_rule fX12_rule_L27
      rw [b1_s (kind_h hA), if_pos hk, if_neg (nI_pos (by omega)), g7N, c7N, h7, if_neg (show ¬ nI rc = 8 from fun q => by have := (nI_eq (b := 8) (by omega) (by omega)).mp q; omega), gd_t (show isB 0 = true from rfl), wr0_sm hA.2.1, if_pos hA.2.1, b2_s n1, g7N, t57, a55, a58, gx (by omega), gx (by omega), tn_nI (by omega), tn_nI (by omega), wr_q _ _ (show (0 : Nat) ≠ 5 by omega), t17]
    have hM1 : frM st M (wr M 33 7 (nI (i + 1))) := frM_at st M _
    have hta1 := taT_fr hta hM1
    have gp := goPast_at (c := 20) hta1 (wr_s _ _ _ _) (show i + 1 ≤ w by omega) (by omega)
    have HC : fX5_readRule M = b2 (fX5_goPast (wr M 33 7 (nI (i + 1))) 20) fun r3 M5 => (if r3 = 0 then (fX5_readRule_L50 M5 (nI (wdT b z i))) else (b2 (fX5_readCond 6 M5 0) fun r7 M9 => (if r7 = 0 then (some (0, M9)) else (fX5_readRule_L50 M9 (nI (wdT b z i)))))) := by
      unfold fX5_readRule
      simp only [m7, gi, tn_nI (show i < 2 ^ 31 by omega), x1', nI_1]
      rw [if_neg isin]
    have hw1 : M 34 5 = nI st := m5
    rw [HC, HM, show fX5_goPast (wr M 33 7 (nI (i + 1))) 20 = _ from gp, wr_wr]
    have tk := takes_at (s := 11) A2 (by omega)
    by_cases e : wdT b z (i + 1) = 20
    · have hi1 : i + 1 < w := wd_40 hta (by omega) (by omega)
      obtain ⟨T3, u1, u2, u3⟩ := tk.1 e
      rw [if_pos e, b2_s rfl, if_neg (show ¬ (1 : Int32) = 0 by decide), b2_s u1, if_neg (show ¬ (1 : Int32) = 0 by decide)]
      have hM2 : frM st M (wr M 33 7 (nI (i + 1 + 1))) := frM_at st M _
      have t37 : T3 0 7 = nI sg := (u2.2 7 (by omega) (by omega)).trans ((e7 7).trans t17)
      have t310 : T3 0 10 = nI 0 := (u2.2 10 (by omega) (by omega)).trans ((e7 10).trans ((n2.2 10 (by omega) (by omega)).trans t10))
      obtain ⟨r, M3, T4, c1, c2, c3, c4⟩ := condB (b := b) (z := z) (w := w) (vc := vc) 3 0 6 6 (by omega) (by omega) (by omega) (wr M 33 7 (nI (i + 1 + 1))) T3 (i + 1 + 1) st sg ⟨taT_fr hta hM2, ⟨wr_s _ _ _ _, (congrFun (wr_q _ _ (by omega)) 5).trans m5⟩, ⟨u3, t37, t310⟩, by omega, by omega, by omega⟩
      rw [b2_s (show fX5_readCond 6 (wr M 33 7 (nI (i + 1 + 1))) 0 = _ from c1), b2_s c2]
      cases r
      · obtain ⟨i', st', k1, ⟨k2, k3⟩, ⟨k4, k5⟩, k6, k7⟩ := c4 rfl
        obtain ⟨T5, w1, w2, w3, w4⟩ := wn_87 k5 (show 55 + 5 * rc + 4 < 295 by omega)
        exact ⟨false, M3, T5, by rw [if_pos (show bI false = 0 from rfl)]; rfl, w1, (hM2.trans k6 (Nat.le_refl st)).fw, ((f2.trans u2.fw).trans k7.fw).trans w4, fun q => absurd q (by decide), fun _ => ⟨i', k1.2.1, k2, w3.trans k4, w2.2.1⟩⟩
      · obtain ⟨i', st', sg', k1, ⟨k2, k3⟩, ⟨k4, k5⟩, k6, k7, k8, k9, k10⟩ := c3 rfl
        have fM : frM st M M3 := hM2.trans k9 (Nat.le_refl st)
        have r4 : ∀ j, j < 95 + sg → T4 5 j = if j = 58 + 5 * rc then nI sg else if j = 55 + 5 * rc then nI (wdT b z i) else T 5 j := fun j hj => by
          rw [k10.2.2 j hj, u2.1 5 (by omega)]; exact r2 j
        obtain ⟨r', M', T', d1, d2, d3, d4, d5, d6⟩ := tailB (k := wdT b z i) (s0 := st) (f0 := sg) hk hrc (taT_fr hta fM) k2 k3 k4 k5 ((k10.2.1 10 (by omega) (by omega) (by omega) (by omega)).trans t310) (by omega) se fr to ⟨(fM.2.2.1 0 (by omega)).trans h0, by rw [r4 7 (by omega), if_neg (by omega), if_neg (by omega)]; exact h7⟩ ⟨hs0, hsr⟩ (hold_keep hrc hold fM (fun j hj h1 h2 => by rw [r4 j hj, if_neg h2, if_neg h1])) (by rw [r4 _ (by omega), if_neg (by omega), if_pos rfl]) (by rw [r4 _ (by omega), if_pos rfl]) (Or.inl (k6 0 (by omega))) k7 k8
        refine ⟨r', M', T', ?_, d2, fM.fw.trans d3, ((f2.trans u2.fw).trans k10.fw).trans d4, fun q => ?_, d6⟩
        · rw [if_neg (show ¬ bI true = 0 by decide)]; exact d1
        · obtain ⟨i2, j1, j2⟩ := d5 q
          exact ⟨i2, st', sg', by omega, j2⟩
    · rw [if_neg e, b2_s rfl, if_pos rfl, b2_s (tk.2 e), if_pos rfl]
      obtain ⟨r', M', T', d1, d2, d3, d4, d5, d6⟩ := tailB (k := wdT b z i) (s0 := st) (f0 := sg) hk hrc hta1 (wr_s _ _ _ _) ((congrFun (wr_q _ _ (by omega)) 5).trans m5) A2 ((e7 7).trans t17) ((e7 10).trans ((n2.2 10 (by omega) (by omega)).trans t10')) (by omega) se fr to ⟨(hM1.2.2.1 0 (by omega)).trans h0, by rw [r2 7, if_neg (by omega), if_neg (by omega)]; exact h7⟩ ⟨hs0, hsr⟩ (hold_keep hrc hold hM1 (fun j hj h1 h2 => by rw [r2 j, if_neg h2, if_neg h1])) (by rw [r2, if_neg (by omega), if_pos rfl]) (by rw [r2, if_pos rfl]) (Or.inr rfl) (by rw [Nat.sub_self]; trivial) (by rw [Nat.sub_self]; rfl)
      refine ⟨r', M', T', d1, d2, hM1.fw.trans d3, f2.trans d4, fun q => ?_, d6⟩
      obtain ⟨i2, j1, j2⟩ := d5 q
      exact ⟨i2, st, sg, by omega, j2⟩
  · have W := hA.wn
    refine ⟨false, M, wr T 0 11 1, ?_, ?_, fwM.refl M, fwT_w T 1, fun q => absurd q (by decide), fun _ => ⟨i, hiw, m7, W.2, W.1.2.1⟩⟩
    · have isin : fX11_isIn (nI (wdT b z i)) 0 5 = 0 := by
        rw [isIn_eq, if_neg]
        intro q
        exact hk ((nI_leI (b := 5) (by omega) (by omega)).mp q.2)
      unfold fX5_readRule
      simp only [m7, gi, tn_nI (show i < 2 ^ 31 by omega), x1']
      rw [if_pos isin]
      rfl
    · unfold fX12_rule fX12_rule_L22 fX12_rule_L27
      rw [b1_s (kind_h hA), if_neg hk, if_pos (by decide), gd_t (show isB 1 = true from rfl), wr_s, if_neg (by decide)]
/-- all rules: both end alike -/
theorem readB {b : Nat → Nat} {z w vc : Nat} : ∀ (d rc i st sg fu fu' : Nat) (M T : mM), rc + d = 8 → d < fu → d + 1 < fu' → rsP b z w vc i st sg rc M T →
    ∃ M' T' : mM, fX12_rules_L32 fu' T = fX12_rules_L57 T' ∧ fwM M M' ∧ fwT T T' ∧ ((fX5_read_L25 fu M 1 (nI rc) = some (-1, M') ∧ T' 0 11 = 0 ∧ ∃ i' st' sg' rc', rsP b z w vc i' st' sg' rc' M' T') ∨ (∃ f : Nat, f ≤ 200 ∧ fX5_read_L25 fu M 1 (nI rc) = some (nI f, M') ∧ T' 0 8 = nI f ∧ T' 0 11 = 1)) := by
  -- the class's end
  have L60 : ∀ (M : mM) (i : Nat) (x : Int32), taT M b z w vc → M 33 7 = nI i → i ≤ w → (x = 0 ∨ i < w) → fX5_read_L60 M x = some (nI (plT b z i), M) := by
    intro M i x hta m7 hi hx
    have hw := hta.1
    obtain ⟨x1, x2, -⟩ := hta.2.2.2.1 i hi
    unfold fX5_read_L60
    rw [m7, gd_t (ix_nI (by omega) (by omega)), gd_t (ix_nI (by omega) (by omega)), tn_nI (by omega), x1, x2]
    rcases hx with hx | hx
    · rw [if_pos hx, ite_self]
    · have := cdT_lt b z (plT b z i)
      rw [if_neg (show ¬ nI (cdT b z (plT b z i)) = 40 from fun q => cd_ne40 (hta.2.2.1 i hx) ((nI_eq (b := 40) (by omega) (by omega)).mp q))]
  have L32w : ∀ (fu : Nat) (T : mM), 0 < fu → T 0 11 = 1 → fX12_rules_L32 fu T = fX12_rules_L57 T := by
    intro fu T hf h
    obtain ⟨f, rfl⟩ : ∃ j, fu = j + 1 := ⟨fu - 1, by omega⟩
    show fX12_rules_L32_b (fX12_rules_L32 f) T = _
    unfold fX12_rules_L32_b
    rw [if_neg (by rw [h]; decide)]
  intro d
  induction d with
  | zero =>
    intro rc i st sg fu fu' M T hd hf hf' h
    obtain ⟨f, rfl⟩ : ∃ j, fu = j + 1 := ⟨fu - 1, by omega⟩
    obtain ⟨f', rfl⟩ : ∃ j, fu' = j + 1 + 1 := ⟨fu' - 2, by omega⟩
    obtain ⟨⟨hta, ⟨m7, m5⟩, ⟨hA, t7, t10⟩, hiw, hsti, hsgi⟩, hdr⟩ := id h
    have hw := hta.1
    have hz := hA.1.1.1
    have hpl := plT_le b z i
    have HC : fX5_read_L25 (f + 1) M 1 (nI rc) = fX5_read_L60 M 1 := by
      show fX5_read_L25_b (fX5_read_L25 f) M 1 (nI rc) = _
      unfold fX5_read_L25_b
      rw [if_pos (show (8 : Int32) ≤ nI rc from nI_le (a := 8) (by omega) (by omega))]
    by_cases ew : i = w
    · refine ⟨M, T, ?_, fwM.refl M, fwT.refl T, Or.inl ⟨?_, hA.2.1, i, st, sg, rc, h⟩⟩
      · show fX12_rules_L32_b (fX12_rules_L32 (f' + 1)) T = _
        unfold fX12_rules_L32_b
        rw [if_pos hA.2.1, hA.1.2, hA.2.2.1, ew, hta.2.1, if_pos (nI_le (by omega) (by omega))]
      · rw [HC]
        obtain ⟨x1, x2, -⟩ := hta.2.2.2.1 i hiw
        have e40 : cdT b z (plT b z i) = 40 := by rw [ew]; exact wd_w hta
        unfold fX5_read_L60
        rw [m7, gd_t (ix_nI (by omega) (by omega)), tn_nI (by omega), x1, e40, if_pos (show nI 40 = 40 from rfl), if_neg (show ¬ (1 : Int32) = 0 by decide)]
    · have hlt : i < w := by omega
      have W := hA.wn
      refine ⟨M, wr T 0 11 1, ?_, fwM.refl M, fwT_w T 1, Or.inr ⟨plT b z i, by omega, ?_, W.2, W.1.2.1⟩⟩
      · show fX12_rules_L32_b (fX12_rules_L32 (f' + 1)) T = _
        unfold fX12_rules_L32_b
        obtain ⟨se, fr, to, ⟨r8, h0, h7⟩, -⟩ := hdr
        have hrl : fX12_rule T = some (0, wr T 0 11 1) := by
          unfold fX12_rule fX12_rule_L22 fX12_rule_L27
          rw [b1_s (kind_h hA), gd_t (show isB 1 = true from rfl), wr_s, if_neg (show ¬ (1 : Int32) = 0 by decide), g7N, c7N, h7, if_pos (show nI rc = 8 by rw [show rc = 8 by omega]; rfl), ite_self]
        rw [if_pos hA.2.1, hA.1.2, hA.2.2.1, if_neg (nI_ge (hta.2.2.1 i hlt) (by omega)), b2_s hrl]
        exact L32w _ _ (by omega) W.1.2.1
      · rw [HC, L60 M i 1 hta m7 hiw (Or.inr hlt)]
  | succ d ih =>
    intro rc i st sg fu fu' M T hd hf hf' h
    obtain ⟨f, rfl⟩ : ∃ j, fu = j + 1 := ⟨fu - 1, by omega⟩
    obtain ⟨f', rfl⟩ : ∃ j, fu' = j + 1 := ⟨fu' - 1, by omega⟩
    obtain ⟨⟨hta, ⟨m7, m5⟩, ⟨hA, t7, t10⟩, hiw, hsti, hsgi⟩, hdr⟩ := id h
    have hw := hta.1
    have hz := hA.1.1.1
    have hpl := plT_le b z i
    have n8 : ¬ (8 : Int32) ≤ nI rc := nI_ge (b := 8) (by omega) (by omega)
    obtain ⟨x1, x2, -⟩ := hta.2.2.2.1 i hiw
    have c42 := cdT_lt b z (plT b z i)
    by_cases ew : i = w
    · refine ⟨M, T, ?_, fwM.refl M, fwT.refl T, Or.inl ⟨?_, hA.2.1, i, st, sg, rc, h⟩⟩
      · show fX12_rules_L32_b (fX12_rules_L32 f') T = _
        unfold fX12_rules_L32_b
        rw [if_pos hA.2.1, hA.1.2, hA.2.2.1, ew, hta.2.1, if_pos (nI_le (by omega) (by omega))]
      · have e40 : cdT b z (plT b z i) = 40 := by rw [ew]; exact wd_w hta
        show fX5_read_L25_b (fX5_read_L25 f) M 1 (nI rc) = _
        unfold fX5_read_L25_b fX5_read_L60
        rw [if_neg n8, if_neg (show ¬ (1 : Int32) = 0 by decide), m7, gd_t (ix_nI (by omega) (by omega)), tn_nI (by omega), x1, e40, if_pos (show nI 40 = 40 from rfl), gd_t (ix_nI (by omega) (by omega)), if_pos (show nI 40 = 40 from rfl), if_neg (show ¬ (1 : Int32) = 0 by decide)]
    · have hlt : i < w := by omega
      obtain ⟨r, M1, T1, c1, c2, c3, c4, c5, c6⟩ := ruleB (by omega) h
      have HC : fX5_read_L25 (f + 1) M 1 (nI rc) = fX5_read_L25 f M1 (bI r) (nI (rc + 1)) := by
        show fX5_read_L25_b (fX5_read_L25 f) M 1 (nI rc) = _
        unfold fX5_read_L25_b
        rw [if_neg n8, if_neg (show ¬ (1 : Int32) = 0 by decide), m7, gd_t (ix_nI (by omega) (by omega)), tn_nI (by omega), x1, if_neg (show ¬ nI (cdT b z (plT b z i)) = 40 from fun q => cd_ne40 (hta.2.2.1 i hlt) ((nI_eq (b := 40) (by omega) (by omega)).mp q)), b2_s c1, nI_1]
      have HM : fX12_rules_L32 (f' + 1) T = fX12_rules_L32 f' T1 := by
        show fX12_rules_L32_b (fX12_rules_L32 f') T = _
        unfold fX12_rules_L32_b
        rw [if_pos hA.2.1, hA.1.2, hA.2.2.1, if_neg (nI_ge (hta.2.2.1 i hlt) (by omega)), b2_s c2]
      rw [HC, HM]
      cases r
      · obtain ⟨i', j1, j2, j3, j4⟩ := c6 rfl
        have hta1 := taT_fw hta c3
        have hpl' := plT_le b z i'
        refine ⟨M1, T1, L32w _ _ (by omega) j4, c3, c4, Or.inr ⟨plT b z i', by omega, ?_, j3, j4⟩⟩
        obtain ⟨g, rfl⟩ : ∃ j, f = j + 1 := ⟨f - 1, by omega⟩
        show fX5_read_L25_b (fX5_read_L25 g) M1 (bI false) (nI (rc + 1)) = _
        unfold fX5_read_L25_b
        rw [if_pos (show bI false = 0 from rfl), ite_self, L60 M1 i' (bI false) hta1 j2 j1 (Or.inl rfl)]
      · obtain ⟨i', st', sg', j1, j2⟩ := c5 rfl
        obtain ⟨M', T', d1, d2, d3, d4⟩ := ih (rc + 1) i' st' sg' f f' M1 T1 (by omega) (by omega) (by omega) j2
        exact ⟨M', T', d1, c3.trans d2, c4.trans d3, d4⟩
-- the draft becomes THE RULES
theorem Seg_map (t : Nat → Int32) : ∀ (L : List Int32) (j : Nat), Seg t j L → (List.range L.length).map (fun i => t (95 + j + i)) = L := by
  intro L
  induction L with
  | nil => intro j _; rfl
  | cons v l ih =>
    intro j h
    show (List.range (l.length + 1)).map (fun i => t (95 + j + i)) = v :: l
    rw [List.range_succ_eq_map, List.map_cons, List.map_map]
    congr 1
    · exact h.1
    · refine Eq.trans ?_ (ih (j + 1) h.2)
      apply List.map_congr_left
      intro i _
      show t (95 + j + (i + 1)) = t (95 + (j + 1) + i)
      congr 1
      omega
theorem drR_Rl {M T : mM} {b : Nat → Nat} {z w vc i st sg rc : Nat} (h : rsP b z w vc i st sg rc M T) : Rl (drC M) (T 5) := by
  obtain ⟨⟨hta, ⟨m7, m5⟩, ⟨hA, t7, t10⟩, hiw, hsti, hsgi⟩, se, fr, to, ⟨r8, h0, h7⟩, hs0, hsr, hold⟩ := h
  obtain ⟨hw, -, -, -, v5, v205, v9, vv⟩ := hta
  refine ⟨rc, st, vc, se, fr, to, r8, by omega, v5, v205, h0, m5, v9, h7, hs0, fun v h1 h2 => vv v h1 h2, fun r hr => ?_⟩
  obtain ⟨⟨k, d, b', a, ⟨c1, c2, c3, c4⟩, ⟨e1, e2, e3, e4, e5⟩, ⟨f1, f2⟩, g, hseg, hlen⟩, o2, o3⟩ := hold r hr
  refine ⟨k, d, b', a.1, a.2.1, a.2.2, c1, c2, c3, e1, e2, e3, c4, f1, o2, e4, e5, f2, by omega, g, ?_⟩
  have := Seg_map _ _ _ hseg
  rw [show (encL (drC M) (se r) (se (r + 1) - se r)).length = to r - fr r by omega] at this
  exact this
theorem become5 : ∀ (d j fuel : Nat) (T : mM), j + d = 295 → 55 ≤ j → d < fuel → fX12_rules_L94 fuel T (nI j) = some (T 1 7, va_up T 1 (fun k => if j ≤ k ∧ k < 295 then T 5 k else T 1 k)) := by
  intro d
  induction d with
  | zero =>
    intro j fuel T h h55 hf
    obtain ⟨n, rfl⟩ : ∃ n, fuel = n + 1 := ⟨fuel - 1, by omega⟩
    show fX12_rules_L94_b (fX12_rules_L94 n) T (nI j) = _
    unfold fX12_rules_L94_b
    rw [if_pos (show (295 : Int32) ≤ nI j from nI_le (a := 295) (by omega) (by omega)), g7N, c7N]
    have e1 : va_up T 1 (fun k => if j ≤ k ∧ k < 295 then T 5 k else T 1 k) = T := by
      funext q k
      by_cases hq : q = 1
      · subst hq; rw [va_up_self, if_neg (by omega)]
      · rw [va_up_ne _ _ hq]
    rw [e1]
  | succ d ih =>
    intro j fuel T h h55 hf
    obtain ⟨n, rfl⟩ : ∃ n, fuel = n + 1 := ⟨fuel - 1, by omega⟩
    show fX12_rules_L94_b (fX12_rules_L94 n) T (nI j) = _
    unfold fX12_rules_L94_b
    rw [if_neg (show ¬ (295 : Int32) ≤ nI j from nI_ge (b := 295) (by omega) (by omega)), gx (by omega), gx (by omega), tn_nI (by omega), nI_1, ih (j + 1) n _ (by omega) (by omega) (by omega), wr_k _ (show 7 ≠ j by omega)]
    congr 2
    funext q k
    by_cases hq : q = 1
    · subst hq
      rw [va_up_self, va_up_self, wr_q _ _ (show (5 : Nat) ≠ 1 by omega)]
      by_cases hk : k = j
      · subst hk
        rw [if_neg (by omega), wr_s, if_pos (by omega)]
      · rw [wr_k _ hk]
        by_cases h1 : j + 1 ≤ k ∧ k < 295
        · rw [if_pos h1, if_pos (by omega)]
        · rw [if_neg h1, if_neg (by omega)]
    · rw [va_up_ne _ _ hq, va_up_ne _ _ hq, wr_q _ _ hq]
/-- THE TAPE is used up -/
theorem Rel.used {M T M' T' : mM} (hR : Rel M T) (h1 : Rp (nowC M') (T' 1)) (hs : Rs M') (hc : ∀ q, q = 0 ∨ (17 ≤ q ∧ q < 33) ∨ (46 < q ∧ q ≠ 63) → M' q = M q) (h33 : M' 33 0 = 0) (ht : ∀ q, q = 2 ∨ 9 ≤ q → T' q = T q) (h0 : ∀ k, k = 2 ∨ k = 20 ∨ k = 29 → T' 0 k = T 0 k) (h5 : T' 0 5 = 0) : Rel M' T' := by
  obtain ⟨-, -, k, t, w, hh, a⟩ := hR
  refine ⟨h1, hs, ?_, ⟨0, by omega, h33, h5, fun k hk => absurd hk (by omega)⟩, ?_, ?_, ?_⟩
  · unfold Rk
    rw [hc 0 (by omega), h0 2 (by omega), ht 2 (by omega)]
    rcases k with k | ⟨k1, k2, k3⟩
    · exact Or.inl k
    · exact Or.inr ⟨k1, k2, Rp_eq (fun q hq => hc (17 + q) (by omega)) k3⟩
  · unfold Rw
    rw [hc 0 (by omega), hc 67 (by omega), h0 20 (by omega), ht 9 (by omega)]
    exact w
  · unfold Rh
    rw [hc 57 (by omega), hc 58 (by omega), hc 59 (by omega), hc 60 (by omega), hc 61 (by omega), hc 62 (by omega), ht 10 (by omega), ht 11 (by omega), ht 12 (by omega), ht 13 (by omega), ht 14 (by omega), ht 15 (by omega)]
    exact hh
  · unfold Ra
    rw [hc 47 (by omega), hc 48 (by omega), h0 29 (by omega), ht 16 (by omega)]
    exact a
theorem pm_rules {M T : mM} (hR : Rel M T) : ∃ (r : Int32) (M' : mM) (T' : mM), fX11_rules M = some (r, M') ∧ fX12_rules T = some (r, T') ∧ Rel M' T' := by
  obtain ⟨z, z200, z1, z2, z3⟩ := hR.2.2.2.1
  -- THE TAPE
  have hb : ∀ k, k < z → ((M 43 k).toNatClampNeg < 256 ∧ M 43 k = nI (M 43 k).toNatClampNeg) ∧ T 4 k = nI (M 43 k).toNatClampNeg := fun k hk => by
    obtain ⟨b, b1, b2, b3⟩ := z3 k hk
    rw [b2, nI_clamp (by omega)]
    exact ⟨⟨b1, rfl⟩, b3⟩
  have hBM : byT (M 43) (fun k => (M 43 k).toNatClampNeg) z := ⟨z200, fun k hk => (hb k hk).1⟩
  -- the class: the words
  have B0 : byT ((wr (wr (wr (wr M 34 0 0) 34 5 0) 34 9 5) 33 3 0) 43) (fun k => (M 43 k).toNatClampNeg) z := by
    rw [wr_q _ _ (by omega), wr_q _ _ (by omega), wr_q _ _ (by omega), wr_q _ _ (by omega)]
    exact hBM
  obtain ⟨M2, w, vc, c1, c2, c3, c4, c5⟩ := cutB B0 z 0 0 5 5000 (wr (wr (wr (wr M 34 0 0) 34 5 0) 34 9 5) 33 3 0) (by omega) (by omega) ⟨⟨wr_s _ _ _ _, by rw [wr_k _ (by omega), wr_q _ _ (by omega), wr_q _ _ (by omega), wr_q _ _ (by omega)]; exact z1, by rw [wr_q _ _ (by omega), wr_s]; rfl, rfl⟩, ⟨by omega, by omega, by omega⟩, rfl, fun j hj => absurd hj (by omega), fun u h1 h2 => absurd h1 (by omega), fun _ _ _ _ _ _ _ => rfl, fun _ _ => rfl, fun _ _ => rfl⟩
  have e2 : ∀ q, q < 33 ∨ 46 < q → M2 q = M q := fun q hq => by
    rw [c3 q (by omega) (by omega) (by omega) (by omega) (by omega) (by omega), wr_q _ _ (by omega), wr_q _ _ (by omega), wr_q _ _ (by omega), wr_q _ _ (by omega)]
  -- the model: its start
  have hTs : tpT (wr (wr (wr (wr (wr T 0 11 0) 0 10 0) 0 7 0) 0 9 0) 5 7 0) (fun k => (M 43 k).toNatClampNeg) z := by
    refine ⟨⟨z200, fun k hk => ⟨(hb k hk).1.1, ?_⟩⟩, ?_⟩
    · rw [wr_q _ _ (by omega), wr_q _ _ (by omega), wr_q _ _ (by omega), wr_q _ _ (by omega), wr_q _ _ (by omega)]
      exact (hb k hk).2
    · rw [wr_q _ _ (by omega), wr_k _ (by omega), wr_k _ (by omega), wr_k _ (by omega), wr_k _ (by omega)]
      exact z2
  obtain ⟨T2, n1, n2, n3, n4⟩ := next_at (k := 0) hTs (by omega) (by rw [wr_q _ _ (by omega), wr_s]; rfl)
  have t2k : ∀ k, k ≠ 7 → k ≠ 8 → k ≠ 9 → k ≠ 10 → k ≠ 11 → T2 0 k = T 0 k := fun k a b c d e => by
    rw [n2.2 k b c, wr_q _ _ (by omega), wr_k _ c, wr_k _ a, wr_k _ d, wr_k _ e]
  have t2q : ∀ q, q ≠ 0 → q ≠ 5 → T2 q = T q := fun q a b => by
    rw [n2.1 q a, wr_q _ _ b, wr_q _ _ a, wr_q _ _ a, wr_q _ _ a, wr_q _ _ a]
  have hS : rsP (fun k => (M 43 k).toNatClampNeg) z w vc 0 0 0 0 (wr (wr M2 33 0 0) 33 7 0) T2 := by
    have fw : frM 0 M2 (wr (wr M2 33 0 0) 33 7 0) → True := fun _ => trivial
    have x34 : ∀ k, wr (wr M2 33 0 0) 33 7 0 34 k = M2 34 k := fun k => by rw [wr_q _ _ (by omega), wr_q _ _ (by omega)]
    have xq : ∀ q, q ≠ 33 → wr (wr M2 33 0 0) 33 7 0 q = M2 q := fun q hq => by rw [wr_q _ _ hq, wr_q _ _ hq]
    refine ⟨⟨?_, ⟨wr_s _ _ _ _, ?_⟩, ⟨⟨n2.tp hTs, ?_, n3, n4⟩, ?_, ?_⟩, by omega, by omega, by omega⟩, fun _ => 0, fun _ => 0, fun _ => 0, ⟨by omega, ?_, ?_⟩, rfl, rfl, fun r hr => absurd hr (by omega)⟩
    · obtain ⟨a1, a2, a3, a4, a5, a6, a7, a8⟩ := c2
      refine ⟨a1, a2, a3, fun j hj => woT_keep (a4 j hj) (congrFun (xq 44 (by omega)) j) (congrFun (xq 45 (by omega)) j) (congrFun (xq 46 (by omega)) j) (Nat.le_refl vc) (fun u _ => congrFun (xq 42 (by omega)) u), a5, a6, (x34 9).trans a7, fun u h1 h2 => ?_⟩
      rw [xq 42 (by omega)]
      exact a8 u h1 h2
    · rw [x34, c5 5 (by omega), wr_q _ _ (by omega), wr_k _ (by omega), wr_s]; rfl
    · rw [n2.2 11 (by omega) (by omega), wr_q _ _ (by omega), wr_k _ (by omega), wr_k _ (by omega), wr_k _ (by omega), wr_s]
    · rw [n2.2 7 (by omega) (by omega), wr_q _ _ (by omega), wr_k _ (by omega), wr_s]; rfl
    · rw [n2.2 10 (by omega) (by omega), wr_q _ _ (by omega), wr_k _ (by omega), wr_k _ (by omega), wr_s]; rfl
    · rw [x34, c5 0 (by omega), wr_q _ _ (by omega), wr_k _ (by omega), wr_k _ (by omega), wr_s]; rfl
    · rw [n2.1 5 (by omega), wr_s]; rfl
  obtain ⟨M3, T3, d1, d2, d3, d4⟩ := readB 8 0 0 0 0 5000 5000 (wr (wr M2 33 0 0) 33 7 0) T2 (by omega) (by omega) (by omega) hS
  have HM : fX12_rules T = fX12_rules_L57 T3 := by
    unfold fX12_rules
    rw [g7N, c7N, b2_s n1]
    exact d1
  have e3 : ∀ q, q < 33 ∨ 46 < q → M3 q = M q := fun q hq => by
    rw [d2.1 q (by omega), wr_q _ _ (by omega), wr_q _ _ (by omega)]
    exact e2 q hq
  have m330 : M3 33 0 = 0 := by rw [d2.2.1 0 (by omega), wr_k _ (by omega), wr_s]
  have t3q : ∀ q, q ≠ 0 → q ≠ 5 → T3 q = T q := fun q a b => (d3.1 q a b).trans (t2q q a b)
  have t3k : ∀ k, k ≠ 7 → k ≠ 8 → k ≠ 9 → k ≠ 10 → k ≠ 11 → T3 0 k = T 0 k := fun k a b c d e => (d3.2 k a b c e).trans (t2k k a b c d e)
  have hread : ∀ r : Int32, fX5_read_L25 5000 (wr (wr M2 33 0 0) 33 7 0) 1 (nI 0) = some (r, M3) → fX5_read M = some (r, M3) := fun r hr => by
    unfold fX5_read fX6_clear_q34 fX5_cutWords
    rw [b2_s rfl, b2_s (show fX5_cutWords_L7 5000 (wr (wr (wr (wr M 34 0 0) 34 5 0) 34 9 5) 33 3 0) 0 = _ from c1)]
    exact hr
  rcases d4 with ⟨k1, k2, i', st', sg', rc', k3⟩ | ⟨f, f200, k1, k2, k3⟩
  · have hRl := drR_Rl k3
    obtain ⟨⟨hta, ⟨m7, m5⟩, ⟨hA, t7, t10⟩, hiw, hsti, hsgi⟩, se, fr, to, ⟨r8, h0, h7⟩, -⟩ := k3
    obtain ⟨hw, -, -, -, v5, v205, v9, vv⟩ := hta
    have LC := LC_8_34 M3 m5 (by omega) v9 v205
    obtain ⟨-, ⟨l0, l5, l9⟩, l8, l12, l15⟩ := LC_at 8 34 M3 (by omega) m5 (by omega) v9 v205
    have T4e : (wr (wr T3 0 5 0) 1 7 (nI rc')) 1 7 = nI rc' := wr_s _ _ _ _
    refine ⟨nI rc', cl63 (LC11 8 34 M3), va_up (wr (wr T3 0 5 0) 1 7 (nI rc')) 1 (fun k => if 55 ≤ k ∧ k < 295 then (wr (wr T3 0 5 0) 1 7 (nI rc')) 5 k else (wr (wr T3 0 5 0) 1 7 (nI rc')) 1 k), ?_, ?_, ?_⟩
    · unfold fX11_rules
      rw [b2_s (hread _ k1), if_pos (by decide), b2_s LC, b2_s (p_forgetSums _), cl_ne (by omega), l0, h0]
    · rw [HM]
      unfold fX12_rules_L57
      rw [wr_k _ (show 11 ≠ 5 by omega), k2, if_pos rfl, g7N, g7N, c7N, wr_q _ _ (show (5 : Nat) ≠ 0 by omega), h7, show fX12_rules_L94 5000 (wr (wr T3 0 5 0) 1 7 (nI rc')) 55 = _ from become5 240 55 5000 _ (by omega) (by omega) (by omega), T4e]
    · have q1 : ∀ q, q < 8 → LC11 8 34 M3 q = M q := fun q hq => by rw [LC11_out (by omega)]; exact e3 q (by omega)
      have q2 : ∀ q, 16 < q → q < 33 ∨ 46 < q → LC11 8 34 M3 q = M q := fun q h1 h2 => by rw [LC11_out (by omega)]; exact e3 q h2
      have u1 : ∀ k, k < 55 → k ≠ 7 → va_up (wr (wr T3 0 5 0) 1 7 (nI rc')) 1 (fun k => if 55 ≤ k ∧ k < 295 then (wr (wr T3 0 5 0) 1 7 (nI rc')) 5 k else (wr (wr T3 0 5 0) 1 7 (nI rc')) 1 k) 1 k = T 1 k := fun k h1 h2 => by
        rw [va_up_self, if_neg (by omega), wr_k _ h2, wr_q _ _ (by omega)]
        exact congrFun (t3q 1 (by omega) (by omega)) k
      refine hR.used ?_ (Rs_cl _) (fun q hq => (cl_ne (by omega)).trans ?_) ?_ (fun q hq => ?_) (fun k hk => ?_) ?_
      · refine Rp_eq (X := nowC (LC11 8 34 M3)) (fun q hq => cl_ne (by omega)) ?_
        obtain ⟨⟨n, aw, h, no, li, la, a1, a2, a3, a4⟩, ⟨rp, b1, b2, b3, b4⟩, -⟩ := hR.1
        have eX : ∀ q, q < 7 → nowC (LC11 8 34 M3) q = nowC M q := fun q hq => q1 (1 + q) (by omega)
        refine ⟨⟨n, aw, h, no, li, la, a1, ?_, ?_, fun p hp => ?_⟩, ⟨rp, b1, ?_, ?_, fun k hk => ?_⟩, ?_⟩
        · rw [eX 0 (by omega)]; exact a2
        · rw [u1 0 (by omega) (by omega), u1 1 (by omega) (by omega), u1 2 (by omega) (by omega), u1 3 (by omega) (by omega), u1 4 (by omega) (by omega), u1 5 (by omega) (by omega), eX 0 (by omega)]; exact a3
        · have := a4 p hp
          have p7 : p < 7 := by have := a1.1; omega
          unfold Rvo at this ⊢
          rw [eX 1 (by omega), eX 2 (by omega), eX 3 (by omega), eX 4 (by omega), u1 _ (by omega) (by omega), u1 _ (by omega) (by omega), u1 _ (by omega) (by omega), u1 _ (by omega) (by omega), u1 _ (by omega) (by omega)]
          exact this
        · rw [eX 0 (by omega)]; exact b2
        · rw [u1 6 (by omega) (by omega)]; exact b3
        · rw [eX 5 (by omega), eX 6 (by omega), u1 _ (by omega) (by omega), u1 _ (by omega) (by omega)]; exact b4 k hk
        · refine Rl_cpy hRl ⟨l0, l5, l9⟩ (fun r hr => l8 r hr) (fun j hj => ?_) (fun v h1 h2 => ?_) (fun k hk hk2 => ?_)
          · have hj' : j < st' := by
              rw [show drC M3 7 5 = nI st' from m5, nI_clamp (by omega)] at hj
              exact hj
            exact l12 j hj'
          · have hv' : v < vc := by
              rw [show drC M3 7 9 = nI vc from v9, nI_clamp (by omega)] at h2
              exact h2
            exact l15 v hv'
          · rcases hk with hk | hk
            · rw [hk, va_up_self, if_neg (by omega), wr_s]; exact h7.symm
            · rw [va_up_self, if_pos ⟨hk, hk2⟩, wr_q _ _ (by omega), wr_q _ _ (by omega)]
      · rcases hq with hq | hq | hq
        · exact q1 q (by omega)
        · exact q2 q (by omega) (by omega)
        · exact q2 q (by omega) (by omega)
      · rw [cl_ne (by omega), LC11_out (by omega)]; exact m330
      · rw [va_up_ne _ _ (by omega), wr_q _ _ (by omega), wr_q _ _ (by omega)]
        exact t3q q (by omega) (by omega)
      · rw [va_up_ne _ _ (by omega), wr_q _ _ (by omega), wr_k _ (by omega)]
        exact t3k k (by omega) (by omega) (by omega) (by omega) (by omega)
      · rw [va_up_ne _ _ (by omega), wr_q _ _ (by omega), wr_s]
  · refine ⟨(-100) - nI f, M3, wr T3 0 5 0, ?_, ?_, ?_⟩
    · unfold fX11_rules
      rw [b2_s (hread _ k1), if_neg (nI_pos (by omega))]
    · rw [HM]
      unfold fX12_rules_L57
      rw [wr_k _ (show 11 ≠ 5 by omega), k3, if_neg (by decide), wr_k _ (show 8 ≠ 5 by omega), k2]
    · have t1 : wr T3 0 5 0 1 = T 1 := (wr_q _ _ (by omega)).trans (t3q 1 (by omega) (by omega))
      refine hR.used ?_ ?_ (fun q hq => e3 q (by omega)) m330 (fun q hq => (wr_q _ _ (by omega)).trans (t3q q (by omega) (by omega))) (fun k hk => (wr_k _ (by omega)).trans (t3k k (by omega) (by omega) (by omega) (by omega) (by omega))) (wr_s _ _ _ _)
      · rw [t1]
        exact Rp_eq (fun q hq => e3 (1 + q) (by omega)) hR.1
      · exact hR.2.1.keep (e3 63 (by omega)) ⟨congrFun (e3 1 (by omega)) 0, fun q h1 h2 _ => e3 (1 + q) (by omega), fun k _ => congrFun (e3 16 (by omega)) k⟩
