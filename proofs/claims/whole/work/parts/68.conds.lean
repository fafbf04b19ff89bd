/-! conditions: comparisons, NOT, AND, OR, what stands within -/
theorem gdX.pre {b : Nat → Nat} {z w vc i st sg K i' st' sg' : Nat} {M T M1 T1 M' T' : mM} (h : gdX b z w vc i st sg K M1 T1 M' T' i' st' sg') (hM : frM st M M1) (hT : frT sg T T1) : gdX b z w vc i st sg K M T M' T' i' st' sg' := by
  obtain ⟨a, b, c, d, e, f, g, h⟩ := h
  exact ⟨a, b, c, d, e, f, hM.trans g (Nat.le_refl _), hT.trans h (Nat.le_refl _)⟩
theorem bdP.pre {b : Nat → Nat} {z w i st sg : Nat} {M T M1 T1 M' T' : mM} (h : bdP b z w i st sg M1 T1 M' T') (hM : frM st M M1) (hT : frT sg T T1) : bdP b z w i st sg M T M' T' := by
  obtain ⟨i', st', a, b, c, g, h⟩ := h
  exact ⟨i', st', a, b, c, hM.trans g (Nat.le_refl _), hT.trans h (Nat.le_refl _)⟩
theorem cmpB {b : Nat → Nat} {z w vc o K : Nat} (hK : K ≤ 19) : PAR fX5_readComparison fX12_test b z w vc o K := by
  intro M T i st sg h
  obtain ⟨hta, ⟨m7, m5⟩, ⟨hA, t7, t10⟩, hiw, hsti, hsgi⟩ := h
  have hw := hta.1
  have hvc := hta.2.2.2.2.2.1
  have q44 : ∀ (v : Int32) (k : Nat), wr M 33 7 v 44 k = M 44 k := fun v k => congrFun (wr_q _ _ (by omega)) k
  have q46 : ∀ (v : Int32) (k : Nat), wr M 33 7 v 46 k = M 46 k := fun v k => congrFun (wr_q _ _ (by omega)) k
  have q345 : ∀ (v : Int32), wr M 33 7 v 34 5 = nI st := fun v => (congrFun (wr_q _ _ (by omega)) 5).trans m5
  have gi : ∀ {x : Option (Int32 × mM)}, gd (ix (nI i) 201) x = x := gd_t (ix_nI (by omega) (by omega))
  rcases val_at hta hiw with ⟨v, v1, v2, v3, v4⟩ | ⟨v2, v4⟩
  · obtain ⟨T1, a1, a2, a3, a4, a5⟩ := v4 T sg hA t7 (by omega)
    have gi1 : ∀ {x : Option (Int32 × mM)}, gd (ix (nI (i + 1)) 201) x = x := gd_t (ix_nI (by omega) (by omega))
    obtain ⟨x1, -, -⟩ := hta.2.2.2.1 (i + 1) (by omega)
    have x1' : M 44 (i + 1) = nI (wdT b z (i + 1)) := x1
    have hc42 : wdT b z (i + 1) < 42 := cdT_lt b z _
    have w20 : fX12_isWord T1 20 = some (bI (decide (wdT b z (i + 1) = 31))) := isWord_at a2 (by omega)
    have w21 : fX12_isWord T1 21 = some (bI (decide (wdT b z (i + 1) = 32))) := isWord_at a2 (by omega)
    have w22 : fX12_isWord T1 22 = some (bI (decide (wdT b z (i + 1) = 33))) := isWord_at a2 (by omega)
    have L34 : ∀ x : Int32, fX12_test_L34 T1 x = if x = -13 ∧ ¬ wdT b z (i + 1) = 33 then fX12_test_L63 T1 x 1 else fX12_test_L63 T1 x 0 := fun x => by
      unfold fX12_test_L34 fX12_test_L58 fX12_test_L62
      rw [if_pos a2.2.1, b1_s w22, bI_if]
      by_cases hx : x = -13
      · rw [if_pos hx]
        by_cases h33 : wdT b z (i + 1) = 33
        · rw [if_pos (decide_eq_true h33), if_neg (fun q => q.2 h33)]
        · rw [if_neg (by rw [decide_eq_false h33]; decide), if_pos ⟨hx, h33⟩]
      · rw [if_neg hx, if_neg (fun q => hx q.1)]
    have HT : fX12_test T = if wdT b z (i + 1) = 31 then fX12_test_L63 T1 (-11) 0 else if wdT b z (i + 1) = 32 then fX12_test_L63 T1 (-12) 0 else if wdT b z (i + 1) = 33 then fX12_test_L63 T1 (-13) 0 else fX12_test_L63 T1 (-13) 1 := by
      unfold fX12_test
      rw [b2_s a1, b1_s w20, b1_s w21, L34, L34, L34]
      simp only [bI_if, decide_eq_true_eq]
      rw [if_neg (show ¬ ((-11 : Int32) = -13 ∧ ¬ wdT b z (i + 1) = 33) from fun q => absurd q.1 (by decide)), if_neg (show ¬ ((-12 : Int32) = -13 ∧ ¬ wdT b z (i + 1) = 33) from fun q => absurd q.1 (by decide))]
      by_cases h33 : wdT b z (i + 1) = 33
      · rw [if_neg (show ¬ (True ∧ ¬ wdT b z (i + 1) = 33) from fun q => q.2 h33), if_pos h33]
      · rw [if_pos (show (True ∧ ¬ wdT b z (i + 1) = 33) from ⟨trivial, h33⟩), if_neg h33]
    by_cases hs : 31 ≤ wdT b z (i + 1) ∧ wdT b z (i + 1) ≤ 33
    · have hi1 : i + 1 < w := wd_40 hta (by omega) (by omega)
      obtain ⟨xs, hxs⟩ : ∃ xs : Int32, (wdT b z (i + 1) = 31 ∧ xs = -11) ∨ (wdT b z (i + 1) = 32 ∧ xs = -12) ∨ (wdT b z (i + 1) = 33 ∧ xs = -13) := by
        rcases (by omega : wdT b z (i + 1) = 31 ∨ wdT b z (i + 1) = 32 ∨ wdT b z (i + 1) = 33) with e | e | e
        · exact ⟨_, Or.inl ⟨e, rfl⟩⟩
        · exact ⟨_, Or.inr (Or.inl ⟨e, rfl⟩)⟩
        · exact ⟨_, Or.inr (Or.inr ⟨e, rfl⟩)⟩
      have HT2 : fX12_test T = fX12_test_L63 T1 xs 0 := by
        rw [HT]
        rcases hxs with ⟨e, rfl⟩ | ⟨e, rfl⟩ | ⟨e, rfl⟩
        · rw [if_pos e]
        · rw [if_neg (by omega), if_pos e]
        · rw [if_neg (by omega), if_neg (by omega), if_pos e]
      obtain ⟨T2, n1, n2, n3⟩ := next_i a2
      have h63 : fX12_test_L63 T1 xs 0 = b2 (fX12_value T2) fun r28 M30 => b2 (fX12_puts M30 xs) fun r31 M33 => some (0, M33) := by
        unfold fX12_test_L63
        rw [gd_t (show isB 0 = true from rfl), wr0_sm a2.2.1, if_pos a2.2.1, b2_s n1]
      have gi2 : ∀ {x : Option (Int32 × mM)}, gd (ix (nI (i + 1 + 1)) 201) x = x := gd_t (ix_nI (by omega) (by omega))
      have hin1 : ¬ fX11_isIn (nI (wdT b z (i + 1))) 31 33 = 0 := by
        rw [show fX11_isIn (nI (wdT b z (i + 1))) 31 33 = 1 from isIn_t (a := 31) (b := 33) hs.1 hs.2 (by omega)]
        decide
      have t27 : T2 0 7 = nI (sg + 1) := (n2.2 7 (by omega) (by omega)).trans a3
      rcases val_at hta (show i + 1 + 1 ≤ w by omega) with ⟨v', y1, y2, y3, y4⟩ | ⟨y2, y4⟩
      · obtain ⟨T3, c1, c2, c3, c4, c5⟩ := y4 T2 (sg + 1) n3 t27 (by omega)
        obtain ⟨p1, p2, p3, p4⟩ := put_st (sg := sg + 1 + 1) c2 xs
        obtain ⟨⟨d1, d2, d3⟩, d4, d5, d6, d7⟩ := asM_at (wr M 33 7 (nI (i + 1 + 1 + 1))) st (nI (wdT b z (i + 1))) (nI v) (nI v')
        have fM : frM st M (asM (wr M 33 7 (nI (i + 1 + 1 + 1))) st (nI (wdT b z (i + 1))) (nI v) (nI v')) := (frM_at st M _).trans d7 (Nat.le_refl st)
        have e15 : drC (asM (wr M 33 7 (nI (i + 1 + 1 + 1))) st (nI (wdT b z (i + 1))) (nI v) (nI v')) 15 = drC M 15 := d4.trans (wr_q _ _ (by omega))
        have eV : ∀ u, encV (drC (asM (wr M 33 7 (nI (i + 1 + 1 + 1))) st (nI (wdT b z (i + 1))) (nI v) (nI v'))) u = encV (drC M) u := fun u => by
          unfold encV
          rw [e15]
        have eE : encL (drC (asM (wr M 33 7 (nI (i + 1 + 1 + 1))) st (nI (wdT b z (i + 1))) (nI v) (nI v'))) st (st + 1 - st) = [encV (drC M) v, encV (drC M) v', xs] := by
          rw [show st + 1 - st = 0 + 1 by omega]
          show encS _ st ++ [] = _
          rw [List.append_nil]
          unfold encS
          rw [d1, d2, d3, nI_clamp (by omega), nI_clamp (by omega), eV, eV]
          rcases hxs with ⟨e, rfl⟩ | ⟨e, rfl⟩ | ⟨e, rfl⟩
          · rw [e, if_pos (show nI 31 = 31 from rfl)]
          · rw [e, if_neg (show ¬ nI 32 = 31 by decide), if_pos (show nI 32 = 32 from rfl)]
          · rw [e, if_neg (show ¬ nI 33 = 31 by decide), if_neg (show ¬ nI 33 = 32 by decide), if_pos (show nI 33 = 33 from rfl)]
        refine ⟨true, _, _, ?_, ?_, fun _ => ⟨i + 1 + 1 + 1, st + 1, sg + 1 + 1 + 1, by omega, ⟨d6.trans (wr_s _ _ _ _), d5⟩, ⟨p1, p2⟩, fun k hk => ?_, ?_, ?_, fM, ((a5.trans (n2.fr sg) (Nat.le_refl sg)).trans c5 (by omega)).trans p4 (by omega)⟩, fun q => absurd q (by decide)⟩
        · unfold fX5_readComparison
          simp only [m7, nI_1, wr_s, wr_wr, q44, q46, tn_nI (show i < 2 ^ 31 by omega), tn_nI (show i + 1 < 2 ^ 31 by omega), tn_nI (show i + 1 + 1 < 2 ^ 31 by omega), v2, x1', y2, gi, gi1, gi2]
          rw [if_pos (nI_pos' (by omega)), if_neg hin1, if_pos (nI_pos' (by omega)), b2_s (addStep_at (q345 _) (by omega) _ _ _)]
          rfl
        · rw [HT2, h63, b2_s c1, b2_s (puts_at c2.2.1 c3 (by omega) xs)]
        · rw [show st + 1 - st = 0 + 1 by omega]
          unfold okL
          rw [d1, d2, d3, if_pos ⟨ix_nI v1 (by omega), ix_nI y1 (by omega)⟩]
          have h3 : nI (wdT b z (i + 1)) = 31 ∨ nI (wdT b z (i + 1)) = 32 ∨ nI (wdT b z (i + 1)) = 33 := by
            rcases hxs with ⟨e, -⟩ | ⟨e, -⟩ | ⟨e, -⟩
            · exact Or.inl (by rw [e]; rfl)
            · exact Or.inr (Or.inl (by rw [e]; rfl))
            · exact Or.inr (Or.inr (by rw [e]; rfl))
          rw [if_pos h3, if_pos (by omega)]
          rfl
        · rw [eE]
          refine ⟨?_, ?_, p3, trivial⟩
          · rw [p4.2.2 _ (by omega), c5.2.2 _ (by omega), congrFun (n2.1 5 (by omega)) _]
            exact a4
          · rw [p4.2.2 _ (by omega)]
            exact c4
        · rw [eE]; rfl
      · have W := n3.wn
        refine ⟨false, wr M 33 7 (nI (i + 1 + 1)), wr T2 0 11 1, ?_, ?_, fun q => absurd q (by decide), fun _ => ⟨i + 1 + 1, st, by omega, ⟨wr_s _ _ _ _, q345 _⟩, ⟨W.2, W.1⟩, frM_at st M _, (a5.trans (n2.fr sg) (Nat.le_refl sg)).trans (frT_w sg T2 1) (Nat.le_refl sg)⟩⟩
        · unfold fX5_readComparison
          simp only [m7, nI_1, wr_s, wr_wr, q44, q46, tn_nI (show i < 2 ^ 31 by omega), tn_nI (show i + 1 < 2 ^ 31 by omega), tn_nI (show i + 1 + 1 < 2 ^ 31 by omega), v2, x1', y2, gi, gi1, gi2]
          rw [if_pos (nI_pos' (by omega)), if_neg hin1, if_neg (by decide)]
          rfl
        · rw [HT2, h63, b2_s (y4 T2 n3), b2_s (wn_puts W.1 xs)]
    · have W := a2.wn
      refine ⟨false, wr M 33 7 (nI (i + 1)), wr T1 0 11 1, ?_, ?_, fun q => absurd q (by decide), fun _ => ⟨i + 1, st, by omega, ⟨wr_s _ _ _ _, q345 _⟩, ⟨W.2, W.1⟩, frM_at st M _, a5.trans (frT_w sg T1 1) (Nat.le_refl sg)⟩⟩
      · have hin0 : fX11_isIn (nI (wdT b z (i + 1))) 31 33 = 0 := by
          rw [isIn_eq, if_neg]
          intro q
          have q1 := (nI_leI (a := 31) (by omega) (by omega)).mp q.1
          have q2 := (nI_leI (b := 33) (by omega) (by omega)).mp q.2
          exact hs ⟨q1, q2⟩
        unfold fX5_readComparison
        simp only [m7, nI_1, wr_s, wr_wr, q44, q46, tn_nI (show i < 2 ^ 31 by omega), tn_nI (show i + 1 < 2 ^ 31 by omega), v2, x1', gi, gi1]
        rw [if_pos (nI_pos' (by omega)), if_pos hin0]
        rfl
      · rw [HT, if_neg (by omega), if_neg (by omega), if_neg (by omega)]
        unfold fX12_test_L63
        rw [gd_t (show isB 1 = true from rfl), wr_s, if_neg (by decide), b2_s (wn_value W.1), b2_s (wn_puts W.1 _)]
  · have W := hA.wn
    refine ⟨false, M, wr T 0 11 1, ?_, ?_, fun q => absurd q (by decide), fun _ => ⟨i, st, by omega, ⟨m7, m5⟩, ⟨W.2, W.1⟩, frM.refl st M, frT_w sg T 1⟩⟩
    · unfold fX5_readComparison
      simp only [m7, tn_nI (show i < 2 ^ 31 by omega), v2, gi]
      rw [if_neg (by decide)]
      rfl
    · unfold fX12_test fX12_test_L34 fX12_test_L58
      rw [b2_s (v4 T hA), b1_s (wn_word W.1 20), b1_s (wn_word W.1 21), if_pos rfl, if_pos rfl, if_neg W.1.ne]
      exact wn_63 W.1 _
theorem wn_10 {T : mM} {b : Nat → Nat} {z : Nat} (h : wnT T b z) (v : Int32) : wnT (wr T 0 10 v) b z := by
  obtain ⟨⟨h1, h1'⟩, h2, f, e, h8, h9, hf⟩ := h
  exact ⟨⟨by rw [wr_q _ _ (by omega)]; exact h1, by rw [wr_k _ (by omega)]; exact h1'⟩, by rw [wr_k _ (by omega)]; exact h2, f, e, by rw [wr_k _ (by omega)]; exact h8, by rw [wr_k _ (by omega)]; exact h9, hf⟩
theorem at_10 {T : mM} {b : Nat → Nat} {z i : Nat} (h : atT T b z i) (v : Int32) : atT (wr T 0 10 v) b z i := by
  obtain ⟨⟨h1, h1'⟩, h2, h3, h4⟩ := h
  exact ⟨⟨by rw [wr_q _ _ (by omega)]; exact h1, by rw [wr_k _ (by omega)]; exact h1'⟩, by rw [wr_k _ (by omega)]; exact h2, by rw [wr_k _ (by omega)]; exact h3, by rw [wr_k _ (by omega)]; exact h4⟩
/-- frames that leave open to its turn -/
theorem frT_10 {sg : Nat} {T T1 T2 : mM} {v u : Int32} (h1 : frT sg T T1) (h2 : frT sg (wr T1 0 10 v) T2) (h : u = T 0 10) : frT sg T (wr T2 0 10 u) := by
  refine ⟨fun q a b => ?_, fun k a b c d => ?_, fun k hk => ?_⟩
  · rw [wr_q _ _ a, h2.1 q a b, wr_q _ _ a]; exact h1.1 q a b
  · by_cases e : k = 10
    · rw [e, wr_s, h]
    · rw [wr_k _ e, h2.2.1 k a b c d, wr_k _ e]; exact h1.2.1 k a b c d
  · rw [wr_q _ _ (by omega), h2.2.2 k hk, wr_q _ _ (by omega)]; exact h1.2.2 k hk
/-- what stands behind all NOTs -/
theorem coreB {b : Nat → Nat} {z w vc o : Nat} {rec : mM → Int32 → Option (Int32 × mM)} {recm : mM → Option (Int32 × mM)} (ho : o ≤ 3) (hR : o < 3 → PAR (fun M => rec M (nI (o + 1))) recm b z w vc (o + 1) (13 + 2 * o)) (hW : ∀ T, wnT T b z → recm T = some (0, T)) (M T : mM) (i st sg : Nat) (h : inP b z w vc i st sg o M T) :
    ∃ (r : Bool) (M' T' : mM), (∀ x2 : Int32, fX5_readOne_L36 rec M (nI o) x2 = fX5_readOne_L81 rec M' x2 (bI r)) ∧ (∀ x1 : Int32, (b1 (fX12_isWord T 18) fun r5 => (if r5 = 0 then (b2 (fX12_test T) fun r8 M10 => (fX12_one_L37 recm M10 x1)) else (b2 (fX12_within recm T) fun r11 M13 => (fX12_one_L37 recm M13 x1)))) = fX12_one_L37 recm T' x1) ∧ (r = true → gdP b z w vc i st sg (13 + 2 * o) M T M' T') ∧ (r = false → bdP b z w i st sg M T M' T') := by
  obtain ⟨hta, ⟨m7, m5⟩, ⟨hA, t7, t10⟩, hiw, hsti, hsgi⟩ := id h
  have hw := hta.1
  have w18 : fX12_isWord T 18 = some (bI (decide (wdT b z i = 34))) := isWord_at hA (by omega)
  have gp := goPast_at (c := 34) hta m7 hiw (by omega)
  have gp' : fX5_goPast M 34 = if wdT b z i = 34 then some (1, wr M 33 7 (nI (i + 1))) else some (0, M) := gp
  by_cases e : wdT b z i = 34
  · have hiw' : i < w := wd_40 hta hiw (by omega)
    have gi : ∀ {x : Option (Int32 × mM)}, gd (ix (nI i) 201) x = x := gd_t (ix_nI (by omega) (by omega))
    by_cases h3 : o = 3
    · subst h3
      have v2 : M 46 i = -3 := by
        obtain ⟨w1, w2, w3⟩ := hta.2.2.2.1 i hiw
        have e' : cdT b z (plT b z i) = 34 := e
        rw [e'] at w3
        rcases w3 with ⟨q1, q2, -⟩ | ⟨q1, -⟩ | ⟨-, -, q3⟩
        · omega
        · omega
        · exact q3
      have W := hA.wn
      have t10' : wr T 0 11 1 0 10 = T 0 10 := wr_k _ (by omega)
      have W1 := wn_10 W.1 (T 0 10 + 1)
      have W2 := wn_10 W1 (T 0 10)
      refine ⟨false, M, wr (wr (wr T 0 11 1) 0 10 (T 0 10 + 1)) 0 10 (T 0 10), fun x2 => ?_, fun x1 => ?_, fun q => absurd q (by decide), fun _ => ⟨i, st, by omega, ⟨m7, m5⟩, ⟨?_, W2⟩, frM.refl st M, frT_10 (frT_w sg T 1) (frT.refl sg _) rfl⟩⟩
      · have e0 : fX5_readComparison M = some (0, M) := by
          unfold fX5_readComparison
          simp only [m7, tn_nI (show i < 2 ^ 31 by omega), v2, gi]
          rw [if_neg (by decide)]
        unfold fX5_readOne_L36 fX5_readOne_L77
        rw [if_pos (show (3 : Int32) ≤ nI 3 by decide), b2_s e0]
        rfl
      · have e1 : fX12_within recm T = some (0, wr (wr (wr T 0 11 1) 0 10 (T 0 10 + 1)) 0 10 (T 0 10)) := by
          unfold fX12_within fX12_within_L16 fX12_within_L21 fX12_within_L35
          rw [if_pos hA.2.1, if_pos (show T 0 10 = 3 from t10), gd_t (show isB 1 = true from rfl), wr_s, if_neg (by decide), t10', b2_s (hW _ W1), wr_s, Int32.add_sub_cancel, b2_s (wn_wants W2 19)]
        rw [b1_s w18, bI_if, if_pos (decide_eq_true e), b2_s e1]
      · rw [wr_k _ (by omega), wr_k _ (by omega)]
        exact W.2
    · have ho3 : o < 3 := by omega
      have n3 : ¬ (3 : Int32) ≤ nI o := nI_ge (b := 3) ho3 (by omega)
      obtain ⟨T1, n1, n2, n3'⟩ := next_i hA
      have t110 : T1 0 10 = nI o := (n2.2 10 (by omega) (by omega)).trans t10
      have hin1 : inP b z w vc (i + 1) st sg (o + 1) (wr M 33 7 (nI (i + 1))) (wr T1 0 10 (nI (o + 1))) := ⟨taT_fr hta (frM_at st M _), ⟨wr_s _ _ _ _, (congrFun (wr_q _ _ (by omega)) 5).trans m5⟩, ⟨at_10 n3' _, by rw [wr_k _ (by omega)]; exact (n2.2 7 (by omega) (by omega)).trans t7, wr_s _ _ _ _⟩, by omega, by omega, by omega⟩
      obtain ⟨r, M2, T2, c1, c2, c3, c4⟩ := hR ho3 _ _ _ _ _ hin1
      have eW : fX12_within recm T = b2 (fX12_wants (wr T2 0 10 (nI o)) 19) fun r11 M13 => some (0, M13) := by
        have t210 : T2 0 10 = nI (o + 1) := by
          cases r
          · obtain ⟨i', st', -, -, -, -, f⟩ := c4 rfl
            rw [f.2.1 10 (by omega) (by omega) (by omega) (by omega), wr_s]
          · obtain ⟨i', st', sg', -, -, -, -, -, -, -, f⟩ := c3 rfl
            rw [f.2.1 10 (by omega) (by omega) (by omega) (by omega), wr_s]
        unfold fX12_within fX12_within_L21 fX12_within_L35
        rw [if_pos hA.2.1, if_neg (show ¬ T 0 10 = 3 from fun q => h3 ((nI_eq (b := 3) (by omega) (by omega)).mp (t10.symm.trans q))), gd_t (show isB 0 = true from rfl), wr0_sm hA.2.1, if_pos hA.2.1, b2_s n1, t110, nI_1, b2_s c2, t210, nI_pred]
      have eC : ∀ x2, fX5_readOne_L36 rec M (nI o) x2 = if bI r = 0 then fX5_readOne_L73 rec M2 x2 else b2 (fX5_goPast M2 35) fun r16 M18 => if r16 = 0 then fX5_readOne_L73 rec M18 x2 else fX5_readOne_L81 rec M18 x2 1 := fun x2 => by
        unfold fX5_readOne_L36
        rw [if_neg n3, gp', if_pos e, b2_s rfl, if_neg (by decide), nI_1, b2_s c1]
      cases r
      · obtain ⟨i', st', k1, ⟨k2, k3⟩, ⟨k4, k5⟩, k6, k7⟩ := c4 rfl
        have W2 := wn_10 k5 (nI o)
        refine ⟨false, M2, wr T2 0 10 (nI o), fun x2 => ?_, fun x1 => ?_, fun q => absurd q (by decide), fun _ => ⟨i', st', by omega, ⟨k2, k3⟩, ⟨by rw [wr_k _ (by omega)]; exact k4, W2⟩, (frM_at st M _).trans k6 (Nat.le_refl st), frT_10 (n2.fr sg) k7 t10.symm⟩⟩
        · rw [eC, if_pos (show bI false = 0 from rfl)]; rfl
        · rw [b1_s w18, bI_if, if_pos (decide_eq_true e), eW, b2_s (wn_wants W2 19)]
          rfl
      · obtain ⟨i', st', sg', k1, ⟨k2, k3⟩, ⟨k4, k5⟩, k6, k7, k8, k9, k10⟩ := c3 rfl
        have hta2 : taT M2 b z w vc := taT_fr hta ((frM_at st M _).trans k9 (Nat.le_refl st))
        have gq := goPast_at (c := 35) hta2 k2 k1.2.1 (by omega)
        have gq' : fX5_goPast M2 35 = if wdT b z i' = 35 then some (1, wr M2 33 7 (nI (i' + 1))) else some (0, M2) := gq
        have A2 := at_10 k4 (nI o)
        have f10 : frT sg T (wr T2 0 10 (nI o)) := frT_10 (n2.fr sg) k10 t10.symm
        have f9 : frM st M M2 := (frM_at st M _).trans k9 (Nat.le_refl st)
        by_cases e5 : wdT b z i' = 35
        · obtain ⟨T3, u1, u2, u3⟩ := (wants_at (s := 19) A2 (by omega)).1 e5
          have hi2 : i' < w := wd_40 hta2 k1.2.1 (by omega)
          have f7 : frM st' M2 (wr M2 33 7 (nI (i' + 1))) := frM_at st' M2 _
          refine ⟨true, wr M2 33 7 (nI (i' + 1)), T3, fun x2 => ?_, fun x1 => ?_, fun _ => ⟨i' + 1, st', sg', by omega, ⟨wr_s _ _ _ _, (congrFun (wr_q _ _ (by omega)) 5).trans k3⟩, ⟨u3, ?_⟩, fun k hk => ?_, ?_, ?_, f9.trans f7 (by omega), f10.trans (u2.fr sg) (Nat.le_refl sg)⟩, fun q => absurd q (by decide)⟩
          · rw [eC, if_neg (show ¬ bI true = 0 by decide), gq', if_pos e5, b2_s rfl, if_neg (by decide)]; rfl
          · rw [b1_s w18, bI_if, if_pos (decide_eq_true e), eW, b2_s u1]
            rfl
          · rw [u2.2 7 (by omega) (by omega), wr_k _ (by omega)]; exact k5
          · rw [okL_fr f7 (by omega)]; exact k6 k hk
          · rw [encL_fr f7 (by omega)]
            exact Seg_cong _ _ (fun k _ _ => by rw [u2.1 5 (by omega), wr_q _ _ (by omega)]) k7
          · rw [encL_fr f7 (by omega)]; exact k8
        · have hno := (wants_at (s := 19) A2 (by omega)).2 e5
          have W := A2.wn
          refine ⟨false, M2, wr (wr T2 0 10 (nI o)) 0 11 1, fun x2 => ?_, fun x1 => ?_, fun q => absurd q (by decide), fun _ => ⟨i', st', by omega, ⟨k2, k3⟩, ⟨W.2, W.1⟩, f9, f10.trans (frT_w sg _ 1) (Nat.le_refl sg)⟩⟩
          · rw [eC, if_neg (show ¬ bI true = 0 by decide), gq', if_neg e5, b2_s rfl, if_pos rfl]; rfl
          · rw [b1_s w18, bI_if, if_pos (decide_eq_true e), eW, b2_s hno]
            rfl
  · obtain ⟨r, M', T', c1, c2, c3, c4⟩ := cmpB (K := 13 + 2 * o) (by omega) M T i st sg h
    refine ⟨r, M', T', fun x2 => ?_, fun x1 => ?_, c3, c4⟩
    · have e7 : fX5_readOne_L77 rec M x2 = fX5_readOne_L81 rec M' x2 (bI r) := by
        unfold fX5_readOne_L77
        rw [b2_s c1]
      unfold fX5_readOne_L36
      by_cases h3 : (3 : Int32) ≤ nI o
      · rw [if_pos h3]; exact e7
      · rw [if_neg h3, gp', if_neg e, b2_s rfl, if_pos rfl]; exact e7
    · rw [b1_s w18, bI_if, if_neg (by rw [decide_eq_false e]; decide), b2_s c2]
theorem irem2 (n : Nat) (h : n < 2 ^ 31) : irem (nI n) 2 = nI (n % 2) := pk_rem (d := 2) h (by omega) (by omega)
theorem oneB {b : Nat → Nat} {z w vc o : Nat} {rec : mM → Int32 → Option (Int32 × mM)} {recm : mM → Option (Int32 × mM)} (ho : o ≤ 3) (hR : o < 3 → PAR (fun M => rec M (nI (o + 1))) recm b z w vc (o + 1) (13 + 2 * o)) (hW : ∀ T, wnT T b z → recm T = some (0, T)) : PAR (fun M => fX5_readOne rec M (nI o)) (fX12_one recm) b z w vc o (13 + 2 * o) := by
  have key : ∀ (d n fu fu' i0 st sg : Nat) (M T : mM), i0 + n + d = w → d < fu → d < fu' → taT M b z w vc → M 33 7 = nI (i0 + n) → M 34 5 = nI st → atT T b z (i0 + n) → T 0 7 = nI sg → T 0 10 = nI o → st ≤ i0 → sg ≤ i0 →
      ∃ (r : Bool) (M' T' : mM), fX5_readOne_L4 rec fu M (nI o) (nI (n % 2)) (nI n) = some (bI r, M') ∧ fX12_one_L2 recm fu' T (nI n) = some (0, T') ∧ (r = true → gdP b z w vc i0 st sg (13 + 2 * o) M T M' T') ∧ (r = false → bdP b z w i0 st sg M T M' T') := by
    intro d
    induction d using Nat.strongRecOn with
    | ind d ih =>
      intro n fu fu' i0 st sg M T hd hf hf' hta m7 m5 hA t7 t10 hst hsg
      obtain ⟨f, rfl⟩ : ∃ j, fu = j + 1 := ⟨fu - 1, by omega⟩
      obtain ⟨f', rfl⟩ : ∃ j, fu' = j + 1 := ⟨fu' - 1, by omega⟩
      have hw := hta.1
      have gp := goPast_at (c := 23) hta m7 (show i0 + n ≤ w by omega) (by omega)
      have gp' : fX5_goPast M 23 = if wdT b z (i0 + n) = 23 then some (1, wr M 33 7 (nI (i0 + n + 1))) else some (0, M) := gp
      have tk := takes_at (s := 14) hA (by omega)
      show ∃ (r : Bool) (M' T' : mM), fX5_readOne_L4_b rec (fX5_readOne_L4 rec f) M (nI o) (nI (n % 2)) (nI n) = _ ∧ fX12_one_L2_b recm (fX12_one_L2 recm f') T (nI n) = _ ∧ _
      unfold fX5_readOne_L4_b fX12_one_L2_b
      rw [nI_1]
      by_cases e : wdT b z (i0 + n) = 23
      · have hlt : i0 + n < w := wd_40 hta (by omega) (by omega)
        obtain ⟨T1, t1, t2, t3⟩ := tk.1 e
        obtain ⟨r, M', T', c1, c2, c3, c4⟩ := ih (d - 1) (by omega) (n + 1) f f' i0 st sg (wr M 33 7 (nI (i0 + n + 1))) T1 (by omega) (by omega) (by omega) (taT_fr hta (frM_at st M _)) (wr_s _ _ _ _) ((congrFun (wr_q _ _ (by omega)) 5).trans m5) t3 ((t2.2 7 (by omega) (by omega)).trans t7) ((t2.2 10 (by omega) (by omega)).trans t10) hst hsg
        refine ⟨r, M', T', ?_, ?_, fun q => ?_, fun q => (c4 q).pre (frM_at st M _) (t2.fr sg)⟩
        · rw [if_neg (show ¬ (200 : Int32) ≤ nI n from nI_ge (b := 200) (by omega) (by omega)), gp', if_pos e, b2_s rfl, if_neg (by decide), ← c1]
          rcases Nat.mod_two_eq_zero_or_one n with p | p
          · rw [p, if_pos (show nI 0 = 0 from rfl), show (n + 1) % 2 = 1 by omega]; rfl
          · rw [p, if_neg (show ¬ nI 1 = 0 by decide), show (n + 1) % 2 = 0 by omega]; rfl
        · rw [b2_s t1, if_neg (by decide)]; exact c2
        · obtain ⟨i', st', sg', g⟩ := c3 q
          exact ⟨i', st', sg', g.pre (frM_at st M _) (t2.fr sg)⟩
      · obtain ⟨r, M', T', c1, c2, c3, c4⟩ := coreB ho hR hW M T (i0 + n) st sg ⟨hta, ⟨m7, m5⟩, ⟨hA, t7, t10⟩, by omega, by omega, by omega⟩
        have HC : (if 200 ≤ nI n then fX5_readOne_L36 rec M (nI o) (nI (n % 2)) else b2 (fX5_goPast M 23) fun r1 M3 => if r1 = 0 then fX5_readOne_L36 rec M3 (nI o) (nI (n % 2)) else if nI (n % 2) = 0 then fX5_readOne_L4 rec f M3 (nI o) 1 (nI (n + 1)) else fX5_readOne_L4 rec f M3 (nI o) 0 (nI (n + 1))) = fX5_readOne_L81 rec M' (nI (n % 2)) (bI r) := by
          rw [gp', if_neg e, b2_s rfl, if_pos rfl, ite_self]
          exact c1 _
        rw [HC, b2_s (tk.2 e), if_pos rfl, c2]
        unfold fX5_readOne_L81 fX12_one_L37
        rw [gd_t (isB_bI r), irem2 n (by omega)]
        rcases Nat.mod_two_eq_zero_or_one n with p | p
        · rw [p, if_pos (show nI 0 = 0 from rfl), if_neg (show ¬ nI 0 = 1 by decide)]
          refine ⟨r, M', T', rfl, rfl, fun q => ?_, fun q => ?_⟩
          · obtain ⟨i', st', sg', k1, k2⟩ := c3 q
            exact ⟨i', st', sg', by omega, k2⟩
          · obtain ⟨i', st', k1, k2⟩ := c4 q
            exact ⟨i', st', by omega, k2⟩
        · rw [p, if_neg (show ¬ nI 1 = 0 by decide), if_pos (show nI 1 = 1 from rfl)]
          have hn : 0 < n := by omega
          cases r
          · obtain ⟨i', st', k1, ⟨k2, k3⟩, ⟨k4, k5⟩, k6, k7⟩ := c4 rfl
            obtain ⟨M4, st4, j1, j2, j3, j4, j5, j6⟩ := addStep_any k3 k1.2.2.2 23 0 0
            refine ⟨false, M4, T', ?_, ?_, fun q => absurd q (by decide), fun _ => ⟨i', st4, by omega, ⟨j5.trans k2, j4⟩, ⟨k4, k5⟩, k6.trans j6 (by omega), k7⟩⟩
            · rw [b2_s j1]; rfl
            · rw [b2_s (wn_puts k5 _)]
          · obtain ⟨i', st', sg', k1, ⟨k2, k3⟩, ⟨k4, k5⟩, k6, k7, k8, k9, k10⟩ := c3 rfl
            obtain ⟨j1, j2, j3⟩ := join_at (i0 := i0) (i := i0 + n) (K := 13 + 2 * o) hta (by omega) ⟨hst, hsg⟩ k2 k3 k4 k5 0 (fun k hk => k6 k hk) k7 k8 k9 k10 23 (-14) (Or.inl ⟨rfl, rfl, rfl⟩)
            refine ⟨true, _, _, ?_, ?_, fun _ => ⟨i', st' + 1, sg' + 1, j3⟩, fun q => absurd q (by decide)⟩
            · rw [b2_s j1]; rfl
            · rw [b2_s j2]
  intro M T i st sg h
  obtain ⟨hta, ⟨m7, m5⟩, ⟨hA, t7, t10⟩, hiw, hsti, hsgi⟩ := h
  have hw := hta.1
  exact key (w - i) 0 5000 5000 i st sg M T (by omega) (by omega) (by omega) hta m7 m5 hA t7 t10 hsti hsgi
theorem allB {b : Nat → Nat} {z w vc o K1 K2 : Nat} {rec : mM → Int32 → Option (Int32 × mM)} {recm : mM → Option (Int32 × mM)} (hS : PAR (fun M => fX5_readOne rec M (nI o)) (fX12_one recm) b z w vc o K1) (hK : K2 + 1 ≤ K1) : PAR (fun M => fX5_readAll rec M (nI o)) (fX12_all recm) b z w vc o K2 := by
  have key : ∀ (d c fu fu' i st sg i1 st1 sg1 : Nat) (M0 T0 M1 T1 : mM), i1 + d = w → d < fu → d < fu' → c < i1 → taT M0 b z w vc → T0 0 10 = nI o → st ≤ i → sg ≤ i → gdX b z w vc i st sg K2 M0 T0 M1 T1 i1 st1 sg1 →
      ∃ (r : Bool) (M' T' : mM), fX5_readAll_L8 rec fu M1 (nI o) 1 (nI c) = some (bI r, M') ∧ fX12_all_L4 recm fu' T1 = some (0, T') ∧ (r = true → gdP b z w vc i st sg K2 M0 T0 M' T') ∧ (r = false → bdP b z w i st sg M0 T0 M' T') := by
    intro d
    induction d using Nat.strongRecOn with
    | ind d ih =>
      intro c fu fu' i st sg i1 st1 sg1 M0 T0 M1 T1 hd hf hf' hc hta t10 hst hsg hX
      obtain ⟨f, rfl⟩ : ∃ j, fu = j + 1 := ⟨fu - 1, by omega⟩
      obtain ⟨f', rfl⟩ : ∃ j, fu' = j + 1 := ⟨fu' - 1, by omega⟩
      have hw := hta.1
      obtain ⟨k1, ⟨k2, k3⟩, ⟨k4, k5⟩, k6, k7, k8, k9, k10⟩ := id hX
      have hta1 : taT M1 b z w vc := taT_fr hta k9
      have gp := goPast_at (c := 21) hta1 k2 k1.2.1 (by omega)
      have gp' : fX5_goPast M1 21 = if wdT b z i1 = 21 then some (1, wr M1 33 7 (nI (i1 + 1))) else some (0, M1) := gp
      have tk := takes_at (s := 12) k4 (by omega)
      show ∃ (r : Bool) (M' T' : mM), fX5_readAll_L8_b rec (fX5_readAll_L8 rec f) M1 (nI o) 1 (nI c) = _ ∧ fX12_all_L4_b recm (fX12_all_L4 recm f') T1 = _ ∧ _
      unfold fX5_readAll_L8_b fX12_all_L4_b
      rw [if_neg (show ¬ (200 : Int32) ≤ nI c from nI_ge (b := 200) (by omega) (by omega)), if_neg (show ¬ (1 : Int32) = 0 by decide), gp']
      by_cases e : wdT b z i1 = 21
      · have hlt : i1 < w := wd_40 hta1 k1.2.1 (by omega)
        obtain ⟨T2, t1, t2, t3⟩ := tk.1 e
        obtain ⟨f, rfl⟩ : ∃ j, f = j + 1 := ⟨f - 1, by omega⟩
        obtain ⟨f', rfl⟩ : ∃ j, f' = j + 1 := ⟨f' - 1, by omega⟩
        have fM2 : frM st1 M1 (wr M1 33 7 (nI (i1 + 1))) := frM_at st1 M1 _
        obtain ⟨r2, M3, T3, c1, c2, c3, c4⟩ := hS (wr M1 33 7 (nI (i1 + 1))) T2 (i1 + 1) st1 sg1 ⟨taT_fr hta1 fM2, ⟨wr_s _ _ _ _, (congrFun (wr_q _ _ (by omega)) 5).trans k3⟩, ⟨t3, (t2.2 7 (by omega) (by omega)).trans k5, (t2.2 10 (by omega) (by omega)).trans ((k10.2.1 10 (by omega) (by omega) (by omega) (by omega)).trans t10)⟩, by omega, by omega, by omega⟩
        rw [if_pos e, b2_s rfl, if_neg (show ¬ (1 : Int32) = 0 by decide), b2_s (show fX5_readOne rec (wr M1 33 7 (nI (i1 + 1))) (nI o) = _ from c1), b2_s t1, if_neg (show ¬ (1 : Int32) = 0 by decide), b2_s c2, nI_1]
        cases r2
        · obtain ⟨i', st', j1, ⟨j2, j3⟩, ⟨j4, j5⟩, j6, j7⟩ := c4 rfl
          obtain ⟨M4, st4, l1, l2, l3, l4, l5, l6⟩ := addStep_any j3 j1.2.2.2 21 0 0
          refine ⟨false, M4, T3, ?_, ?_, fun q => absurd q (by decide), fun _ => ⟨i', st4, by omega, ⟨l5.trans j2, l4⟩, ⟨j4, j5⟩, ((k9.trans fM2 (by omega)).trans j6 (by omega)).trans l6 (by omega), (k10.trans (t2.fr sg1) (by omega)).trans j7 (by omega)⟩⟩
          · rw [b2_s l1]
            show fX5_readAll_L8_b rec (fX5_readAll_L8 rec f) M4 (nI o) (bI false) (nI (c + 1)) = _
            unfold fX5_readAll_L8_b
            rw [gd_t (isB_bI false), if_pos (show bI false = 0 from rfl), ite_self]
          · rw [b2_s (wn_puts j5 _)]
            show fX12_all_L4_b recm (fX12_all_L4 recm f') T3 = _
            unfold fX12_all_L4_b
            rw [b2_s (wn_takes j5 12), if_pos rfl]
        · obtain ⟨i', st', sg', j1, ⟨j2, j3⟩, ⟨j4, j5⟩, j6, j7, j8, j9, j10⟩ := c3 rfl
          have f3 : frM st1 M1 M3 := fM2.trans j9 (Nat.le_refl st1)
          have g3 : frT sg1 T1 T3 := (t2.fr sg1).trans j10 (Nat.le_refl sg1)
          have eL : st' - st = (st1 - st) + (st' - st1) := by omega
          have eA : st + (st1 - st) = st1 := by omega
          have eE : encL (drC M3) st (st' - st) = encL (drC M1) st (st1 - st) ++ encL (drC M3) st1 (st' - st1) := by
            rw [eL, encL_app, eA, encL_fr f3 (by omega)]
          obtain ⟨l1, l2, l3⟩ := join_at (i0 := i) (i := i + 1) (st := st) (sg := sg) (K := K2) hta (by omega) ⟨hst, hsg⟩ j2 j3 j4 j5 1 (fun k hk => by
              rw [eL, okL_app (st1 - st) st k (k + 1) (by rw [okL_fr f3 (by omega)]; exact k6 k hk), eA]
              exact j6 (k + 1) (by omega)) (by
              rw [eE]
              refine Seg_join _ _ _ (Seg_cong _ _ (fun k h1 h2 => g3.2.2 k (by omega)) k7) ?_
              rw [k8]
              exact j7) (by rw [eE, List.length_append]; omega) (k9.trans f3 (by omega)) (k10.trans g3 (by omega)) 21 (-15) (Or.inr (Or.inl ⟨rfl, rfl, rfl⟩))
          obtain ⟨r, M', T', u1, u2, u3⟩ := ih (w - i') (by omega) (c + 1) (f + 1) (f' + 1) i st sg i' (st' + 1) (sg' + 1) M0 T0 _ _ (by omega) (by omega) (by omega) (by omega) hta t10 hst hsg l3
          refine ⟨r, M', T', ?_, ?_, u3⟩
          · rw [b2_s l1]; exact u1
          · rw [b2_s l2]; exact u2
      · rw [if_neg e, b2_s rfl, if_pos rfl, b2_s (tk.2 e), if_pos rfl]
        exact ⟨true, M1, T1, rfl, rfl, fun _ => ⟨i1, st1, sg1, hX⟩, fun q => absurd q (by decide)⟩
  intro M T i st sg h
  obtain ⟨r, M1, T1, c1, c2, c3, c4⟩ := hS M T i st sg h
  obtain ⟨hta, ⟨m7, m5⟩, ⟨hA, t7, t10⟩, hiw, hsti, hsgi⟩ := h
  have hw := hta.1
  have c1' : fX5_readOne rec M (nI o) = some (bI r, M1) := c1
  show ∃ (r : Bool) (M' T' : mM), fX5_readAll rec M (nI o) = _ ∧ _
  unfold fX5_readAll fX12_all
  rw [b2_s c1', b2_s c2]
  cases r
  · obtain ⟨i', st', j1, ⟨j2, j3⟩, ⟨j4, j5⟩, j6⟩ := c4 rfl
    refine ⟨false, M1, T1, ?_, ?_, fun q => absurd q (by decide), fun _ => c4 rfl⟩
    · show fX5_readAll_L8_b rec (fX5_readAll_L8 rec 4999) M1 (nI o) (bI false) 0 = _
      unfold fX5_readAll_L8_b
      rw [gd_t (isB_bI false), if_pos (show bI false = 0 from rfl), ite_self]
    · show fX12_all_L4_b recm (fX12_all_L4 recm 4999) T1 = _
      unfold fX12_all_L4_b
      rw [b2_s (wn_takes j5 12), if_pos rfl]
  · obtain ⟨i1, st1, sg1, j1, j2, j3, j4, j5, j6, j7, j8⟩ := c3 rfl
    exact key (w - i1) 0 5000 5000 i st sg i1 st1 sg1 M T M1 T1 (by omega) (by omega) (by omega) (by omega) hta t10 hsti hsgi ⟨j1, j2, j3, fun k hk => j4 k (by omega), j5, j6, j7, j8⟩
theorem anyB {b : Nat → Nat} {z w vc o K1 K2 : Nat} {rec : mM → Int32 → Option (Int32 × mM)} {recm : mM → Option (Int32 × mM)} (hS : PAR (fun M => fX5_readAll rec M (nI o)) (fX12_all recm) b z w vc o K1) (hK : K2 + 1 ≤ K1) : PAR (fun M => fX5_readCond_b rec M (nI o)) (fX12_any_b recm) b z w vc o K2 := by
  have key : ∀ (d c fu fu' i st sg i1 st1 sg1 : Nat) (M0 T0 M1 T1 : mM), i1 + d = w → d < fu → d < fu' → c < i1 → taT M0 b z w vc → T0 0 10 = nI o → st ≤ i → sg ≤ i → gdX b z w vc i st sg K2 M0 T0 M1 T1 i1 st1 sg1 →
      ∃ (r : Bool) (M' T' : mM), fX5_readCond_L8 rec fu M1 (nI o) 1 (nI c) = some (bI r, M') ∧ fX12_any_L4 recm fu' T1 = some (0, T') ∧ (r = true → gdP b z w vc i st sg K2 M0 T0 M' T') ∧ (r = false → bdP b z w i st sg M0 T0 M' T') := by
    intro d
    induction d using Nat.strongRecOn with
    | ind d ih =>
      intro c fu fu' i st sg i1 st1 sg1 M0 T0 M1 T1 hd hf hf' hc hta t10 hst hsg hX
      obtain ⟨f, rfl⟩ : ∃ j, fu = j + 1 := ⟨fu - 1, by omega⟩
      obtain ⟨f', rfl⟩ : ∃ j, fu' = j + 1 := ⟨fu' - 1, by omega⟩
      have hw := hta.1
      obtain ⟨k1, ⟨k2, k3⟩, ⟨k4, k5⟩, k6, k7, k8, k9, k10⟩ := id hX
      have hta1 : taT M1 b z w vc := taT_fr hta k9
      have gp := goPast_at (c := 22) hta1 k2 k1.2.1 (by omega)
      have gp' : fX5_goPast M1 22 = if wdT b z i1 = 22 then some (1, wr M1 33 7 (nI (i1 + 1))) else some (0, M1) := gp
      have tk := takes_at (s := 13) k4 (by omega)
      show ∃ (r : Bool) (M' T' : mM), fX5_readCond_L8_b rec (fX5_readCond_L8 rec f) M1 (nI o) 1 (nI c) = _ ∧ fX12_any_L4_b recm (fX12_any_L4 recm f') T1 = _ ∧ _
      unfold fX5_readCond_L8_b fX12_any_L4_b
      rw [if_neg (show ¬ (200 : Int32) ≤ nI c from nI_ge (b := 200) (by omega) (by omega)), if_neg (show ¬ (1 : Int32) = 0 by decide), gp']
      by_cases e : wdT b z i1 = 22
      · have hlt : i1 < w := wd_40 hta1 k1.2.1 (by omega)
        obtain ⟨T2, t1, t2, t3⟩ := tk.1 e
        obtain ⟨f, rfl⟩ : ∃ j, f = j + 1 := ⟨f - 1, by omega⟩
        obtain ⟨f', rfl⟩ : ∃ j, f' = j + 1 := ⟨f' - 1, by omega⟩
        have fM2 : frM st1 M1 (wr M1 33 7 (nI (i1 + 1))) := frM_at st1 M1 _
        obtain ⟨r2, M3, T3, c1, c2, c3, c4⟩ := hS (wr M1 33 7 (nI (i1 + 1))) T2 (i1 + 1) st1 sg1 ⟨taT_fr hta1 fM2, ⟨wr_s _ _ _ _, (congrFun (wr_q _ _ (by omega)) 5).trans k3⟩, ⟨t3, (t2.2 7 (by omega) (by omega)).trans k5, (t2.2 10 (by omega) (by omega)).trans ((k10.2.1 10 (by omega) (by omega) (by omega) (by omega)).trans t10)⟩, by omega, by omega, by omega⟩
        rw [if_pos e, b2_s rfl, if_neg (show ¬ (1 : Int32) = 0 by decide), b2_s (show fX5_readAll rec (wr M1 33 7 (nI (i1 + 1))) (nI o) = _ from c1), b2_s t1, if_neg (show ¬ (1 : Int32) = 0 by decide), b2_s c2, nI_1]
        cases r2
        · obtain ⟨i', st', j1, ⟨j2, j3⟩, ⟨j4, j5⟩, j6, j7⟩ := c4 rfl
          obtain ⟨M4, st4, l1, l2, l3, l4, l5, l6⟩ := addStep_any j3 j1.2.2.2 22 0 0
          refine ⟨false, M4, T3, ?_, ?_, fun q => absurd q (by decide), fun _ => ⟨i', st4, by omega, ⟨l5.trans j2, l4⟩, ⟨j4, j5⟩, ((k9.trans fM2 (by omega)).trans j6 (by omega)).trans l6 (by omega), (k10.trans (t2.fr sg1) (by omega)).trans j7 (by omega)⟩⟩
          · rw [b2_s l1]
            show fX5_readCond_L8_b rec (fX5_readCond_L8 rec f) M4 (nI o) (bI false) (nI (c + 1)) = _
            unfold fX5_readCond_L8_b
            rw [gd_t (isB_bI false), if_pos (show bI false = 0 from rfl), ite_self]
          · rw [b2_s (wn_puts j5 _)]
            show fX12_any_L4_b recm (fX12_any_L4 recm f') T3 = _
            unfold fX12_any_L4_b
            rw [b2_s (wn_takes j5 13), if_pos rfl]
        · obtain ⟨i', st', sg', j1, ⟨j2, j3⟩, ⟨j4, j5⟩, j6, j7, j8, j9, j10⟩ := c3 rfl
          have f3 : frM st1 M1 M3 := fM2.trans j9 (Nat.le_refl st1)
          have g3 : frT sg1 T1 T3 := (t2.fr sg1).trans j10 (Nat.le_refl sg1)
          have eL : st' - st = (st1 - st) + (st' - st1) := by omega
          have eA : st + (st1 - st) = st1 := by omega
          have eE : encL (drC M3) st (st' - st) = encL (drC M1) st (st1 - st) ++ encL (drC M3) st1 (st' - st1) := by
            rw [eL, encL_app, eA, encL_fr f3 (by omega)]
          obtain ⟨l1, l2, l3⟩ := join_at (i0 := i) (i := i + 1) (st := st) (sg := sg) (K := K2) hta (by omega) ⟨hst, hsg⟩ j2 j3 j4 j5 1 (fun k hk => by
              rw [eL, okL_app (st1 - st) st k (k + 1) (by rw [okL_fr f3 (by omega)]; exact k6 k hk), eA]
              exact j6 (k + 1) (by omega)) (by
              rw [eE]
              refine Seg_join _ _ _ (Seg_cong _ _ (fun k h1 h2 => g3.2.2 k (by omega)) k7) ?_
              rw [k8]
              exact j7) (by rw [eE, List.length_append]; omega) (k9.trans f3 (by omega)) (k10.trans g3 (by omega)) 22 (-16) (Or.inr (Or.inr ⟨rfl, rfl, rfl⟩))
          obtain ⟨r, M', T', u1, u2, u3⟩ := ih (w - i') (by omega) (c + 1) (f + 1) (f' + 1) i st sg i' (st' + 1) (sg' + 1) M0 T0 _ _ (by omega) (by omega) (by omega) (by omega) hta t10 hst hsg l3
          refine ⟨r, M', T', ?_, ?_, u3⟩
          · rw [b2_s l1]; exact u1
          · rw [b2_s l2]; exact u2
      · rw [if_neg e, b2_s rfl, if_pos rfl, b2_s (tk.2 e), if_pos rfl]
        exact ⟨true, M1, T1, rfl, rfl, fun _ => ⟨i1, st1, sg1, hX⟩, fun q => absurd q (by decide)⟩
  intro M T i st sg h
  obtain ⟨r, M1, T1, c1, c2, c3, c4⟩ := hS M T i st sg h
  obtain ⟨hta, ⟨m7, m5⟩, ⟨hA, t7, t10⟩, hiw, hsti, hsgi⟩ := h
  have hw := hta.1
  have c1' : fX5_readAll rec M (nI o) = some (bI r, M1) := c1
  show ∃ (r : Bool) (M' T' : mM), fX5_readCond_b rec M (nI o) = _ ∧ _
  unfold fX5_readCond_b fX12_any_b
  rw [b2_s c1', b2_s c2]
  cases r
  · obtain ⟨i', st', j1, ⟨j2, j3⟩, ⟨j4, j5⟩, j6⟩ := c4 rfl
    refine ⟨false, M1, T1, ?_, ?_, fun q => absurd q (by decide), fun _ => c4 rfl⟩
    · show fX5_readCond_L8_b rec (fX5_readCond_L8 rec 4999) M1 (nI o) (bI false) 0 = _
      unfold fX5_readCond_L8_b
      rw [gd_t (isB_bI false), if_pos (show bI false = 0 from rfl), ite_self]
    · show fX12_any_L4_b recm (fX12_any_L4 recm 4999) T1 = _
      unfold fX12_any_L4_b
      rw [b2_s (wn_takes j5 13), if_pos rfl]
  · obtain ⟨i1, st1, sg1, j1, j2, j3, j4, j5, j6, j7, j8⟩ := c3 rfl
    exact key (w - i1) 0 5000 5000 i st sg i1 st1 sg1 M T M1 T1 (by omega) (by omega) (by omega) (by omega) hta t10 hsti hsgi ⟨j1, j2, j3, fun k hk => j4 k (by omega), j5, j6, j7, j8⟩
/-- whole conditions: both read them alike -/
theorem condB {b : Nat → Nat} {z w vc : Nat} : ∀ (e o d d' : Nat), o + e = 3 → e < d → e + 1 < d' → PAR (fun M => fX5_readCond d M (nI o)) (fX12_any d') b z w vc o (11 + 2 * o) := by
  intro e
  induction e with
  | zero =>
    intro o d d' he hd hd'
    obtain ⟨d, rfl⟩ : ∃ j, d = j + 1 := ⟨d - 1, by omega⟩
    obtain ⟨d', rfl⟩ : ∃ j, d' = j + 1 := ⟨d' - 1, by omega⟩
    exact anyB (K1 := 12 + 2 * o) (allB (K1 := 13 + 2 * o) (oneB (rec := fX5_readCond d) (recm := fX12_any d') (by omega) (fun q => absurd q (by omega)) (fun T h => wn_any h (by omega))) (by omega)) (by omega)
  | succ e ih =>
    intro o d d' he hd hd'
    obtain ⟨d, rfl⟩ : ∃ j, d = j + 1 := ⟨d - 1, by omega⟩
    obtain ⟨d', rfl⟩ : ∃ j, d' = j + 1 := ⟨d' - 1, by omega⟩
    exact anyB (K1 := 12 + 2 * o) (allB (K1 := 13 + 2 * o) (oneB (rec := fX5_readCond d) (recm := fX12_any d') (by omega) (fun _ => by
      have := ih (o + 1) d d' (by omega) (by omega) (by omega)
      rw [show 11 + 2 * (o + 1) = 13 + 2 * o by omega] at this
      exact this) (fun T h => wn_any h (by omega))) (by omega)) (by omega)
