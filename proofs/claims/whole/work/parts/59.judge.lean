/-! judge, goAll, wouldBe -/
theorem laidAt {X T0 T : mM} {n aw h aw' h' li li' : Nat} (h0 : Vx X (T0 1) n aw h li) (hT : Vx X (T 1) n aw' h' li') (ho : offE n (T0 1) (T 1)) (ht0 : T 0 = upd (upd (T0 0) 12 (nI h)) 21 (nI aw)) : ∃ T', fX12_laysAllBack T = some (0, T') ∧ T' 1 = T0 1 ∧ T' 0 = upd (upd (T0 0) 12 (nI h)) 21 (nI aw) ∧ ∀ q, q ≠ 1 → T' q = T q := by
  obtain ⟨T', t1, t2, t3⟩ := laidAll h0 hT ho (by rw [ht0, upd_ne (by omega), upd_eq]) (by rw [ht0, upd_eq])
  exact ⟨T', t1, t2, (t3 0 (by omega)).trans ht0, t3⟩
theorem judgeB {M0 T0 : mM} {n li h0 aw0 r goal : Nat} (hC : Cc M0 (T0 1) n li) (hV0 : Vx (nowC M0) (T0 1) n aw0 h0 li) (hr : r ≤ 4) (hM : M0 0 12 = nI r) (hT : T0 0 20 = nI r) (hrow : ∀ k, k < 3 * r → M0 67 k = T0 9 k) (hg : goal < 24) : ∀ (c k fuel fuel' h aw : Nat) (M T : mM), k + c = r → c < fuel → c < fuel' → eqK M0 M → Rs M → Vx (nowC M0) (T 1) n aw h li → offE n (T0 1) (T 1) → T 0 = upd (upd (T0 0) 12 (nI h0)) 21 (nI aw0) → (∀ q, q ≠ 0 → q ≠ 1 → q ≠ 3 → T q = T0 q) →
    ∃ (res : Int32) (M' T' : mM), fX11_judge_L28 fuel M (nI goal) (nI h) (nI aw) (nI k) = some (res, M') ∧ fX12_judge_L15 fuel' T (nI goal) (nI k) = some (res, T') ∧ eqK M0 M' ∧ Rs M' ∧ T' 1 = T0 1 ∧ T' 0 = upd (upd (T0 0) 12 (nI h0)) 21 (nI aw0) ∧ ∀ q, q ≠ 0 → q ≠ 1 → q ≠ 3 → T' q = T0 q := by
  -- the model's end
  have L38 : ∀ (k h' aw' : Nat) (T : mM), k ≤ r → Vx (nowC M0) (T 1) n aw' h' li → offE n (T0 1) (T 1) → T 0 = upd (upd (T0 0) 12 (nI h0)) 21 (nI aw0) → (∀ q, q ≠ 0 → q ≠ 1 → q ≠ 3 → T q = T0 q) →
      ∃ T', fX12_judge_L38 T (nI k) = some (if r ≤ k then 0 else nI (k + 1), T') ∧ T' 1 = T0 1 ∧ T' 0 = upd (upd (T0 0) 12 (nI h0)) 21 (nI aw0) ∧ ∀ q, q ≠ 0 → q ≠ 1 → q ≠ 3 → T' q = T0 q := by
    intro k h' aw' T hk hV ho ht0 hq
    obtain ⟨T', t1, t2, t3, t4⟩ := laidAt hV0 hV ho ht0
    refine ⟨T', ?_, t2, t3, fun q a b d => (t4 q b).trans (hq q a b d)⟩
    unfold fX12_judge_L38
    rw [b2_s t1, t3, upd_ne (by omega), upd_ne (by omega), hT, nI_1]
    by_cases z : r ≤ k
    · rw [if_pos z, if_pos (nI_le z (by omega))]
    · rw [if_neg z, if_neg (nI_ge (by omega) (by omega))]
  intro c
  induction c with
  | zero =>
    intro k fuel fuel' h aw M T hk hf hf' hK hS hV ho ht0 hq
    obtain ⟨f, rfl⟩ : ∃ j, fuel = j + 1 := ⟨fuel - 1, by omega⟩
    obtain ⟨f', rfl⟩ : ∃ j, fuel' = j + 1 := ⟨fuel' - 1, by omega⟩
    obtain ⟨T', t1, t2⟩ := L38 k h aw T (by omega) hV ho ht0 hq
    refine ⟨0, M, T', ?_, ?_, hK, hS, t2⟩
    · show fX11_judge_L28_b (fX11_judge_L28 f) M (nI goal) (nI h) (nI aw) (nI k) = _
      unfold fX11_judge_L28_b
      rw [show M 0 12 = nI r from (congrFun (hK.1 0 (by omega) (by omega)) 12).trans hM, if_pos (nI_le (by omega) (by omega))]
    · show fX12_judge_L15_b (fX12_judge_L15 f') T (nI goal) (nI k) = _
      unfold fX12_judge_L15_b
      rw [ht0, upd_ne (by omega), upd_ne (by omega), hT, if_pos (nI_le (by omega) (by omega)), t1, if_pos (by omega)]
  | succ c ih =>
    intro k fuel fuel' h aw M T hk hf hf' hK hS hV ho ht0 hq
    obtain ⟨f, rfl⟩ : ∃ j, fuel = j + 1 := ⟨fuel - 1, by omega⟩
    obtain ⟨f', rfl⟩ : ∃ j, fuel' = j + 1 := ⟨fuel' - 1, by omega⟩
    have h7 := hV.1.1
    have hh := hV.1.2.2.1
    have a128 := pow_le7 h7 hV.1.2.1
    have m12 : M 0 12 = nI r := (congrFun (hK.1 0 (by omega) (by omega)) 12).trans hM
    have t20 : T 0 20 = nI r := by rw [ht0, upd_ne (by omega), upd_ne (by omega)]; exact hT
    have m67 : M 67 = M0 67 := hK.1 67 (by omega) (by omega)
    have t9 : T 9 = T0 9 := hq 9 (by omega) (by omega) (by omega)
    have n2 : M 1 0 = nI n := (congrFun (hK.1 1 (by omega) (by omega)) 0).trans hC.2.1.2.1
    have ga : ix (nI (3 * k)) 12 = true := ix_nI (by omega) (by omega)
    have gb : ix (nI (3 * k + 1)) 12 = true := ix_nI (by omega) (by omega)
    have gc : ix (nI (3 * k + 2)) 12 = true := ix_nI (by omega) (by omega)
    have ka := tn_nI (show 3 * k < 2 ^ 31 by omega)
    have kb := tn_nI (show 3 * k + 1 < 2 ^ 31 by omega)
    have kc := tn_nI (show 3 * k + 2 < 2 ^ 31 by omega)
    have r0 := hrow (3 * k) (by omega)
    have r1 := hrow (3 * k + 1) (by omega)
    have r2 := hrow (3 * k + 2) (by omega)
    by_cases hact : fX11_isIn (T0 9 (3 * k)) 0 (nI n) = 0
    · obtain ⟨T', t1, t2⟩ := L38 k h aw T (by omega) hV ho ht0 hq
      refine ⟨nI (k + 1), M, T', ?_, ?_, hK, hS, t2⟩
      · show fX11_judge_L28_b (fX11_judge_L28 f) M (nI goal) (nI h) (nI aw) (nI k) = _
        unfold fX11_judge_L28_b fX11_isAct
        rw [m12, if_neg (nI_ge (by omega) (by omega)), (rix3 k).1, gd_t ga, ka, m67, r0, n2, if_pos hact, nI_1]
      · show fX12_judge_L15_b (fX12_judge_L15 f') T (nI goal) (nI k) = _
        unfold fX12_judge_L15_b fX12_isRight
        rw [t20, if_neg (nI_ge (by omega) (by omega)), (rix3 k).2, gd_t ga, g0N, ka, c0N, t9, hV.2.2.1.1, show fX12_in (Int32.toInt64 (T0 9 (3 * k))) 0 (Int32.toInt64 (nI n)) = _ from in_eq (T0 9 (3 * k)) 0 (nI n), if_pos hact, b2_s rfl, if_pos rfl, t1, if_neg (by omega)]
    · obtain ⟨a, -, han, ea⟩ := isIn_yes (a := 0) (b := n) (by omega) (by omega) hact
      have hw' := actS_lt h7 hV.1.2.1 han
      obtain ⟨M1, m1, m2, m3, m4⟩ := cSum hC hK hS hh (pow_le7 h7 hw')
      obtain ⟨Ta, Tb, Tc, d1, d2, d3, d4, d5, d6, d7⟩ := mFwd hV han
      have m18 : M1 1 8 = nI li := (congrFun (m3.1 1 (by omega) (by omega)) 8).trans hC.2.2
      have m12' : M1 0 12 = nI r := (congrFun (m3.1 0 (by omega) (by omega)) 12).trans hM
      have m67' : M1 67 = M0 67 := m3.1 67 (by omega) (by omega)
      have tc0 : Tc 0 = T 0 := d7 0 (by omega) (by omega)
      have tc20 : Tc 0 20 = nI r := by rw [tc0]; exact t20
      have tc9 : Tc 9 = T0 9 := (d7 9 (by omega) (by omega)).trans t9
      have tc1 : Tc 1 1 = nI (nextS (nowC M0) li h (actS aw a)) := d5.2.2.1.2.1
      have hq' : ∀ q, q ≠ 0 → q ≠ 1 → q ≠ 3 → Tc q = T0 q := fun q x y z => (d7 q y z).trans (hq q x y z)
      have hn : nextS (nowC M0) li h (actS aw a) < 24 := d5.1.2.2.1
      have er : (nI k = nI r - 1) ↔ k + 1 = r := by
        rw [Int32.eq_sub_iff_add_eq, nI_1]
        exact nI_eq (by omega) (by omega)
      have H1 : fX11_judge_L28 (f + 1) M (nI goal) (nI h) (nI aw) (nI k) = if T0 9 (3 * k + 1) = SUM (nowC M0) h (actS aw a) ∧ T0 9 (3 * k + 2) = nI (nextS (nowC M0) li h (actS aw a)) ∧ (k + 1 < r ∨ nI (nextS (nowC M0) li h (actS aw a)) = nI goal) then fX11_judge_L28 f M1 (nI goal) (nI (nextS (nowC M0) li h (actS aw a))) (nI (actS aw a)) (nI (k + 1)) else some (nI (k + 1), M1) := by
        show fX11_judge_L28_b (fX11_judge_L28 f) M (nI goal) (nI h) (nI aw) (nI k) = _
        unfold fX11_judge_L28_b fX11_isAct fX11_judge_L115
        rw [m12, if_neg (nI_ge (by omega) (by omega)), (rix3 k).1, gd_t ga, ka, m67, r0, n2, if_neg hact, gd_t ga, ea, acted_at a128 (show a ≤ 7 by omega), b2_s m1, m18, b1_s (moved_at M1 hh (turn3 _ _)), m12']
        simp only [nI_1, nI_2, gd_t gb, gd_t gc, kb, kc, m67', r1, r2]
        rw [show mvS h (fX11_turnOf (SUM (nowC M0) h (actS aw a)) (nI li)) = nextS (nowC M0) li h (actS aw a) from rfl]
        by_cases A : T0 9 (3 * k + 1) = SUM (nowC M0) h (actS aw a)
        · simp only [if_pos A]
          by_cases B : T0 9 (3 * k + 2) = nI (nextS (nowC M0) li h (actS aw a))
          · simp only [if_pos B]
            by_cases E : k + 1 = r
            · rw [if_pos (er.mpr E), if_neg (show ¬ (1 : Int32) = 0 by decide)]
              by_cases G : nI (nextS (nowC M0) li h (actS aw a)) = nI goal
              · rw [if_pos G, if_pos ⟨A, B, Or.inr G⟩]
              · rw [if_neg G, if_neg (fun q => q.2.2.elim (fun z => by omega) G)]
            · rw [if_neg (fun q => E (er.mp q)), if_pos trivial, if_pos ⟨A, B, Or.inl (by omega)⟩]
          · simp only [if_neg B]
            rw [ite_self, if_neg (fun q => B q.2.1)]
        · simp only [if_neg A]
          rw [ite_self, if_neg (fun q => A q.1)]
      have H2 : fX12_judge_L15 (f' + 1) T (nI goal) (nI k) = if T0 9 (3 * k + 1) = SUM (nowC M0) h (actS aw a) ∧ T0 9 (3 * k + 2) = nI (nextS (nowC M0) li h (actS aw a)) ∧ (k + 1 < r ∨ nI (nextS (nowC M0) li h (actS aw a)) = nI goal) then fX12_judge_L15 f' Tc (nI goal) (nI (k + 1)) else fX12_judge_L38 Tc (nI k) := by
        show fX12_judge_L15_b (fX12_judge_L15 f') T (nI goal) (nI k) = _
        unfold fX12_judge_L15_b
        have R : fX12_isRight T (nI k) (nI goal) = some (if T0 9 (3 * k + 1) = SUM (nowC M0) h (actS aw a) ∧ T0 9 (3 * k + 2) = nI (nextS (nowC M0) li h (actS aw a)) ∧ (k + 1 < r ∨ nI (nextS (nowC M0) li h (actS aw a)) = nI goal) then 1 else 0, Tc) := by
          unfold fX12_isRight fX12_isRight_L71 fX12_isRight_L76
          rw [(rix3 k).2, gd_t ga, g0N, ka, c0N, t9, hV.2.2.1.1, show fX12_in (Int32.toInt64 (T0 9 (3 * k))) 0 (Int32.toInt64 (nI n)) = _ from in_eq (T0 9 (3 * k)) 0 (nI n), if_neg hact, gd_t ga, ea, b2_s d1, b2_s d2, b1_s d3, b2_s d4]
          simp only [nI_1, nI_2, g1N, c1N, gd_t gb, gd_t gc, kb, kc, tc20, tc9, tc1]
          by_cases A : T0 9 (3 * k + 1) = SUM (nowC M0) h (actS aw a)
          · simp only [if_pos A]
            by_cases B : T0 9 (3 * k + 2) = nI (nextS (nowC M0) li h (actS aw a))
            · simp only [if_pos B]
              by_cases E : k + 1 < r
              · rw [if_pos (nI_lt E (by omega)), if_neg (show ¬ (1 : Int32) = 0 by decide), if_pos ⟨A, B, Or.inl E⟩]
              · rw [if_neg (nI_nlt (by omega) (by omega))]
                by_cases G : nI (nextS (nowC M0) li h (actS aw a)) = nI goal
                · rw [if_pos G, if_neg (show ¬ (1 : Int32) = 0 by decide), if_pos ⟨A, B, Or.inr G⟩]
                · rw [if_neg G, if_pos trivial, if_neg (fun q => q.2.2.elim (fun z => by omega) G)]
            · simp only [if_neg B]
              rw [ite_self, ite_self, if_neg (fun q => B q.2.1)]
          · simp only [if_neg A]
            rw [ite_self, ite_self, if_neg (fun q => A q.1)]
        rw [t20, if_neg (nI_ge (by omega) (by omega)), b2_s R, nI_1]
        by_cases Q : T0 9 (3 * k + 1) = SUM (nowC M0) h (actS aw a) ∧ T0 9 (3 * k + 2) = nI (nextS (nowC M0) li h (actS aw a)) ∧ (k + 1 < r ∨ nI (nextS (nowC M0) li h (actS aw a)) = nI goal)
        · rw [if_pos Q, if_pos Q, if_neg (by decide)]
        · rw [if_neg Q, if_neg Q, if_pos rfl]
      rw [H1, H2]
      by_cases Q : T0 9 (3 * k + 1) = SUM (nowC M0) h (actS aw a) ∧ T0 9 (3 * k + 2) = nI (nextS (nowC M0) li h (actS aw a)) ∧ (k + 1 < r ∨ nI (nextS (nowC M0) li h (actS aw a)) = nI goal)
      · rw [if_pos Q, if_pos Q]
        exact ih (k + 1) f f' _ _ M1 Tc (by omega) (by omega) (by omega) m3 m4 d5 (ho.trans d6) (tc0.trans ht0) hq'
      · rw [if_neg Q, if_neg Q]
        obtain ⟨T', t1, t2⟩ := L38 k _ _ Tc (by omega) d5 (ho.trans d6) (tc0.trans ht0) hq'
        exact ⟨nI (k + 1), M1, T', rfl, by rw [t1, if_neg (by omega)], m3, m4, t2⟩
theorem pm_judge {M T : mM} (hR : Rel M T) (a0 : Int32) : ∃ (r : Int32) (M' : mM) (T' : mM), fX11_judge M a0 = some (r, M') ∧ fX12_judge T a0 = some (r, T') ∧ Rel M' T' := by
  obtain ⟨n, aw, h, no, li, la, hV, hX, hC, a128, h24, n2, a5, h6, l8⟩ := hR.look
  obtain ⟨r, w1, w2, w3, w4⟩ := hR.2.2.2.2.1
  unfold fX11_judge fX12_judge
  rw [isHour_eq]
  by_cases h1 : fX11_isHour a0 = 0
  · exact ⟨-1, M, T, by rw [if_pos h1], by rw [if_pos h1], hR⟩
  rw [if_neg h1, if_neg h1]
  obtain ⟨g, hg, rfl⟩ := isHour_yes h1
  have e1 : wr (wr T 0 12 (nI h)) 0 21 (nI aw) 1 = T 1 := by rw [wr_q _ _ (by omega), wr_q _ _ (by omega)]
  obtain ⟨res, M', T', u1, u2, u3, u4, u5, u6, u7⟩ := judgeB hC hX w1 w2 w3 w4 hg r 0 5000 5000 h aw M (wr (wr T 0 12 (nI h)) 0 21 (nI aw)) (by omega) (by omega) (by omega) (eqK.refl M) hR.2.1 (by rw [e1]; exact hX) (by rw [e1]; exact offE.refl _ _) (by rw [wr_row, wr_row]) (fun q a b d => by rw [wr_q _ _ a, wr_q _ _ a])
  refine ⟨res, M', T', ?_, ?_, hR.scr (fun q g1 g2 => u3.1 q g1 (by omega)) u3.2 u4 u5 (keepR_of (fun k hk => by rw [u6, upd_ne (by omega), upd_ne (by omega)]) (fun q hq => u7 q (by omega) (by omega) (by omega)))⟩
  · rw [h6, a5]; exact u1
  · rw [b2_s (thinksAll_at hV)]; exact u2
-- sheets whose bytes are ACTS
theorem goOn_out {M : mM} {b r : Int32} {M' : mM} (h : fX4_goOn_q1 M b = some (r, M')) {q : Nat} (hq : q ≠ 1) : M' q = M q := by
  unfold fX4_goOn_q1 at h
  obtain ⟨r1, e1, h⟩ := o_b h
  obtain ⟨r2, e2, h⟩ := o_b h
  have := congrArg Prod.snd (Option.some.inj h)
  have e : wr (wr (wr M 1 6 r1) 1 9 r2) 1 7 (wr (wr M 1 6 r1) 1 9 r2 1 7 + 1) = M' := this
  rw [← e, wr_q _ _ hq, wr_q _ _ hq, wr_q _ _ hq]
/-- an ACT is done and a NOON is, in both -/
theorem goStep {M T : mM} (hR : Rel M T) {n aw h no li la a : Nat} (hV : Rv (nowC M) (T 1) n aw h no li la) (hX : Vx (nowC M) (T 1) n aw h li) (hno : no < 9999) (ha : a ≤ n) :
    ∃ (s t r : Int32) (M2 M3 M4 T1 T2 T3 : mM), fX11_sumAt (wr M 1 5 (nI (actS aw a))) ((wr M 1 5 (nI (actS aw a))) 1 6) ((wr M 1 5 (nI (actS aw a))) 1 5) = some (s, M2) ∧ fX11_turnNow M2 = some (t, M3) ∧ fX4_goOn_q1 M3 t = some (r, M4) ∧ fX12_does T (nI a) = some (0, T1) ∧ fX12_sumNow T1 = some (s, T2) ∧ fX12_noonBy T2 s = some (r, T3) ∧ Rel M4 T3 ∧ ∀ q, q ≠ 1 → q ≠ 16 → q ≠ 63 → M4 q = M q := by
  obtain ⟨T1, d1, d2, d3, d4⟩ := does_at hX ha
  have hw' := actS_lt hX.1.1 hX.1.2.1 ha
  have hR1 : Rel (wr M 1 5 (nI (actS aw a))) T1 := hR.awk hV (actS aw a) T1 hw' d4 (fun k hk => by
    by_cases k1 : k = 1
    · rw [k1, d2.2.2.1.2.1, hX.2.2.1.2.1]
    · exact d3 k k1 hk) (fun p hp => bit_of (d2.2.2.2.1 p hp))
  have x1 : ∀ k, k ≠ 5 → wr M 1 5 (nI (actS aw a)) 1 k = M 1 k := fun k hk => wr_k _ hk
  have n5 : wr M 1 5 (nI (actS aw a)) 1 5 = nI (actS aw a) := wr_s _ _ _ _
  obtain ⟨n', aw', h', no', li', la', hV1, hX1, hC1, b128, b24, k2, k5, k6, k8⟩ := hR1.look
  have eno : no' = no := (nI_eq (by have := hV1.1.2.2.2.1; omega) (by omega)).mp (hV1.2.1.2.2.2.1.symm.trans ((x1 7 (by omega)).trans hV.2.1.2.2.2.1))
  obtain ⟨M2, m1, m2, m3⟩ := sumAt_at hR1.2.1 hX1.2.2.2.2 hX1.vs b24 b128
  obtain ⟨T2, t1, t2⟩ := sumNow_at hX1
  have hR2 := hR1.eqK m2 m3 t2
  have hV2 : Rv (nowC M2) (T2 1) n' aw' h' no' li' la' := by
    rw [t2 1 (by omega)]
    have e : ∀ q, q ≤ 14 → nowC M2 q = nowC (wr M 1 5 (nI (actS aw a))) q := fun q hq => m2.1 (1 + q) (by omega) (by omega)
    unfold Rv Rvo at hV1 ⊢
    rw [e 0 (by omega), e 1 (by omega), e 2 (by omega), e 3 (by omega), e 4 (by omega)]
    exact hV1
  have hX2 : Vx (nowC M2) (T2 1) n' aw' h' li' := ⟨hX1.1, hV2.2.1.1, ⟨hV2.2.2.1.1, hV2.2.2.1.2.1, hV2.2.2.1.2.2.2.1⟩, hV2.2.2.2, hR2.1.2.2⟩
  obtain ⟨M3, u1, u2, u3⟩ := sumAt_at m3 hX2.2.2.2.2 hX2.vs b24 b128
  have hR3 := hR2.eqK u2 u3 (fun q _ => rfl)
  have hV3 : Rv (nowC M3) (T2 1) n' aw' h' no' li' la' := by
    have e : ∀ q, q ≤ 14 → nowC M3 q = nowC M2 q := fun q hq => u2.1 (1 + q) (by omega) (by omega)
    unfold Rv Rvo at hV2 ⊢
    rw [e 0 (by omega), e 1 (by omega), e 2 (by omega), e 3 (by omega), e 4 (by omega)]
    exact hV2
  obtain ⟨r, M4, T3, r1, r2, r3⟩ := goOn_both hR3 hV3 (by omega) (SUM (nowC (wr M 1 5 (nI (actS aw a)))) h' aw')
  refine ⟨SUM (nowC (wr M 1 5 (nI (actS aw a)))) h' aw', _, r, M2, M3, M4, T1, T2, T3, ?_, ?_, r1, d1, t1, r2, r3, fun q q1 q16 q63 => ?_⟩
  · rw [k6, k5]; exact m1
  · unfold fX11_turnNow
    rw [show M2 1 6 = nI h' from hV2.2.1.2.2.1, show M2 1 5 = nI aw' from hV2.2.1.2.1, b2_s u1, show M3 1 8 = nI li' from hV3.2.1.2.2.2.2.1, SUM_eq m2.X]
  · rw [goOn_out r1 q1, u2.1 q q16 q63, m2.1 q q16 q63, wr_q _ _ q1]
theorem get_at {M : mM} {s j : Nat} (hs : s < 4) (hj : j < 40) : fX2_get M (nI s) (nI j) = some (M 62 (40 * s + j)) := by
  unfold fX2_get
  rw [itemix.1, gd_t (ix_nI (by omega) (by omega)), tn_nI (by omega)]
theorem item3 (s : Nat) (i x : Int32) {j : Nat} (h : i + x = nI j) : 40 * nI s + i + x = nI (40 * s + j) := by
  rw [Int32.add_assoc, h]; exact itemix.2
theorem goB {s N : Nat} (hs : s < 4) (hN : N ≤ 20) (i : Int32) : ∀ (c k fuel fuel' : Nat) (ct : Int32) (M T : mM), k + c = N → c < fuel → c < fuel' → Rel M T → M 57 s = 0 →
    ∃ (r : Int32) (M' T' : mM), fX11_goAll_L22 fuel M (nI s) i (nI N) ct (nI k) = some (r, M') ∧ fX12_goAll_L34 fuel' T (nI s) i (nI N) 0 ct (nI k) = some (r, T') ∧ Rel M' T' := by
  intro c
  induction c with
  | zero =>
    intro k fuel fuel' ct M T hk hf hf' hR h57
    obtain ⟨f, rfl⟩ : ∃ j, fuel = j + 1 := ⟨fuel - 1, by omega⟩
    obtain ⟨f', rfl⟩ : ∃ j, fuel' = j + 1 := ⟨fuel' - 1, by omega⟩
    refine ⟨ct, M, T, ?_, ?_, hR⟩
    · show fX11_goAll_L22_b (fX11_goAll_L22 f) M (nI s) i (nI N) ct (nI k) = _
      unfold fX11_goAll_L22_b
      rw [if_pos (nI_le (by omega) (by omega))]
    · show fX12_goAll_L34_b (fX12_goAll_L34 f') T (nI s) i (nI N) 0 ct (nI k) = _
      unfold fX12_goAll_L34_b
      rw [if_pos (nI_le (by omega) (by omega)), if_pos (by decide)]
  | succ c ih =>
    intro k fuel fuel' ct M T hk hf hf' hR h57
    obtain ⟨f, rfl⟩ : ∃ j, fuel = j + 1 := ⟨fuel - 1, by omega⟩
    obtain ⟨f', rfl⟩ : ∃ j, fuel' = j + 1 + 1 := ⟨fuel' - 2, by omega⟩
    obtain ⟨n, aw, h, no, li, la, hV, hX, hC, a128, h24, n2, a5, h6, l8⟩ := hR.look
    obtain ⟨⟨g1, g2⟩, ⟨cz, c1, c2, c3⟩, g3⟩ := hR.2.2.2.2.2.1.1 s hs
    have hlk : fX12_lacks T (nI s) 0 (i + nI k) = some (if hasS (i + nI k) cz = 0 then -12 else 0) := by
      rw [lacks_at hs c1 g1 g2 c3 0 (i + nI k), h57, if_neg (by decide), if_pos (Or.inr rfl)]
    by_cases hi : hasS (i + nI k) cz = 0
    · refine ⟨-12, M, T, ?_, ?_, hR⟩
      · show fX11_goAll_L22_b (fX11_goAll_L22 f) M (nI s) i (nI N) ct (nI k) = _
        unfold fX11_goAll_L22_b
        rw [if_neg (nI_ge (by omega) (by omega)), b1_s (has_at hs c2 _), if_pos hi]
      · show fX12_goAll_L34_b (fX12_goAll_L34 (f' + 1)) T (nI s) i (nI N) 0 ct (nI k) = _
        unfold fX12_goAll_L34_b fX12_goAll_L80
        rw [if_neg (nI_ge (by omega) (by omega)), if_pos rfl, b1_s hlk, if_pos hi, if_neg (by decide), g0N, c0N, show T 1 0 = nI n from hX.2.2.1.1, show fX12_in (Int32.toInt64 (-1)) 0 (Int32.toInt64 (nI n)) = fX11_isIn (-1) 0 (nI n) from in_eq (-1) 0 (nI n)]
        have e : fX11_isIn (-1) 0 (nI n) = 0 := by unfold fX11_isIn; rw [if_pos (by decide)]
        rw [if_pos e, nI_1]
        show fX12_goAll_L34_b (fX12_goAll_L34 f') T (nI s) i (nI N) (-12) ct (nI (k + 1)) = _
        unfold fX12_goAll_L34_b
        rw [if_neg (show ¬ (-12 : Int32) = 0 by decide), if_neg (show ¬ 0 ≤ (-12 : Int32) by decide), ite_self]
    · obtain ⟨j, hj, ej⟩ := has_yes c1 hi
      have i1 : ∀ {x : Option (Int32 × mM)}, gd (ix (nI (40 * s + j)) 160) x = x := gd_t (ix_nI (by omega) (by omega))
      have e12 : T 12 (40 * s + j) = M 62 (40 * s + j) := (g3 j (by rw [c2, nI_clamp (by omega)]; exact hj)).symm
      have H2 : fX12_goAll_L34 (f' + 1 + 1) T (nI s) i (nI N) 0 ct (nI k) = fX12_goAll_L80 (fX12_goAll_L34 (f' + 1)) T (nI s) i (nI N) 0 ct (nI k) (M 62 (40 * s + j)) := by
        show fX12_goAll_L34_b (fX12_goAll_L34 (f' + 1)) T (nI s) i (nI N) 0 ct (nI k) = _
        unfold fX12_goAll_L34_b
        rw [if_neg (nI_ge (by omega) (by omega)), if_pos rfl, b1_s hlk, if_neg hi, if_pos rfl, item3 s i (nI k) ej, i1, tn_nI (by omega), e12]
      have H1 : fX11_goAll_L22 (f + 1) M (nI s) i (nI N) ct (nI k) = if fX11_isIn (M 62 (40 * s + j)) 0 (nI n) = 0 then fX11_goAll_L22 f M (nI s) i (nI N) ct (nI (k + 1)) else (if 9999 ≤ M 1 7 then fX11_goAll_L22 f M (nI s) i (nI N) ct (nI (k + 1)) else (b2 (fX11_sumAt (wr M 1 5 (fX11_acted (M 1 5) (M 62 (40 * s + j)))) ((wr M 1 5 (fX11_acted (M 1 5) (M 62 (40 * s + j)))) 1 6) ((wr M 1 5 (fX11_acted (M 1 5) (M 62 (40 * s + j)))) 1 5)) fun r10 M12 => (if r10 = 0 then (fX11_goAll_L129 (fX11_goAll_L22 f) M12 (nI s) i (nI N) (nI k) ct 0) else (fX11_goAll_L129 (fX11_goAll_L22 f) M12 (nI s) i (nI N) (nI k) ct 1)))) := by
        show fX11_goAll_L22_b (fX11_goAll_L22 f) M (nI s) i (nI N) ct (nI k) = _
        unfold fX11_goAll_L22_b fX11_isAct
        rw [if_neg (nI_ge (by omega) (by omega)), b1_s (has_at hs c2 _), if_neg hi, ej, b1_s (get_at hs (show j < 40 by omega)), n2, nI_1]
      rw [H1, H2]
      unfold fX12_goAll_L80
      rw [g0N, c0N, show T 1 0 = nI n from hX.2.2.1.1, show fX12_in (Int32.toInt64 (M 62 (40 * s + j))) 0 (Int32.toInt64 (nI n)) = _ from in_eq (M 62 (40 * s + j)) 0 (nI n), nI_1]
      by_cases hact : fX11_isIn (M 62 (40 * s + j)) 0 (nI n) = 0
      · rw [if_pos hact, if_pos hact]
        exact ih (k + 1) f (f' + 1) ct M T (by omega) (by omega) (by omega) hR h57
      · rw [if_neg hact, if_neg hact, g2N, c2N, show M 1 7 = nI no from hV.2.1.2.2.2.1, show T 1 2 = nI no from hV.2.2.1.2.2.1]
        by_cases h9 : 9999 ≤ nI no
        · rw [if_pos h9, if_pos h9]
          exact ih (k + 1) f (f' + 1) ct M T (by omega) (by omega) (by omega) hR h57
        · rw [if_neg h9, if_neg h9]
          have hno : no < 9999 := by
            rcases Nat.lt_or_ge no 9999 with z | z
            · exact z
            · exact absurd (show (9999 : Int32) ≤ nI no from nI_le (a := 9999) z (by have := hV.1.2.2.2.1; omega)) h9
          obtain ⟨a, -, han, ea⟩ := isIn_yes (a := 0) (b := n) (by omega) (by have := hX.1.1; omega) hact
          obtain ⟨su, t, r, M2, M3, M4, T1, T2, T3, q1, q2, q3, q4, q5, q6, q7, q8⟩ := goStep hR hV hX hno han
          rw [ea, a5, acted_at a128 (show a ≤ 7 by have := hX.1.1; omega), b2_s q1, b2_s q4, b2_s q5, b2_s q6]
          have L : ∀ z : Int32, fX11_goAll_L129 (fX11_goAll_L22 f) M2 (nI s) i (nI N) (nI k) ct z = fX11_goAll_L22 f M4 (nI s) i (nI N) (ct + z) (nI (k + 1)) := fun z => by
            unfold fX11_goAll_L129
            rw [b2_s q2, b2_s q3, nI_1]
          rw [L, L]
          have h57' : M4 57 s = 0 := (congrFun (q8 57 (by omega) (by omega) (by omega)) s).trans h57
          by_cases z : su = 0
          · rw [if_pos z, if_pos z]
            exact ih (k + 1) f (f' + 1) _ M4 T3 (by omega) (by omega) (by omega) q7 h57'
          · rw [if_neg z, if_neg z]
            exact ih (k + 1) f (f' + 1) _ M4 T3 (by omega) (by omega) (by omega) q7 h57'
/-- why a sheet is no row of bytes, in both -/
theorem refusal_at {M T : mM} (hR : Rel M T) {s : Nat} (hs : s < 4) : ∃ z : Int32, fX2_refusalAs M (nI s) 0 = some z ∧ fX12_lacksBytes T (nI s) = some z ∧ ((z = 0 ∧ M 57 s = 0) ∨ z = -11 ∨ z = -13) := by
  obtain ⟨⟨g1, g2⟩, -⟩ := hR.2.2.2.2.2.1.1 s hs
  unfold fX2_refusalAs fX12_lacksBytes
  rw [gd_t (ix_nI hs (by omega)), gd_t (ix_nI hs (by omega)), gd_t (ix_nI hs (by omega)), gd_t (ix_nI hs (by omega)), tn_nI (by omega), ← g1]
  by_cases k1 : M 57 s = -1
  · exact ⟨-11, by rw [if_pos k1], by rw [if_neg (fun q => (sort_ge g2).mp q k1)], Or.inr (Or.inl rfl)⟩
  · rw [if_neg k1, if_pos ((sort_ge g2).mpr k1)]
    by_cases k2 : M 57 s = 0
    · exact ⟨0, by rw [if_pos k2], by rw [if_pos k2], Or.inl ⟨rfl, k2⟩⟩
    · exact ⟨-13, by rw [if_neg k2], by rw [if_neg k2], Or.inr (Or.inr rfl)⟩
theorem pm_goAll {M T : mM} (hR : Rel M T) (a0 : Int32) (a1 : Int32) (a2 : Int32) : ∃ (r : Int32) (M' : mM) (T' : mM), fX11_goAll M a0 a1 a2 = some (r, M') ∧ fX12_goAll T a0 a1 a2 = some (r, T') ∧ Rel M' T' := by
  unfold fX11_goAll fX12_goAll fX11_refusalOfActs
  rw [isFour_eq, show fX12_in (Int32.toInt64 a2) 0 20 = fX11_isIn a2 0 20 from in_eq a2 0 20]
  by_cases h1 : fX11_isIn a0 0 3 = 0
  · exact ⟨-1, M, T, by rw [if_pos h1, b1_s rfl, if_neg (by decide)], by rw [if_pos h1], hR⟩
  rw [if_neg h1, if_neg h1]
  by_cases h2 : fX11_isIn a2 0 20 = 0
  · exact ⟨-1, M, T, by rw [if_pos h2, b1_s rfl, if_neg (by decide)], by rw [if_pos h2], hR⟩
  rw [if_neg h2, if_neg h2]
  obtain ⟨s, hs, rfl⟩ := four_yes h1
  obtain ⟨N, -, hN, rfl⟩ := isIn_yes (a := 0) (b := 20) (by omega) (by omega) h2
  obtain ⟨z, z1, z2, z3⟩ := refusal_at hR hs
  rw [b1_s z1, b1_s rfl, b1_s z2]
  rcases z3 with ⟨rfl, h57⟩ | z3
  · rw [if_pos (by decide)]
    exact goB hs hN a1 N 0 5000 5000 0 M T (by omega) (by omega) (by omega) hR h57
  · have e1 : ¬ 0 ≤ z := by rcases z3 with rfl | rfl <;> decide
    have e2 : ¬ z = 0 := by rcases z3 with rfl | rfl <;> decide
    refine ⟨z, M, T, by rw [if_neg e1], ?_, hR⟩
    show fX12_goAll_L34_b (fX12_goAll_L34 4999) T (nI s) a1 (nI N) z 0 0 = _
    unfold fX12_goAll_L34_b
    rw [if_neg e1, if_neg e2, ite_self]
theorem wouldB {M0 T0 : mM} {n li h0 aw0 s N cz : Nat} (hs : s < 4) (hN : N ≤ 20) (i : Int32) (hC : Cc M0 (T0 1) n li) (hV0 : Vx (nowC M0) (T0 1) n aw0 h0 li) (c1 : cz ≤ 40) (c2 : M0 61 s = nI cz) (c3 : T0 11 s = nI cz) (g1 : M0 57 s = T0 10 s) (h57 : M0 57 s = 0) (g3 : ∀ j, j < (M0 61 s).toNatClampNeg → M0 62 (40 * s + j) = T0 12 (40 * s + j)) : ∀ (c k fuel fuel' h aw : Nat) (ct : Int32) (M T : mM), k + c = N → c < fuel → c < fuel' → eqK M0 M → Rs M → Vx (nowC M0) (T 1) n aw h li → offE n (T0 1) (T 1) → T 0 = upd (upd (T0 0) 12 (nI h0)) 21 (nI aw0) → (∀ q, q ≠ 0 → q ≠ 1 → q ≠ 3 → T q = T0 q) →
    ∃ (res : Int32) (M' T' : mM), fX11_wouldBe_L40 fuel M (nI s) i (nI N) (nI h) (nI aw) ct (nI k) = some (res, M') ∧ fX12_wouldBe_L38 fuel' T (nI s) i (nI N) 0 ct (nI k) = some (res, T') ∧ eqK M0 M' ∧ Rs M' ∧ T' 1 = T0 1 ∧ T' 0 = upd (upd (T0 0) 12 (nI h0)) 21 (nI aw0) ∧ ∀ q, q ≠ 0 → q ≠ 1 → q ≠ 3 → T' q = T0 q := by
  -- the model's end
  have L165 : ∀ (z ct : Int32) (h' aw' : Nat) (T : mM), Vx (nowC M0) (T 1) n aw' h' li → offE n (T0 1) (T 1) → T 0 = upd (upd (T0 0) 12 (nI h0)) 21 (nI aw0) → (∀ q, q ≠ 0 → q ≠ 1 → q ≠ 3 → T q = T0 q) →
      ∃ T', fX12_wouldBe_L165 T z ct = some (if 0 ≤ z then 100 * ct + nI h' else z, T') ∧ T' 1 = T0 1 ∧ T' 0 = upd (upd (T0 0) 12 (nI h0)) 21 (nI aw0) ∧ ∀ q, q ≠ 0 → q ≠ 1 → q ≠ 3 → T' q = T0 q := by
    intro z ct h' aw' T hV ho ht0 hq
    obtain ⟨T', t1, t2, t3, t4⟩ := laidAt hV0 hV ho ht0
    refine ⟨T', ?_, t2, t3, fun q a b d => (t4 q b).trans (hq q a b d)⟩
    unfold fX12_wouldBe_L165
    rw [g1N, c1N, b2_s t1, hV.2.2.1.2.1]
    by_cases z0 : 0 ≤ z
    · rw [if_pos z0, if_pos z0]
    · rw [if_neg z0, if_neg z0]
  intro c
  induction c with
  | zero =>
    intro k fuel fuel' h aw ct M T hk hf hf' hK hS hV ho ht0 hq
    obtain ⟨f, rfl⟩ : ∃ j, fuel = j + 1 := ⟨fuel - 1, by omega⟩
    obtain ⟨f', rfl⟩ : ∃ j, fuel' = j + 1 := ⟨fuel' - 1, by omega⟩
    obtain ⟨T', t1, t2⟩ := L165 0 ct h aw T hV ho ht0 hq
    refine ⟨100 * ct + nI h, M, T', ?_, ?_, hK, hS, t2⟩
    · show fX11_wouldBe_L40_b (fX11_wouldBe_L40 f) M (nI s) i (nI N) (nI h) (nI aw) ct (nI k) = _
      unfold fX11_wouldBe_L40_b
      rw [if_pos (nI_le (by omega) (by omega))]
    · show fX12_wouldBe_L38_b (fX12_wouldBe_L38 f') T (nI s) i (nI N) 0 ct (nI k) = _
      unfold fX12_wouldBe_L38_b
      rw [if_pos (nI_le (by omega) (by omega)), t1, if_pos (by decide)]
  | succ c ih =>
    intro k fuel fuel' h aw ct M T hk hf hf' hK hS hV ho ht0 hq
    obtain ⟨f, rfl⟩ : ∃ j, fuel = j + 1 := ⟨fuel - 1, by omega⟩
    obtain ⟨f', rfl⟩ : ∃ j, fuel' = j + 1 + 1 := ⟨fuel' - 2, by omega⟩
    have h7 := hV.1.1
    have hh := hV.1.2.2.1
    have a128 := pow_le7 h7 hV.1.2.1
    have n2 : M 1 0 = nI n := (congrFun (hK.1 1 (by omega) (by omega)) 0).trans hC.2.1.2.1
    have m61 : M 61 s = nI cz := (congrFun (hK.1 61 (by omega) (by omega)) s).trans c2
    have m57 : M0 57 s = T 10 s := by rw [hq 10 (by omega) (by omega) (by omega)]; exact g1
    have t11 : T 11 s = nI cz := by rw [hq 11 (by omega) (by omega) (by omega)]; exact c3
    have hlk : fX12_lacks T (nI s) 0 (i + nI k) = some (if hasS (i + nI k) cz = 0 then -12 else 0) := by
      rw [lacks_at hs c1 m57 (Or.inr ⟨0, by omega, h57⟩) t11 0 (i + nI k), h57, if_neg (by decide), if_pos (Or.inr rfl)]
    -- what ends at once
    have fin : ∀ z : Int32, z < 0 → ∃ T', fX12_wouldBe_L38 (f' + 1) T (nI s) i (nI N) z ct (nI (k + 1)) = some (z, T') ∧ T' 1 = T0 1 ∧ T' 0 = upd (upd (T0 0) 12 (nI h0)) 21 (nI aw0) ∧ ∀ q, q ≠ 0 → q ≠ 1 → q ≠ 3 → T' q = T0 q := by
      intro z hz
      obtain ⟨T', t1, t2⟩ := L165 z ct h aw T hV ho ht0 hq
      rw [if_neg (Int32.not_le.mpr hz)] at t1
      refine ⟨T', ?_, t2⟩
      show fX12_wouldBe_L38_b (fX12_wouldBe_L38 f') T (nI s) i (nI N) z ct (nI (k + 1)) = _
      unfold fX12_wouldBe_L38_b
      rw [if_neg (show ¬ z = 0 from fun q => by rw [q] at hz; exact absurd hz (by decide)), ite_self]
      exact t1
    by_cases hi : hasS (i + nI k) cz = 0
    · obtain ⟨T', t1, t2⟩ := fin (-12) (by decide)
      refine ⟨-12, M, T', ?_, ?_, hK, hS, t2⟩
      · show fX11_wouldBe_L40_b (fX11_wouldBe_L40 f) M (nI s) i (nI N) (nI h) (nI aw) ct (nI k) = _
        unfold fX11_wouldBe_L40_b
        rw [if_neg (nI_ge (by omega) (by omega)), b1_s (has_at hs m61 _), if_pos hi]
      · show fX12_wouldBe_L38_b (fX12_wouldBe_L38 (f' + 1)) T (nI s) i (nI N) 0 ct (nI k) = _
        unfold fX12_wouldBe_L38_b fX12_wouldBe_L84 fX12_wouldBe_L113 fX12_wouldBe_L115
        rw [if_neg (nI_ge (by omega) (by omega)), if_pos rfl, b1_s hlk, if_pos hi]
        simp only [if_neg (show ¬ (-12 : Int32) = 0 by decide), nI_1]
        exact t1
    · obtain ⟨j, hj, ej⟩ := has_yes c1 hi
      have i1 : ∀ {x : Option (Int32 × mM)}, gd (ix (nI (40 * s + j)) 160) x = x := gd_t (ix_nI (by omega) (by omega))
      have e62 : M 62 (40 * s + j) = M0 62 (40 * s + j) := congrFun (hK.1 62 (by omega) (by omega)) _
      have e12 : T 12 (40 * s + j) = M0 62 (40 * s + j) := by rw [hq 12 (by omega) (by omega) (by omega)]; exact (g3 j (by rw [c2, nI_clamp (by omega)]; exact hj)).symm
      have H2 : fX12_wouldBe_L38 (f' + 1 + 1) T (nI s) i (nI N) 0 ct (nI k) = fX12_wouldBe_L84 (fX12_wouldBe_L38 (f' + 1)) T (nI s) i (nI N) 0 ct (nI k) (M0 62 (40 * s + j)) := by
        show fX12_wouldBe_L38_b (fX12_wouldBe_L38 (f' + 1)) T (nI s) i (nI N) 0 ct (nI k) = _
        unfold fX12_wouldBe_L38_b
        rw [if_neg (nI_ge (by omega) (by omega)), if_pos rfl, b1_s hlk, if_neg hi, if_pos rfl, item3 s i (nI k) ej, i1, tn_nI (by omega), e12]
      have H1 : fX11_wouldBe_L40 (f + 1) M (nI s) i (nI N) (nI h) (nI aw) ct (nI k) = if fX11_isIn (M0 62 (40 * s + j)) 0 (nI n) = 0 then some (-4, M) else (b2 (fX11_sumAt M (nI h) (fX11_acted (nI aw) (M0 62 (40 * s + j)))) fun r10 M12 => (if r10 = 0 then (fX11_wouldBe_L117 (fX11_wouldBe_L40 f) M12 (nI s) i (nI N) (nI h) (fX11_acted (nI aw) (M0 62 (40 * s + j))) (nI k) ct 0) else (fX11_wouldBe_L117 (fX11_wouldBe_L40 f) M12 (nI s) i (nI N) (nI h) (fX11_acted (nI aw) (M0 62 (40 * s + j))) (nI k) ct 1))) := by
        show fX11_wouldBe_L40_b (fX11_wouldBe_L40 f) M (nI s) i (nI N) (nI h) (nI aw) ct (nI k) = _
        unfold fX11_wouldBe_L40_b fX11_isAct
        rw [if_neg (nI_ge (by omega) (by omega)), b1_s (has_at hs m61 _), if_neg hi, ej, b1_s (get_at hs (show j < 40 by omega)), n2, e62]
      rw [H1, H2]
      unfold fX12_wouldBe_L84 fX12_wouldBe_L113 fX12_wouldBe_L115
      rw [if_pos rfl, g0N, c0N, hV.2.2.1.1, show fX12_in (Int32.toInt64 (M0 62 (40 * s + j))) 0 (Int32.toInt64 (nI n)) = _ from in_eq (M0 62 (40 * s + j)) 0 (nI n), nI_1]
      by_cases hact : fX11_isIn (M0 62 (40 * s + j)) 0 (nI n) = 0
      · rw [if_pos hact, if_pos hact, if_neg (by decide)]
        obtain ⟨T', t1, t2⟩ := fin (-4) (by decide)
        exact ⟨-4, M, T', rfl, t1, hK, hS, t2⟩
      · rw [if_neg hact, if_neg hact, if_pos rfl]
        obtain ⟨a, -, han, ea⟩ := isIn_yes (a := 0) (b := n) (by omega) (by omega) hact
        have hw' := actS_lt h7 hV.1.2.1 han
        obtain ⟨M1, m1, m2, m3, m4⟩ := cSum hC hK hS hh (pow_le7 h7 hw')
        obtain ⟨M2, u1, u2, u3, u4⟩ := cHour hC m3 m4 hh (pow_le7 h7 hw')
        obtain ⟨Ta, Tb, Tc, d1, d2, d3, d4, d5, d6, d7⟩ := mFwd hV han
        rw [ea, acted_at a128 (show a ≤ 7 by omega), b2_s m1, b2_s d1, b2_s d2, b1_s d3, b2_s d4]
        have L : ∀ z : Int32, fX11_wouldBe_L117 (fX11_wouldBe_L40 f) M1 (nI s) i (nI N) (nI h) (nI (actS aw a)) (nI k) ct z = fX11_wouldBe_L40 f M2 (nI s) i (nI N) (nI (nextS (nowC M0) li h (actS aw a))) (nI (actS aw a)) (ct + z) (nI (k + 1)) := fun z => by
          unfold fX11_wouldBe_L117
          rw [b2_s u1, nI_1]
        rw [L, L]
        have go : ∀ ct' : Int32, _ := fun ct' => ih (k + 1) f (f' + 1) (nextS (nowC M0) li h (actS aw a)) (actS aw a) ct' M2 Tc (by omega) (by omega) (by omega) u3 u4 d5 (ho.trans d6) ((d7 0 (by omega) (by omega)).trans ht0) (fun q x y z => (d7 q y z).trans (hq q x y z))
        by_cases z : SUM (nowC M0) h (actS aw a) = 0
        · rw [if_pos z, if_pos z]; exact go _
        · rw [if_neg z, if_neg z]; exact go _
theorem pm_wouldBe {M T : mM} (hR : Rel M T) (a0 : Int32) (a1 : Int32) (a2 : Int32) : ∃ (r : Int32) (M' : mM) (T' : mM), fX11_wouldBe M a0 a1 a2 = some (r, M') ∧ fX12_wouldBe T a0 a1 a2 = some (r, T') ∧ Rel M' T' := by
  obtain ⟨n, aw, h, no, li, la, hV, hX, hC, a128, h24, n2, a5, h6, l8⟩ := hR.look
  unfold fX11_wouldBe fX12_wouldBe fX11_refusalOfActs
  rw [isFour_eq, show fX12_in (Int32.toInt64 a2) 0 20 = fX11_isIn a2 0 20 from in_eq a2 0 20]
  by_cases h1 : fX11_isIn a0 0 3 = 0
  · exact ⟨-1, M, T, by rw [if_pos h1, b1_s rfl, if_neg (by decide)], by rw [if_pos h1], hR⟩
  rw [if_neg h1, if_neg h1]
  by_cases h2 : fX11_isIn a2 0 20 = 0
  · exact ⟨-1, M, T, by rw [if_pos h2, b1_s rfl, if_neg (by decide)], by rw [if_pos h2], hR⟩
  rw [if_neg h2, if_neg h2]
  obtain ⟨s, hs, rfl⟩ := four_yes h1
  obtain ⟨N, -, hN, rfl⟩ := isIn_yes (a := 0) (b := 20) (by omega) (by omega) h2
  obtain ⟨z, z1, z2, z3⟩ := refusal_at hR hs
  have e1 : wr (wr T 0 12 (nI h)) 0 21 (nI aw) 1 = T 1 := by rw [wr_q _ _ (by omega), wr_q _ _ (by omega)]
  have e0 : wr (wr T 0 12 (nI h)) 0 21 (nI aw) 0 = upd (upd (T 0) 12 (nI h)) 21 (nI aw) := by rw [wr_row, wr_row]
  have eq : ∀ q, q ≠ 0 → q ≠ 1 → q ≠ 3 → wr (wr T 0 12 (nI h)) 0 21 (nI aw) q = T q := fun q a b d => by rw [wr_q _ _ a, wr_q _ _ a]
  rw [b1_s z1, b1_s rfl, b1_s z2, b2_s (thinksAll_at hV)]
  rcases z3 with ⟨rfl, h57⟩ | z3
  · rw [if_pos (by decide), h6, a5]
    obtain ⟨⟨g1, g2⟩, ⟨cz, c1, c2, c3⟩, g3⟩ := hR.2.2.2.2.2.1.1 s hs
    obtain ⟨res, M', T', u1, u2, u3, u4, u5, u6, u7⟩ := wouldB hs hN a1 hC hX c1 c2 c3 g1 h57 g3 N 0 5000 5000 h aw 0 M (wr (wr T 0 12 (nI h)) 0 21 (nI aw)) (by omega) (by omega) (by omega) (eqK.refl M) hR.2.1 (by rw [e1]; exact hX) (by rw [e1]; exact offE.refl _ _) e0 eq
    exact ⟨res, M', T', u1, u2, hR.scr (fun q g1 g2 => u3.1 q g1 (by omega)) u3.2 u4 u5 (keepR_of (fun k hk => by rw [u6, upd_ne (by omega), upd_ne (by omega)]) (fun q hq => u7 q (by omega) (by omega) (by omega)))⟩
  · have k1 : ¬ 0 ≤ z := by rcases z3 with rfl | rfl <;> decide
    have k2 : ¬ z = 0 := by rcases z3 with rfl | rfl <;> decide
    obtain ⟨T', t1, t2, t3, t4⟩ := laidAt (T := wr (wr T 0 12 (nI h)) 0 21 (nI aw)) hX (by rw [e1]; exact hX) (by rw [e1]; exact offE.refl _ _) e0
    refine ⟨z, M, T', by rw [if_neg k1], ?_, hR.scr (fun q g1 g2 => rfl) (fun _ _ => rfl) hR.2.1 t2 (keepR_of (fun k hk => by rw [t3, upd_ne (by omega), upd_ne (by omega)]) (fun q hq => (t4 q (by omega)).trans (wr_q _ _ (by omega) |>.trans (wr_q _ _ (by omega)))))⟩
    show fX12_wouldBe_L38_b (fX12_wouldBe_L38 4999) _ (nI s) a1 (nI N) z 0 0 = _
    unfold fX12_wouldBe_L38_b fX12_wouldBe_L165
    rw [if_neg k2, ite_self, g1N, b2_s t1, if_neg k1]
