/-! looks that lay all back: prove, judge -/
theorem lbL {X : mM} {n aw : Nat} (hn : n ≤ 7) (ha : aw < 128) : ∀ (d p fuel : Nat) (T : mM), p + d = n → T 1 0 = nI n → T 0 21 = nI aw → d < fuel →
    ∃ T', fX12_laysAllBack_L6 fuel T (nI p) = some (0, T') ∧ (∀ q, q ≠ 1 → T' q = T q) ∧ (∀ k, (∀ p', p ≤ p' → p' < n → k ≠ 12 + 5 * p') → T' 1 k = T 1 k) ∧ ∀ p', p ≤ p' → p' < n → T' 1 (12 + 5 * p') = nI (aw / 2 ^ p' % 2) := by
  intro d
  induction d with
  | zero =>
    intro p fuel T hp h0 h21 hf
    obtain ⟨f, rfl⟩ : ∃ j, fuel = j + 1 := ⟨fuel - 1, by omega⟩
    refine ⟨T, ?_, fun _ _ => rfl, fun _ _ => rfl, fun p' h1 h2 => absurd h1 (by omega)⟩
    show fX12_laysAllBack_L6_b (fX12_laysAllBack_L6 f) T (nI p) = _
    unfold fX12_laysAllBack_L6_b
    rw [g0N, c0N, h0, if_pos (nI_le (by omega) (by omega))]
  | succ d ih =>
    intro p fuel T hp h0 h21 hf
    obtain ⟨f, rfl⟩ : ∃ j, fuel = j + 1 := ⟨fuel - 1, by omega⟩
    obtain ⟨T', t1, t2, t3, t4⟩ := ih (p + 1) f (wr T 1 (12 + 5 * p) (nI (aw / 2 ^ p % 2))) (by omega) (by rw [wr_k _ (by omega)]; exact h0) (by rw [wr_q _ _ (by omega)]; exact h21) (by omega)
    refine ⟨T', ?_, fun q hq => (t2 q hq).trans (wr_q _ _ hq), fun k hk => ?_, fun p' h1 h2 => ?_⟩
    · show fX12_laysAllBack_L6_b (fX12_laysAllBack_L6 f) T (nI p) = _
      unfold fX12_laysAllBack_L6_b
      rw [g0N, c0N, h0, if_neg (nI_ge (by omega) (by omega)), h21, bit_at p (by omega) aw ha, b2_s (sets4 T (by omega) _), show 8 + 5 * p + 4 = 12 + 5 * p by omega, nI_1]
      exact t1
    · rw [t3 k (fun p' h1 h2 => hk p' (by omega) h2), wr_k _ (hk p (by omega) (by omega))]
    · by_cases e : p' = p
      · rw [t3 _ (fun p2 h1 h2 => by omega), e, wr_s]
      · exact t4 p' (by omega) h2
theorem thinksAll_at {X T : mM} {n aw h no li la : Nat} (hV : Rv X (T 1) n aw h no li la) : fX12_thinksAll T = some (0, wr (wr T 0 12 (nI h)) 0 21 (nI aw)) := by
  unfold fX12_thinksAll
  have e : wr T 0 12 (nI h) 1 = T 1 := wr_q _ _ (by omega)
  rw [b2_s (thinks_at hV.2.2.1.2.1), b1_s (awakeSet_at (X := X) (T := wr T 0 12 (nI h)) (n := n) (aw := aw) (h := h) (no := no) (li := li) (la := la) (by rw [e]; exact hV))]
theorem laidAll {X T0 T : mM} {n aw h aw' h' li li' : Nat} (h0 : Vx X (T0 1) n aw h li) (hT : Vx X (T 1) n aw' h' li') (ho : offE n (T0 1) (T 1)) (h12 : T 0 12 = nI h) (h21 : T 0 21 = nI aw) : ∃ T', fX12_laysAllBack T = some (0, T') ∧ T' 1 = T0 1 ∧ ∀ q, q ≠ 1 → T' q = T q := by
  obtain ⟨T', t1, t2, t3, t4⟩ := lbL (X := X) h0.1.1 (pow_le7 h0.1.1 h0.1.2.1) n 0 5000 (wr T 1 1 (T 0 12)) (by omega) (by rw [wr_k _ (by omega)]; exact hT.2.2.1.1) (by rw [wr_q _ _ (by omega)]; exact h21) (by have := h0.1.1; omega)
  refine ⟨T', ?_, ?_, fun q hq => (t2 q hq).trans (wr_q _ _ hq)⟩
  · unfold fX12_laysAllBack
    rw [b2_s (laysBack_at T)]
    exact t1
  · funext k
    by_cases kp : ∃ p, p < n ∧ k = 12 + 5 * p
    · obtain ⟨p, hp, rfl⟩ := kp
      rw [t4 p (by omega) hp, bit_of (h0.2.2.2.1 p hp)]
    · rw [t3 k (fun p _ hp e => kp ⟨p, hp, e⟩)]
      by_cases k1 : k = 1
      · rw [k1, wr_s, h12, h0.2.2.1.2.1]
      · rw [wr_k _ k1]
        exact ho k k1 (fun p hp e => kp ⟨p, hp, e⟩)
/-- the class's memory but for what is found anew, and rows -/
def eqD (M M' : mM) : Prop := (∀ q, q ≠ 16 → q < 63 → M' q = M q) ∧ ∀ k, 5 ≤ k → M' 16 k = M 16 k
theorem eqD.refl (M : mM) : eqD M M := ⟨fun _ _ _ => rfl, fun _ _ => rfl⟩
theorem eqD.trans {A B C : mM} (h : eqD A B) (g : eqD B C) : eqD A C := ⟨fun q h1 h2 => (g.1 q h1 h2).trans (h.1 q h1 h2), fun k hk => (g.2 k hk).trans (h.2 k hk)⟩
theorem eqK.D {A B : mM} (h : eqK A B) : eqD A B := ⟨fun q h1 h2 => h.1 q h1 (by omega), h.2⟩
theorem eqC.D {A B : mM} (h : eqC A B) : eqD A B := ⟨fun q h1 h2 => h.1 q h1 (by omega), h.2⟩
theorem eqD.X {A B : mM} (h : eqD A B) : eqX (nowC A) (nowC B) := ⟨congrFun (h.1 1 (by omega) (by omega)) 0, fun q h1 h2 _ => h.1 (1 + q) (by omega) (by omega), fun k hk => h.2 k hk⟩
theorem eqD.L {A B : mM} {t : Nat → Int32} (h : eqD A B) (hl : Rl (nowC A) t) : Rl (nowC B) t := by
  have e : ∀ q, q ≤ 14 → nowC B q = nowC A q := fun q hq => h.1 (1 + q) (by omega) (by omega)
  refine Rl_cpy hl ?_ (fun r _ => ?_) (fun j _ => ?_) (fun v h1 _ => h.2 v h1) (fun _ _ _ => rfl)
  · rw [e 7 (by omega)]; exact ⟨rfl, rfl, rfl⟩
  · rw [e 8 (by omega), e 9 (by omega), e 10 (by omega), e 11 (by omega)]; exact ⟨rfl, rfl, rfl, rfl⟩
  · rw [e 12 (by omega), e 13 (by omega), e 14 (by omega)]; exact ⟨rfl, rfl, rfl⟩
theorem eqD_wr (M : mM) {q : Nat} (h : 63 < q) (k : Nat) (v : Int32) : eqD M (wr M q k v) := ⟨fun q' h1 h3 => wr_q _ _ (by omega), fun k' _ => congrFun (wr_q _ _ (by omega)) k'⟩
theorem cSumD {M0 M : mM} {t : Nat → Int32} {n li h aw : Nat} (hC : Cc M0 t n li) (hK : eqD M0 M) (hS : Rs M) (hh : h < 24) (ha : aw < 128) : ∃ M', fX11_sumAt M (nI h) (nI aw) = some (SUM (nowC M0) h aw, M') ∧ eqK M M' ∧ eqD M0 M' ∧ Rs M' := by
  obtain ⟨M', m1, m2, m3⟩ := sumAt_at hS (hK.L hC.1) (hC.2.1.keep hK.X) hh ha
  exact ⟨M', by rw [m1, SUM_eq hK.X], m2, hK.trans m2.D, m3⟩
theorem cHourD {M0 M : mM} {t : Nat → Int32} {n li h aw : Nat} (hC : Cc M0 t n li) (hK : eqD M0 M) (hS : Rs M) (hh : h < 24) (ha : aw < 128) : ∃ M', fX11_hourBehind M (nI h) (nI aw) = some (nI (nextS (nowC M0) li h aw), M') ∧ eqK M M' ∧ eqD M0 M' ∧ Rs M' := by
  obtain ⟨M', m1, m2, m3, m4⟩ := cSumD hC hK hS hh ha
  refine ⟨M', ?_, m2, m3, m4⟩
  unfold fX11_hourBehind
  rw [b2_s m1, show M' 1 8 = nI li from (congrFun (m3.1 1 (by omega) (by omega)) 8).trans hC.2.2, b1_s (moved_at M' hh (turn3 _ _))]
  rfl
theorem c18D {M0 M : mM} {t : Nat → Int32} {n li : Nat} (hC : Cc M0 t n li) (hK : eqD M0 M) : M 1 0 = nI n ∧ M 1 8 = nI li :=
  ⟨(congrFun (hK.1 1 (by omega) (by omega)) 0).trans hC.2.1.2.1, (congrFun (hK.1 1 (by omega) (by omega)) 8).trans hC.2.2⟩
theorem Rel.scrRows {M T M' T' : mM} (hR : Rel M T) (h1 : ∀ q, q ≠ 0 → q ≠ 16 → q < 63 → M' q = M q) (h0 : M' 0 2 = M 0 2) (h2 : ∀ k, 5 ≤ k → M' 16 k = M 16 k) (hs : Rs M') (t1 : T' 1 = T 1) (t0 : ∀ k, k = 2 ∨ k = 5 ∨ k = 29 → T' 0 k = T 0 k) (tq : ∀ q, q = 2 ∨ q = 4 ∨ 10 ≤ q → T' q = T q) (hw : Rw M' T') : Rel M' T' := by
  obtain ⟨p, s, k, t, w, hh, a⟩ := id hR
  refine ⟨?_, hs, ?_, ?_, hw, ?_, ?_⟩
  · rw [t1]
    obtain ⟨⟨n, aw, hh, no, li, la, v1⟩, ⟨rp, v2⟩, v3⟩ := p
    have e : ∀ q, q ≤ 14 → nowC M' q = nowC M q := fun q hq => h1 (1 + q) (by omega) (by omega) (by omega)
    refine ⟨⟨n, aw, hh, no, li, la, ?_⟩, ⟨rp, ?_⟩, ?_⟩
    · unfold Rv Rvo at v1 ⊢
      rw [e 0 (by omega), e 1 (by omega), e 2 (by omega), e 3 (by omega), e 4 (by omega)]
      exact v1
    · unfold Rr at v2 ⊢
      rw [e 0 (by omega), e 5 (by omega), e 6 (by omega)]
      exact v2
    · refine Rl_cpy v3 ?_ (fun r _ => ?_) (fun j _ => ?_) (fun v g1 _ => h2 v g1) (fun _ _ _ => rfl)
      · rw [e 7 (by omega)]; exact ⟨rfl, rfl, rfl⟩
      · rw [e 8 (by omega), e 9 (by omega), e 10 (by omega), e 11 (by omega)]; exact ⟨rfl, rfl, rfl, rfl⟩
      · rw [e 12 (by omega), e 13 (by omega), e 14 (by omega)]; exact ⟨rfl, rfl, rfl⟩
  · unfold Rk
    rw [h0, t0 2 (by omega), tq 2 (by omega)]
    rcases k with k | ⟨k1, k2, k3⟩
    · exact Or.inl k
    · exact Or.inr ⟨k1, k2, Rp_eq (fun q hq => h1 (17 + q) (by omega) (by omega) (by omega)) k3⟩
  · unfold Rt
    rw [h1 33 (by omega) (by omega) (by omega), h1 43 (by omega) (by omega) (by omega), t0 5 (by omega), tq 4 (by omega)]
    exact t
  · unfold Rh
    rw [h1 57 (by omega) (by omega) (by omega), h1 58 (by omega) (by omega) (by omega), h1 59 (by omega) (by omega) (by omega), h1 60 (by omega) (by omega) (by omega), h1 61 (by omega) (by omega) (by omega), h1 62 (by omega) (by omega) (by omega), tq 10 (by omega), tq 11 (by omega), tq 12 (by omega), tq 13 (by omega), tq 14 (by omega), tq 15 (by omega)]
    exact hh
  · unfold Ra
    rw [h1 47 (by omega) (by omega) (by omega), h1 48 (by omega) (by omega) (by omega), t0 29 (by omega), tq 16 (by omega)]
    exact a
theorem rix3 (k : Nat) : nI k * 3 = nI (3 * k) ∧ (3 : Int32) * nI k = nI (3 * k) := by
  refine ⟨?_, pk_mul 3 k⟩
  rw [show nI k * 3 = nI (k * 3) from pk_mul k 3, Nat.mul_comm]
theorem nI_2 (a : Nat) : nI a + 2 = nI (a + 2) := nI_add a 2
/-- the rows of a PLAN: both write the same -/
theorem provB {M0 T0 : mM} {n li h0 aw0 N : Nat} (hC : Cc M0 (T0 1) n li) (hV0 : Vx (nowC M0) (T0 1) n aw0 h0 li) (l : List Nat) (hN : N ≤ 4) (hl : ∀ i, i < N → l.getD i 0 ≤ n) : ∀ (c k fuel fuel' h aw : Nat) (M T : mM), k + c = N → c < fuel → c < fuel' → eqD M0 M → Rs M → Vx (nowC M0) (T 1) n aw h li → offE n (T0 1) (T 1) → T 0 = upd (upd (T0 0) 12 (nI h0)) 21 (nI aw0) → (∀ q, q ≠ 0 → q ≠ 1 → q ≠ 3 → q ≠ 7 → q ≠ 9 → T q = T0 q) → (∀ i, i < N → M 66 i = nI (l.getD i 0)) → (∀ i, i < N → T 7 i = nI (l.getD i 0)) → (∀ j, j < 3 * k → M 67 j = T 9 j) →
    ∃ M' T', fX11_prove_L50 fuel M (nI N) (nI h) (nI aw) (nI k) = some (nI N, wr M' 0 12 (nI N)) ∧ fX12_prove_L29 fuel' T (nI N) (nI k) = some (nI N, wr T' 0 20 (nI N)) ∧ eqD M0 M' ∧ Rs M' ∧ T' 1 = T0 1 ∧ (T' 0 = upd (upd (T0 0) 12 (nI h0)) 21 (nI aw0)) ∧ (∀ q, q ≠ 0 → q ≠ 1 → q ≠ 3 → q ≠ 7 → q ≠ 9 → T' q = T0 q) ∧ ∀ j, j < 3 * N → M' 67 j = T' 9 j := by
  intro c
  induction c with
  | zero =>
    intro k fuel fuel' h aw M T hk hf hf' hK hS hV ho ht0 hq p1 p2 p3
    obtain ⟨f, rfl⟩ : ∃ j, fuel = j + 1 := ⟨fuel - 1, by omega⟩
    obtain ⟨f', rfl⟩ : ∃ j, fuel' = j + 1 := ⟨fuel' - 1, by omega⟩
    have h12 : T 0 12 = nI h0 := by rw [ht0, upd_ne (by omega), upd_eq]
    have h21 : T 0 21 = nI aw0 := by rw [ht0, upd_eq]
    obtain ⟨T', t1, t2, t3⟩ := laidAll hV0 hV ho h12 h21
    have ek : k = N := by omega
    subst ek
    refine ⟨M, T', ?_, ?_, hK, hS, t2, (t3 0 (by omega)).trans ht0, fun q a b d e g => (t3 q b).trans (hq q a b d e g), fun j hj => by rw [t3 9 (by omega)]; exact p3 j hj⟩
    · show fX11_prove_L50_b (fX11_prove_L50 f) M (nI k) (nI h) (nI aw) (nI k) = _
      unfold fX11_prove_L50_b
      rw [if_pos (nI_le (by omega) (by omega))]
    · show fX12_prove_L29_b (fX12_prove_L29 f') T (nI k) (nI k) = _
      unfold fX12_prove_L29_b
      rw [if_pos (nI_le (by omega) (by omega)), b2_s t1]
  | succ c ih =>
    intro k fuel fuel' h aw M T hk hf hf' hK hS hV ho ht0 hq p1 p2 p3
    obtain ⟨f, rfl⟩ : ∃ j, fuel = j + 1 := ⟨fuel - 1, by omega⟩
    obtain ⟨f', rfl⟩ : ∃ j, fuel' = j + 1 := ⟨fuel' - 1, by omega⟩
    have h7 := hV.1.1
    have hh := hV.1.2.2.1
    have ha := hV.1.2.1
    have a128 := pow_le7 h7 ha
    have hal := hl k (by omega)
    have hw' := actS_lt h7 ha hal
    have k1 : eqD M0 (wr M 67 (3 * k) (nI (l.getD k 0))) := hK.trans (eqD_wr M (by omega) _ _)
    obtain ⟨M1, m1, m2, m3, m4⟩ := cSumD hC k1 (Rs_wr hS (by omega) _ _) hh (pow_le7 h7 hw')
    have k2 : eqD M0 (wr M1 67 (3 * k + 1) (SUM (nowC M0) h (actS aw (l.getD k 0)))) := m3.trans (eqD_wr M1 (by omega) _ _)
    obtain ⟨M2, u1, u2, u3, u4⟩ := cHourD hC k2 (Rs_wr m4 (by omega) _ _) hh (pow_le7 h7 hw')
    obtain ⟨Ta, Tb, Tc, d1, d2, d3, d4, d5, d6, d7⟩ := mFwd hV hal
    have k3 : eqD M0 (wr M2 67 (3 * k + 2) (nI (nextS (nowC M0) li h (actS aw (l.getD k 0))))) := u3.trans (eqD_wr M2 (by omega) _ _)
    have e66 : ∀ i, i < N → wr M2 67 (3 * k + 2) (nI (nextS (nowC M0) li h (actS aw (l.getD k 0)))) 66 i = nI (l.getD i 0) := fun i hi => by
      rw [wr_q _ _ (by omega), u2.1 66 (by omega) (by omega), wr_q _ _ (by omega), m2.1 66 (by omega) (by omega), wr_q _ _ (by omega)]
      exact p1 i hi
    have e67 : ∀ j, wr M2 67 (3 * k + 2) (nI (nextS (nowC M0) li h (actS aw (l.getD k 0)))) 67 j = if j = 3 * k + 2 then nI (nextS (nowC M0) li h (actS aw (l.getD k 0))) else if j = 3 * k + 1 then SUM (nowC M0) h (actS aw (l.getD k 0)) else if j = 3 * k then nI (l.getD k 0) else M 67 j := fun j => by
      rw [wr_at, u2.1 67 (by omega) (by omega), wr_at, m2.1 67 (by omega) (by omega), wr_at]
      simp only [true_and]
    have t7 : Tc 7 = T 7 := d7 7 (by omega) (by omega)
    have tc1 : Tc 1 1 = nI (nextS (nowC M0) li h (actS aw (l.getD k 0))) := d5.2.2.1.2.1
    have f1 : ∀ v1 v2 v3 : Int32, wr (wr (wr Tc 9 (3 * k) v1) 9 (3 * k + 1) v2) 9 (3 * k + 2) v3 1 = Tc 1 := fun v1 v2 v3 => by rw [wr_q _ _ (by omega), wr_q _ _ (by omega), wr_q _ _ (by omega)]
    have fq : ∀ (v1 v2 v3 : Int32) q, q ≠ 9 → wr (wr (wr Tc 9 (3 * k) v1) 9 (3 * k + 1) v2) 9 (3 * k + 2) v3 q = Tc q := fun v1 v2 v3 q h9 => by rw [wr_q _ _ h9, wr_q _ _ h9, wr_q _ _ h9]
    obtain ⟨M', T', r1, r2, r3⟩ := ih (k + 1) f f' _ _ _ (wr (wr (wr Tc 9 (3 * k) (nI (l.getD k 0))) 9 (3 * k + 1) (SUM (nowC M0) h (actS aw (l.getD k 0)))) 9 (3 * k + 2) (nI (nextS (nowC M0) li h (actS aw (l.getD k 0))))) (by omega) (by omega) (by omega) k3 (Rs_wr u4 (by omega) _ _) (by rw [f1]; exact d5) (by rw [f1]; exact ho.trans d6) (by rw [fq _ _ _ 0 (by omega), d7 0 (by omega) (by omega)]; exact ht0) (fun q a b d e g => by rw [fq _ _ _ q g, d7 q b d]; exact hq q a b d e g) e66 (fun i hi => by rw [fq _ _ _ 7 (by omega), t7]; exact p2 i hi) (fun j hj => by
      rw [e67, wr_at, wr_at, wr_at, d7 9 (by omega) (by omega)]
      simp only [true_and]
      by_cases j2 : j = 3 * k + 2
      · rw [if_pos j2, if_pos j2]
      · rw [if_neg j2, if_neg j2]
        by_cases j1 : j = 3 * k + 1
        · rw [if_pos j1, if_pos j1]
        · rw [if_neg j1, if_neg j1]
          by_cases j0 : j = 3 * k
          · rw [if_pos j0, if_pos j0]
          · rw [if_neg j0, if_neg j0]; exact p3 j (by omega))
    refine ⟨M', T', ?_, ?_, r3⟩
    · show fX11_prove_L50_b (fX11_prove_L50 f) M (nI N) (nI h) (nI aw) (nI k) = _
      unfold fX11_prove_L50_b
      have g4 : ix (nI k) 4 = true := ix_nI (by omega) (by omega)
      have ga : ix (nI (3 * k)) 12 = true := ix_nI (by omega) (by omega)
      have gb : ix (nI (3 * k + 1)) 12 = true := ix_nI (by omega) (by omega)
      have gc : ix (nI (3 * k + 2)) 12 = true := ix_nI (by omega) (by omega)
      rw [if_neg (nI_ge (by omega) (by omega))]
      simp only [(rix3 k).1, nI_1, nI_2, gd_t g4, gd_t ga, gd_t gb, gd_t gc, tn_nI (show k < 2 ^ 31 by omega), tn_nI (show 3 * k < 2 ^ 31 by omega), tn_nI (show 3 * k + 1 < 2 ^ 31 by omega), tn_nI (show 3 * k + 2 < 2 ^ 31 by omega), p1 k (by omega), acted_at a128 (show l.getD k 0 ≤ 7 by omega)]
      rw [b2_s m1, b2_s u1]
      exact r1
    · show fX12_prove_L29_b (fX12_prove_L29 f') T (nI N) (nI k) = _
      unfold fX12_prove_L29_b
      have g4 : ix (nI k) 4 = true := ix_nI (by omega) (by omega)
      have ga : ix (nI (3 * k)) 12 = true := ix_nI (by omega) (by omega)
      have gb : ix (nI (3 * k + 1)) 12 = true := ix_nI (by omega) (by omega)
      have gc : ix (nI (3 * k + 2)) 12 = true := ix_nI (by omega) (by omega)
      have e1 : ∀ v1 v2 : Int32, wr (wr Tc 9 (3 * k) v1) 9 (3 * k + 1) v2 1 1 = nI (nextS (nowC M0) li h (actS aw (l.getD k 0))) := fun v1 v2 => by rw [wr_q _ _ (by omega), wr_q _ _ (by omega)]; exact tc1
      rw [if_neg (nI_ge (by omega) (by omega)), gd_t g4, tn_nI (by omega), p2 k (by omega), b2_s d1, b2_s d2, b1_s d3, b2_s d4]
      simp only [(rix3 k).2, nI_1, nI_2, gd_t g4, gd_t ga, gd_t gb, gd_t gc, g1N, c1N, tn_nI (show 3 * k < 2 ^ 31 by omega), tn_nI (show 3 * k + 1 < 2 ^ 31 by omega), tn_nI (show 3 * k + 2 < 2 ^ 31 by omega), t7, p2 k (by omega), e1]
      exact r2
theorem pm_prove {M T : mM} (hR : Rel M T) (a0 : Int32) : ∃ (r : Int32) (M' : mM) (T' : mM), fX11_prove M a0 = some (r, M') ∧ fX12_prove T a0 = some (r, T') ∧ Rel M' T' := by
  obtain ⟨n, aw, h, no, li, la, hV, hX, hC, a128, h24, n2, a5, h6, l8⟩ := hR.look
  unfold fX11_prove fX12_prove
  rw [isHour_eq]
  by_cases h1 : fX11_isHour a0 = 0
  · exact ⟨-1, M, T, by rw [if_pos h1], by rw [if_pos h1], hR⟩
  rw [if_neg h1, if_neg h1]
  obtain ⟨g, hg, rfl⟩ := isHour_yes h1
  obtain ⟨o, M1, T1, r1, r2, r3, r4, r5, r6, r7, r8⟩ := few_at hR hV hX hg
  rw [b2_s r1, b2_s r2]
  cases o with
  | none => exact ⟨-3, M1, T1, by rw [if_neg (show ¬ 0 ≤ noS (-3) none by decide)], by rw [if_neg (show ¬ 0 ≤ noS (-1) none by decide)], r7⟩
  | some p =>
    obtain ⟨j, l⟩ := p
    obtain ⟨q1, q2, q3, q4⟩ := r8 j l rfl
    rw [show noS (-3) (some (j, l)) = nI j from rfl, show noS (-1) (some (j, l)) = nI j from rfl, if_pos (nI_pos' (by omega)), if_pos (nI_pos' (by omega))]
    have hm5 : M1 1 5 = nI aw := (congrFun (r3.1 1 (by omega) (by omega)) 5).trans a5
    have hm6 : M1 1 6 = nI h := (congrFun (r3.1 1 (by omega) (by omega)) 6).trans h6
    have e1 : wr (wr T1 0 12 (nI h)) 0 21 (nI aw) 1 = T 1 := by rw [wr_q _ _ (by omega), wr_q _ _ (by omega)]; exact r5
    have hl : ∀ i, i < j → l.getD i 0 ≤ n := fun i hi => by
      rw [List.getD_eq_getElem?_getD, List.getElem?_eq_getElem (show i < l.length by omega)]
      exact q3 _ (List.getElem_mem _)
    obtain ⟨M2, T2, u1, u2, u3, u4, u5, u6, u7, u8⟩ := provB (T0 := T1) (by rw [r5]; exact hC) (by rw [r5]; exact hX) l q1 hl j 0 5000 5000 h aw M1 (wr (wr T1 0 12 (nI h)) 0 21 (nI aw)) (by omega) (by omega) (by omega) r3.D r4 (by rw [e1]; exact hX) (by rw [e1, r5]; exact offE.refl _ _) (by rw [wr_row, wr_row]) (fun q a b d e g => by rw [wr_q _ _ a, wr_q _ _ a]) (fun i hi => (q4 i hi).1) (fun i hi => by rw [wr_q _ _ (by omega), wr_q _ _ (by omega)]; exact (q4 i hi).2) (fun i hi => absurd hi (by omega))
    refine ⟨nI j, wr M2 0 12 (nI j), wr T2 0 20 (nI j), ?_, ?_, ?_⟩
    · rw [hm5, hm6]; exact u1
    · rw [b2_s (thinksAll_at (X := nowC M) (T := T1) (n := n) (aw := aw) (h := h) (no := no) (li := li) (la := la) (by rw [r5]; exact hV))]
      exact u2
    · refine hR.scrRows (fun q a b d => (wr_q _ _ a).trans (u3.1 q b d)) ?_ (fun k hk => (congrFun (wr_q _ _ (by omega)) k).trans (u3.2 k hk)) ?_ ((wr_q _ _ (by omega)).trans (u5.trans r5)) (fun k hk => ?_) (fun q hq => ?_) ⟨j, q1, wr_s _ _ _ _, wr_s _ _ _ _, fun i hi => ?_⟩
      · rw [wr_k _ (by omega)]; exact congrFun (u3.1 0 (by omega) (by omega)) 2
      · exact u4.keep (wr_q _ _ (by omega)) ⟨congrFun (wr_q _ _ (by omega)) 0, fun q a b _ => wr_q _ _ (by omega), fun k _ => congrFun (wr_q _ _ (by omega)) k⟩
      · rw [wr_k _ (by omega), u6, upd_ne (by omega), upd_ne (by omega), r6 0 (by omega) (by omega) (by omega)]
      · rw [wr_q _ _ (by omega), u7 q (by omega) (by omega) (by omega) (by omega) (by omega)]
        exact r6 q (by omega) (by omega) (by omega)
      · rw [wr_q _ _ (by omega), wr_q _ _ (by omega)]; exact u8 i hi
