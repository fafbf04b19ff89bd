/-! ACTS, ways, hours -/
def actS (aw a : Nat) : Nat := if a = 0 then aw else flipS aw (a - 1)
set_option maxRecDepth 100000 in
theorem flip_lt : ∀ p, p < 7 → ∀ a, a < 128 → flipS a p < 128 ∧ flipS (flipS a p) p = a := by decide +kernel
theorem actS_lt {n aw a : Nat} (hn : n ≤ 7) (ha : aw < 2 ^ n) (h : a ≤ n) : actS aw a < 2 ^ n := by
  unfold actS
  by_cases z : a = 0
  · rw [if_pos z]; exact ha
  · rw [if_neg z]; exact (flip_bit (a - 1) (by omega) aw (pow_le7 hn ha)).2 n (by omega) (by omega) ha
theorem actS_back {aw a : Nat} (ha : aw < 128) (h : a ≤ 7) : actS (actS aw a) a = aw := by
  unfold actS
  by_cases z : a = 0
  · rw [if_pos z, if_pos z]
  · rw [if_neg z, if_neg z]; exact (flip_lt (a - 1) (by omega) aw ha).2
theorem acted_at {aw a : Nat} (ha : aw < 128) (h : a ≤ 7) : fX11_acted (nI aw) (nI a) = nI (actS aw a) := by
  unfold fX11_acted actS
  by_cases z : a = 0
  · rw [if_pos z, z, if_pos (show nI 0 = 0 from rfl)]
  · rw [if_neg z, if_neg (nI_ne0 (by omega) (by omega)), show nI a - 1 = nI (a - 1) from pk_sub (b := 1) (by omega), bit_xor (a - 1) (by omega) aw ha]
theorem Vx.act {X : mM} {t : Nat → Int32} {n aw h li p : Nat} (hV : Vx X t n aw h li) (hp : p < n) : Vx X (upd t (12 + 5 * p) (nI (flipS aw p / 2 ^ p % 2))) n (flipS aw p) h li := by
  obtain ⟨a, b, c, hv, hl⟩ := hV
  have fb := flip_bit p (by omega) aw (pow_le7 a.1 a.2.1)
  refine ⟨⟨a.1, fb.2 n (by omega) hp a.2.1, a.2.2⟩, b, ⟨by rw [upd_ne (by omega)]; exact c.1, by rw [upd_ne (by omega)]; exact c.2.1, by rw [upd_ne (by omega)]; exact c.2.2⟩, fun p' hp' => ?_, Rl_eq (fun _ _ _ => rfl) (fun k hk _ => upd_ne (by omega)) hl⟩
  obtain ⟨k, w, g, c', x1, x2, z1, z2, z3, z4, z5⟩ := hv p' hp'
  refine ⟨k, w, g, c', x1, x2, by rw [upd_ne (by omega)]; exact z1, by rw [upd_ne (by omega)]; exact z2, by rw [upd_ne (by omega)]; exact z3, by rw [upd_ne (by omega)]; exact z4, ?_⟩
  by_cases e : p' = p
  · rw [e, upd_eq]
  · rw [upd_ne (by omega), fb.1 p' (by omega), if_neg e]; exact z5
theorem does_at {X T : mM} {n aw h li a : Nat} (hV : Vx X (T 1) n aw h li) (ha : a ≤ n) : ∃ T', fX12_does T (nI a) = some (0, T') ∧ Vx X (T' 1) n (actS aw a) h li ∧ offE n (T 1) (T' 1) ∧ ∀ q, q ≠ 1 → T' q = T q := by
  have h7 := hV.1.1
  have a128 := pow_le7 h7 hV.1.2.1
  unfold fX12_does actS
  by_cases z : a = 0
  · subst z
    exact ⟨T, by rw [if_pos (show nI 0 ≤ 0 by decide)], by rw [if_pos rfl]; exact hV, offE.refl _ _, fun _ _ => rfl⟩
  · have hp : a - 1 < n := by omega
    have fb := (flip_bit (a - 1) (by omega) aw a128).1 (a - 1) (by omega)
    rw [if_pos rfl] at fb
    have e1 : (1 : Int32) - nI (aw / 2 ^ (a - 1) % 2) = nI (flipS aw (a - 1) / 2 ^ (a - 1) % 2) := by
      rw [fb]
      exact pk_sub (a := 1) (by omega)
    refine ⟨wr T 1 (12 + 5 * (a - 1)) (nI (flipS aw (a - 1) / 2 ^ (a - 1) % 2)), ?_, ?_, ?_, fun q hq => wr_q _ _ hq⟩
    · rw [if_neg (nI_nle (by omega) (by omega)), show nI a - 1 = nI (a - 1) from pk_sub (b := 1) (by omega), b1_s (its4 T (by omega)), show 8 + 5 * (a - 1) + 4 = 12 + 5 * (a - 1) by omega, bit_of (hV.2.2.2.1 (a - 1) hp), e1, b2_s (sets4 T (by omega) _), show 8 + 5 * (a - 1) + 4 = 12 + 5 * (a - 1) by omega]
    · rw [if_neg z, wr_row]; exact hV.act hp
    · rw [wr_row]; exact offE_bit hp _ _
/-- an ACT and a NOON in the model -/
theorem mFwd {X T : mM} {n aw h li a : Nat} (hV : Vx X (T 1) n aw h li) (ha : a ≤ n) : ∃ T1 T2 T3 : mM, fX12_does T (nI a) = some (0, T1) ∧ fX12_sumNow T1 = some (SUM X h (actS aw a), T2) ∧ fX12_moveBy T2 (SUM X h (actS aw a)) = some (byS X li h (actS aw a)) ∧ fX12_turns T2 (byS X li h (actS aw a)) = some (0, T3) ∧ Vx X (T3 1) n (actS aw a) (nextS X li h (actS aw a)) li ∧ offE n (T 1) (T3 1) ∧ ∀ q, q ≠ 1 → q ≠ 3 → T3 q = T q := by
  obtain ⟨T1, d1, d2, d3, d4⟩ := does_at hV ha
  obtain ⟨T2, t1, t2, t3, t4, t5, t6, t7⟩ := mNoon d2
  exact ⟨T1, T2, _, d1, t1, t3, t4, t5, d3.trans t6, fun q h1 h3 => (t7 q h1 h3).trans (d4 q h1)⟩
/-- and back -/
theorem mBack {X T : mM} {n aw h li a : Nat} (ha : a ≤ n) (hw : aw < 2 ^ n) (hh : h < 24) (hV : Vx X (T 1) n (actS aw a) (nextS X li h (actS aw a)) li) : ∃ T1 T2 : mM, fX12_turns T (-(byS X li h (actS aw a))) = some (0, T1) ∧ fX12_does T1 (nI a) = some (0, T2) ∧ Vx X (T2 1) n aw h li ∧ offE n (T 1) (T2 1) ∧ ∀ q, q ≠ 1 → T2 q = T q := by
  have h7 := hV.1.1
  have hn : nextS X li h (actS aw a) < 24 := hV.1.2.2.1
  have e1 : mvS (nextS X li h (actS aw a)) (-(byS X li h (actS aw a))) = h := mvS_back hh (byS3 _ _ _ _)
  have t1 := turns_at hV.2.2.1.2.1 hn (neg3 (byS3 X li h (actS aw a)))
  rw [e1] at t1
  have v1 : Vx X (wr T 1 1 (nI h) 1) n (actS aw a) h li := by rw [wr_row]; exact hV.hour hh
  obtain ⟨T2, d1, d2, d3, d4⟩ := does_at v1 ha
  rw [actS_back (pow_le7 h7 hw) (by omega)] at d2
  refine ⟨_, T2, t1, d1, d2, ?_, fun q hq => (d4 q hq).trans (wr_q _ _ hq)⟩
  rw [wr_row] at d3
  exact (offE_hour n _ _).trans d3
/-- the class's memory but for what is found anew each time -/
def eqC (M M' : mM) : Prop := (∀ q, q ≠ 16 → q < 63 ∨ 67 ≤ q → M' q = M q) ∧ ∀ k, 5 ≤ k → M' 16 k = M 16 k
theorem eqC.refl (M : mM) : eqC M M := ⟨fun _ _ _ => rfl, fun _ _ => rfl⟩
theorem eqC.trans {A B C : mM} (h : eqC A B) (g : eqC B C) : eqC A C := ⟨fun q h1 h2 => (g.1 q h1 h2).trans (h.1 q h1 h2), fun k hk => (g.2 k hk).trans (h.2 k hk)⟩
theorem eqK.C {A B : mM} (h : eqK A B) : eqC A B := ⟨fun q h1 h2 => h.1 q h1 (by omega), h.2⟩
theorem eqC.X {A B : mM} (h : eqC A B) : eqX (nowC A) (nowC B) := ⟨congrFun (h.1 1 (by omega) (by omega)) 0, fun q h1 h2 _ => h.1 (1 + q) (by omega) (by omega), fun k hk => h.2 k hk⟩
theorem eqC.L {A B : mM} {t : Nat → Int32} (h : eqC A B) (hl : Rl (nowC A) t) : Rl (nowC B) t := by
  have e : ∀ q, q ≤ 14 → nowC B q = nowC A q := fun q hq => h.1 (1 + q) (by omega) (by omega)
  refine Rl_cpy hl ?_ (fun r _ => ?_) (fun j _ => ?_) (fun v h1 _ => h.2 v h1) (fun _ _ _ => rfl)
  · rw [e 7 (by omega)]; exact ⟨rfl, rfl, rfl⟩
  · rw [e 8 (by omega), e 9 (by omega), e 10 (by omega), e 11 (by omega)]; exact ⟨rfl, rfl, rfl, rfl⟩
  · rw [e 12 (by omega), e 13 (by omega), e 14 (by omega)]; exact ⟨rfl, rfl, rfl⟩
theorem eqC_wr (M : mM) {q : Nat} (h : 63 < q) (h2 : q < 67) (k : Nat) (v : Int32) : eqC M (wr M q k v) := ⟨fun q' h1 h3 => wr_q _ _ (by omega), fun k' _ => congrFun (wr_q _ _ (by omega)) k'⟩
theorem cSumC {M0 M : mM} {t : Nat → Int32} {n li h aw : Nat} (hC : Cc M0 t n li) (hK : eqC M0 M) (hS : Rs M) (hh : h < 24) (ha : aw < 128) : ∃ M', fX11_sumAt M (nI h) (nI aw) = some (SUM (nowC M0) h aw, M') ∧ eqK M M' ∧ eqC M0 M' ∧ Rs M' := by
  obtain ⟨M', m1, m2, m3⟩ := sumAt_at hS (hK.L hC.1) (hC.2.1.keep hK.X) hh ha
  exact ⟨M', by rw [m1, SUM_eq hK.X], m2, hK.trans m2.C, m3⟩
theorem cHourC {M0 M : mM} {t : Nat → Int32} {n li h aw : Nat} (hC : Cc M0 t n li) (hK : eqC M0 M) (hS : Rs M) (hh : h < 24) (ha : aw < 128) : ∃ M', fX11_hourBehind M (nI h) (nI aw) = some (nI (nextS (nowC M0) li h aw), M') ∧ eqK M M' ∧ eqC M0 M' ∧ Rs M' := by
  obtain ⟨M', m1, m2, m3, m4⟩ := cSumC hC hK hS hh ha
  refine ⟨M', ?_, m2, m3, m4⟩
  unfold fX11_hourBehind
  rw [b2_s m1, show M' 1 8 = nI li from (congrFun (m3.1 1 (by omega) (by omega)) 8).trans hC.2.2, b1_s (moved_at M' hh (turn3 _ _))]
  rfl
theorem Rs_wr {M : mM} (hS : Rs M) {q : Nat} (h : 63 < q) (k : Nat) (v : Int32) : Rs (wr M q k v) :=
  hS.keep (wr_q _ _ (by omega)) ⟨congrFun (wr_q _ _ (by omega)) 0, fun j h1 h2 _ => wr_q _ _ (by omega), fun j _ => congrFun (wr_q _ _ (by omega)) j⟩
theorem Rs_eqC {M M' : mM} (hS : Rs M) (h : eqC M M') (h63 : M' 63 = M 63) : Rs M' := hS.keep h63 h.X
theorem c18 {M0 M : mM} {t : Nat → Int32} {n li : Nat} (hC : Cc M0 t n li) (hK : eqC M0 M) : M 1 0 = nI n ∧ M 1 8 = nI li :=
  ⟨(congrFun (hK.1 1 (by omega) (by omega)) 0).trans hC.2.1.2.1, (congrFun (hK.1 1 (by omega) (by omega)) 8).trans hC.2.2⟩
-- ways
/-- how many PLANS end where: both count alike -/
theorem endsB {M0 : mM} {t : Nat → Int32} {n li : Nat} (hC : Cc M0 t n li) : ∀ (m d d' h aw : Nat) (M T : mM), m < d → m < d' → m ≤ 4 → eqC M0 M → Rs M → Vx (nowC M0) (T 1) n aw h li → (∀ k, k < 24 → M 65 k = T 8 k) →
    ∃ M' T', fX11_countEnds d M (nI h) (nI aw) (nI m) = some (0, M') ∧ fX12_plans d' T (nI m) = some (0, T') ∧ eqC M0 M' ∧ Rs M' ∧ T' 1 = T 1 ∧ (∀ q, q ≠ 1 → q ≠ 3 → q ≠ 8 → T' q = T q) ∧ ∀ k, k < 24 → M' 65 k = T' 8 k := by
  intro m
  induction m with
  | zero =>
    intro d d' h aw M T hd hd' _ hK hS hV hE
    obtain ⟨d, rfl⟩ : ∃ j, d = j + 1 := ⟨d - 1, by omega⟩
    obtain ⟨d', rfl⟩ : ∃ j, d' = j + 1 := ⟨d' - 1, by omega⟩
    have hh := hV.1.2.2.1
    refine ⟨wr M 65 h (M 65 h + 1), wr T 8 h (T 8 h + 1), ?_, ?_, hK.trans (eqC_wr M (by omega) (by omega) _ _), Rs_wr hS (by omega) _ _, wr_q _ _ (by omega), fun q _ _ h8 => wr_q _ _ h8, fun k hk => ?_⟩
    · show fX11_countEnds_b (fX11_countEnds d) M (nI h) (nI aw) (nI 0) = _
      unfold fX11_countEnds_b
      rw [if_neg (show ¬ (0 : Int32) < nI 0 by decide), gd_t (ix_nI hh (by omega)), gd_t (ix_nI hh (by omega)), tn_nI (by omega)]
    · show fX12_plans_b (fX12_plans d') T (nI 0) = _
      unfold fX12_plans_b
      rw [if_pos (show nI 0 = 0 from rfl), g1N, c1N, hV.2.2.1.2.1, gd_t (ix_nI hh (by omega)), gd_t (ix_nI hh (by omega)), tn_nI (by omega)]
    · rw [wr_at, wr_at, hE h hh, hE k hk]
      by_cases e : k = h
      · rw [if_pos ⟨rfl, e⟩, if_pos ⟨rfl, e⟩]
      · rw [if_neg (fun q => e q.2), if_neg (fun q => e q.2)]
  | succ m ih =>
    intro d d' h aw M T hd hd' hm4 hK hS hV hE
    obtain ⟨d, rfl⟩ : ∃ j, d = j + 1 := ⟨d - 1, by omega⟩
    obtain ⟨d', rfl⟩ : ∃ j, d' = j + 1 := ⟨d' - 1, by omega⟩
    have hh := hV.1.2.2.1
    have h7 := hV.1.1
    have hw := hV.1.2.1
    have a128 := pow_le7 h7 hw
    have e1 : nI (m + 1) - 1 = nI m := nI_pred m
    -- through the acts
    have loop : ∀ (c a fuel fuel' : Nat) (M1 T1 : mM), a + c = n + 1 → c < fuel → c < fuel' → eqC M0 M1 → Rs M1 → T1 1 = T 1 → (∀ q, q ≠ 1 → q ≠ 3 → q ≠ 8 → T1 q = T q) → (∀ k, k < 24 → M1 65 k = T1 8 k) →
        ∃ M' T', fX11_countEnds_L18 (fX11_countEnds d) fuel M1 (nI h) (nI aw) (nI (m + 1)) (nI a) = some (0, M') ∧ fX12_plans_L22 (fX12_plans d') fuel' T1 (nI (m + 1)) (nI a) = some (0, T') ∧ eqC M0 M' ∧ Rs M' ∧ T' 1 = T 1 ∧ (∀ q, q ≠ 1 → q ≠ 3 → q ≠ 8 → T' q = T q) ∧ ∀ k, k < 24 → M' 65 k = T' 8 k := by
      intro c
      induction c with
      | zero =>
        intro a fuel fuel' M1 T1 hac hf hf' k1 s1 t1 q1 e1'
        obtain ⟨f, rfl⟩ : ∃ j, fuel = j + 1 := ⟨fuel - 1, by omega⟩
        obtain ⟨f', rfl⟩ : ∃ j, fuel' = j + 1 := ⟨fuel' - 1, by omega⟩
        refine ⟨M1, T1, ?_, ?_, k1, s1, t1, q1, e1'⟩
        · show fX11_countEnds_L18_b (fX11_countEnds d) (fX11_countEnds_L18 (fX11_countEnds d) f) M1 (nI h) (nI aw) (nI (m + 1)) (nI a) = _
          unfold fX11_countEnds_L18_b
          rw [(c18 hC k1).1, if_pos (nI_lt (by omega) (by omega))]
        · show fX12_plans_L22_b (fX12_plans d') (fX12_plans_L22 (fX12_plans d') f') T1 (nI (m + 1)) (nI a) = _
          unfold fX12_plans_L22_b
          rw [g0N, c0N, t1, hV.2.2.1.1, if_pos (nI_lt (by omega) (by omega))]
      | succ c ihc =>
        intro a fuel fuel' M1 T1 hac hf hf' k1 s1 t1 q1 e1'
        obtain ⟨f, rfl⟩ : ∃ j, fuel = j + 1 := ⟨fuel - 1, by omega⟩
        obtain ⟨f', rfl⟩ : ∃ j, fuel' = j + 1 := ⟨fuel' - 1, by omega⟩
        have han : a ≤ n := by omega
        have hw' := actS_lt h7 hw han
        have V1 : Vx (nowC M0) (T1 1) n aw h li := by rw [t1]; exact hV
        obtain ⟨Ta, Tb, Tc, d1, d2, d3, d4, d5, d6, d7⟩ := mFwd V1 han
        obtain ⟨M2, m1, m2, m3, m4⟩ := cSumC hC k1 s1 hh (pow_le7 h7 hw')
        have hE2 : ∀ k, k < 24 → M2 65 k = Tc 8 k := fun k hk => by
          rw [m2.1 65 (by omega) (by omega), d7 8 (by omega) (by omega)]; exact e1' k hk
        obtain ⟨M3, T3, r1, r2, r3, r4, r5, r6, r7⟩ := ih d d' (nextS (nowC M0) li h (actS aw a)) (actS aw a) M2 Tc (by omega) (by omega) (by omega) m3 m4 d5 hE2
        have V3 : Vx (nowC M0) (T3 1) n (actS aw a) (nextS (nowC M0) li h (actS aw a)) li := by rw [r5]; exact d5
        obtain ⟨Td, Te, b1', b2', b3, b4, b5⟩ := mBack han hw hh V3
        have eT : Te 1 = T 1 := by
          have o1 : offE n (T1 1) (Tc 1) := d6
          have o2 : offE n (T3 1) (Te 1) := b4
          rw [r5] at o2
          rw [t1] at o1
          exact Vx_uniq hV b3 (o1.trans o2)
        obtain ⟨M', T', u1, u2, u3⟩ := ihc (a + 1) f f' M3 Te (by omega) (by omega) (by omega) r3 r4 eT (fun q h1 h3 h8 => (b5 q h1).trans ((r6 q h1 h3 h8).trans ((d7 q h1 h3).trans (q1 q h1 h3 h8)))) (fun k hk => by rw [b5 8 (by omega)]; exact r7 k hk)
        refine ⟨M', T', ?_, ?_, u3⟩
        · show fX11_countEnds_L18_b (fX11_countEnds d) (fX11_countEnds_L18 (fX11_countEnds d) f) M1 (nI h) (nI aw) (nI (m + 1)) (nI a) = _
          unfold fX11_countEnds_L18_b
          rw [(c18 hC k1).1, if_neg (nI_nlt (by omega) (by omega)), acted_at a128 (by omega)]
          have eB : fX11_countEndsBehind (fX11_countEnds d) M1 (nI h) (nI (actS aw a)) (nI (m + 1)) = some (0, M3) := by
            unfold fX11_countEndsBehind
            rw [b2_s m1, (c18 hC m3).2, b1_s (moved_at M2 hh (turn3 _ _)), e1]
            exact b2_s r1
          rw [b2_s eB, nI_1]
          exact u1
        · show fX12_plans_L22_b (fX12_plans d') (fX12_plans_L22 (fX12_plans d') f') T1 (nI (m + 1)) (nI a) = _
          unfold fX12_plans_L22_b
          rw [g0N, c0N, t1, hV.2.2.1.1, if_neg (nI_nlt (by omega) (by omega)), b2_s d1, b2_s d2, b1_s d3, b2_s d4, e1, b2_s r2, b2_s b1', b2_s b2', nI_1]
          exact u2
    obtain ⟨M', T', u1, u2, u3⟩ := loop (n + 1) 0 5000 5000 M T (by omega) (by omega) (by omega) hK hS rfl (fun _ _ _ _ => rfl) hE
    refine ⟨M', T', ?_, ?_, u3⟩
    · show fX11_countEnds_b (fX11_countEnds d) M (nI h) (nI aw) (nI (m + 1)) = _
      unfold fX11_countEnds_b
      rw [if_pos (show (0 : Int32) < nI (m + 1) from nI_lt (a := 0) (by omega) (by omega))]
      exact u1
    · show fX12_plans_b (fX12_plans d') T (nI (m + 1)) = _
      unfold fX12_plans_b
      rw [if_neg (nI_ne0 (by omega) (by omega))]
      exact u2
theorem forgetsL : ∀ (d j fuel : Nat) (T : mM), j + d = 24 → d < fuel → fX12_forgets_L2 fuel T (nI j) = some (0, va_up T 8 (fun k => if j ≤ k ∧ k < 24 then 0 else T 8 k)) := by
  intro d
  induction d with
  | zero =>
    intro j fuel T h hf
    obtain ⟨n, rfl⟩ : ∃ n, fuel = n + 1 := ⟨fuel - 1, by omega⟩
    show fX12_forgets_L2_b (fX12_forgets_L2 n) T (nI j) = _
    unfold fX12_forgets_L2_b
    rw [if_pos (show (24 : Int32) ≤ nI j from nI_le (a := 24) (by omega) (by omega))]
    have e1 : va_up T 8 (fun k => if j ≤ k ∧ k < 24 then 0 else T 8 k) = T := by
      funext q k
      by_cases hq : q = 8
      · subst hq; rw [va_up_self, if_neg (by omega)]
      · rw [va_up_ne _ _ hq]
    rw [e1]
  | succ d ih =>
    intro j fuel T h hf
    obtain ⟨n, rfl⟩ : ∃ n, fuel = n + 1 := ⟨fuel - 1, by omega⟩
    show fX12_forgets_L2_b (fX12_forgets_L2 n) T (nI j) = _
    unfold fX12_forgets_L2_b
    rw [if_neg (show ¬ (24 : Int32) ≤ nI j from nI_ge (b := 24) (by omega) (by omega)), gd_t (ix_nI (by omega) (by omega)), tn_nI (by omega), nI_1, ih (j + 1) n _ (by omega) (by omega)]
    congr 2
    funext q k
    by_cases hq : q = 8
    · subst hq
      rw [va_up_self, va_up_self]
      by_cases hk : k = j
      · subst hk
        rw [if_neg (by omega), wr_s, if_pos (by omega)]
      · rw [wr_k _ hk]
        by_cases h1 : j + 1 ≤ k ∧ k < 24
        · rw [if_pos h1, if_pos (by omega)]
        · rw [if_neg h1, if_neg (by omega)]
    · rw [va_up_ne _ _ hq, va_up_ne _ _ hq, wr_q _ _ hq]
/-- both count the ends of all PLANS of m NOONS -/
theorem ends_at {M T : mM} (hR : Rel M T) {m : Nat} (hm : m ≤ 4) : ∃ M' T1 T', fX11_findEnds M (nI m) = some (0, M') ∧ fX12_forgets T = some (0, T1) ∧ fX12_plans 6 T1 (nI m) = some (0, T') ∧ Rel M' T' ∧ ∀ k, k < 24 → M' 65 k = T' 8 k := by
  obtain ⟨n, aw, h, no, li, la, hV, hX, hC, a128, h24, n2, a5, h6, l8⟩ := hR.look
  have f65 : fJ7_fill_53178C_q65 M 0 = some (0, va_up M 65 (fun k => if 0 ≤ k ∧ k < 24 then 0 else M 65 k)) := by
    unfold fJ7_fill_53178C_q65
    exact fill65 24 5000 0 24 M 0 (by omega) (by omega) (by omega)
  have k1 : eqC M (va_up M 65 (fun k => if 0 ≤ k ∧ k < 24 then 0 else M 65 k)) := ⟨fun q h1 h2 => va_up_ne _ _ (by omega), fun k _ => congrFun (va_up_ne _ _ (by omega)) k⟩
  have s1 := Rs_eqC hR.2.1 k1 (va_up_ne _ _ (by omega))
  have e1 : va_up T 8 (fun k => if 0 ≤ k ∧ k < 24 then 0 else T 8 k) 1 = T 1 := va_up_ne _ _ (by omega)
  obtain ⟨M', T', r1, r2, r3, r4, r5, r6, r7⟩ := endsB hC m 6 6 h aw (va_up M 65 (fun k => if 0 ≤ k ∧ k < 24 then 0 else M 65 k)) (va_up T 8 (fun k => if 0 ≤ k ∧ k < 24 then 0 else T 8 k)) (by omega) (by omega) hm k1 s1 (by rw [e1]; exact hX) (fun k hk => by rw [va_up_self, va_up_self, if_pos (by omega), if_pos (by omega)])
  refine ⟨M', _, T', ?_, forgetsL 24 0 5000 T (by omega) (by omega), r2, ?_, r7⟩
  · unfold fX11_findEnds
    rw [b2_s f65, va_up_ne _ _ (by omega), h6, a5, b2_s r1]
  · exact hR.scr (fun q g1 g2 => r3.1 q g1 (by omega)) r3.2 r4 (r5.trans e1) (keepR_of (fun k hk => by rw [r6 0 (by omega) (by omega) (by omega), va_up_ne _ _ (by omega)]) (fun q hq => by rw [r6 q (by omega) (by omega) (by omega), va_up_ne _ _ (by omega)]))
theorem pm_ways {M T : mM} (hR : Rel M T) (a0 : Int32) (a1 : Int32) : ∃ (r : Int32) (M' : mM) (T' : mM), fX11_ways M a0 a1 = some (r, M') ∧ fX12_ways T a0 a1 = some (r, T') ∧ Rel M' T' := by
  unfold fX11_ways fX12_ways
  rw [isHour_eq, show fX12_in (Int32.toInt64 a1) 0 4 = fX11_isIn a1 0 4 from in_eq a1 0 4]
  by_cases h1 : fX11_isHour a0 = 0
  · exact ⟨-1, M, T, by rw [if_pos h1], by rw [if_pos h1], hR⟩
  rw [if_neg h1, if_neg h1]
  by_cases h2 : fX11_isIn a1 0 4 = 0
  · exact ⟨-1, M, T, by rw [if_pos h2], by rw [if_pos h2], hR⟩
  rw [if_neg h2, if_neg h2]
  obtain ⟨g, hg, rfl⟩ := isHour_yes h1
  obtain ⟨m, -, hm, rfl⟩ := isIn_yes (a := 0) (b := 4) (by omega) (by omega) h2
  obtain ⟨M', T1, T', r1, r2, r3, r4, r5⟩ := ends_at hR hm
  refine ⟨M' 65 g, M', T', ?_, ?_, r4⟩
  · rw [b2_s r1, gd_t (ix_nI hg (by omega)), tn_nI (by omega)]
  · rw [b2_s r2, b2_s r3, gd_t (ix_nI hg (by omega)), tn_nI (by omega), r5 g hg]
theorem hoursL {M T : mM} (hE : ∀ k, k < 24 → M 65 k = T 8 k) : ∀ (d j fuel fuel' : Nat) (x : Int32), j + d = 24 → d < fuel → d < fuel' → ∃ r, fX11_hours_L20 fuel M x (nI j) = some (r, M) ∧ fX12_hours_L27 fuel' T x (nI j) = some (r, T) := by
  intro d
  induction d with
  | zero =>
    intro j fuel fuel' x h hf hf'
    obtain ⟨f, rfl⟩ : ∃ n, fuel = n + 1 := ⟨fuel - 1, by omega⟩
    obtain ⟨f', rfl⟩ : ∃ n, fuel' = n + 1 := ⟨fuel' - 1, by omega⟩
    refine ⟨x, ?_, ?_⟩
    · show fX11_hours_L20_b (fX11_hours_L20 f) M x (nI j) = _
      unfold fX11_hours_L20_b
      rw [if_pos (show (24 : Int32) ≤ nI j from nI_le (a := 24) (by omega) (by omega))]
    · show fX12_hours_L27_b (fX12_hours_L27 f') T x (nI j) = _
      unfold fX12_hours_L27_b
      rw [if_pos (show (24 : Int32) ≤ nI j from nI_le (a := 24) (by omega) (by omega))]
  | succ d ih =>
    intro j fuel fuel' x h hf hf'
    obtain ⟨f, rfl⟩ : ∃ n, fuel = n + 1 := ⟨fuel - 1, by omega⟩
    obtain ⟨f', rfl⟩ : ∃ n, fuel' = n + 1 := ⟨fuel' - 1, by omega⟩
    have h24 : ¬ (24 : Int32) ≤ nI j := nI_ge (b := 24) (by omega) (by omega)
    obtain ⟨r, r1, r2⟩ := ih (j + 1) f f' (if M 65 j ≤ 0 then x else x ||| (1 <<< (nI j &&& 31))) (by omega) (by omega) (by omega)
    refine ⟨r, ?_, ?_⟩
    · show fX11_hours_L20_b (fX11_hours_L20 f) M x (nI j) = _
      unfold fX11_hours_L20_b
      rw [if_neg h24, gd_t (ix_nI (by omega) (by omega)), tn_nI (by omega), nI_1]
      by_cases z : M 65 j ≤ 0
      · rw [if_pos z] at r1 ⊢; exact r1
      · rw [if_neg z] at r1 ⊢; exact r1
    · show fX12_hours_L27_b (fX12_hours_L27 f') T x (nI j) = _
      unfold fX12_hours_L27_b
      rw [if_neg h24, gd_t (ix_nI (by omega) (by omega)), tn_nI (by omega), nI_1, Int32.or_zero, ← hE j (by omega)]
      by_cases z : M 65 j ≤ 0
      · rw [if_pos z] at r2 ⊢; exact r2
      · rw [if_neg z] at r2 ⊢; exact r2
theorem pm_hours {M T : mM} (hR : Rel M T) (a0 : Int32) : ∃ (r : Int32) (M' : mM) (T' : mM), fX11_hours M a0 = some (r, M') ∧ fX12_hours T a0 = some (r, T') ∧ Rel M' T' := by
  unfold fX11_hours fX12_hours
  rw [show fX12_in (Int32.toInt64 a0) 0 4 = fX11_isIn a0 0 4 from in_eq a0 0 4]
  by_cases h2 : fX11_isIn a0 0 4 = 0
  · exact ⟨-1, M, T, by rw [if_pos h2], by rw [if_pos h2], hR⟩
  rw [if_neg h2, if_neg h2]
  obtain ⟨m, -, hm, rfl⟩ := isIn_yes (a := 0) (b := 4) (by omega) (by omega) h2
  obtain ⟨M', T1, T', r1, r2, r3, r4, r5⟩ := ends_at hR hm
  obtain ⟨r, u1, u2⟩ := hoursL r5 24 0 5000 5000 0 (by omega) (by omega) (by omega)
  exact ⟨r, M', T', by rw [b2_s r1]; exact u1, by rw [b2_s r2, b2_s r3]; exact u2, r4⟩
