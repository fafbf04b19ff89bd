/-! who lies, who decides; lots -/
/-- VOTE times POWER -/
def pullS (X : mM) (h aw p : Nat) : Int32 := voteS (X 2 p).toNatClampNeg h * powS X (nI h) (nI (cntS 7 aw)) p
theorem pullM {X T : mM} {n aw h li p : Nat} (hV : Vx X (T 1) n aw h li) (hp : p < n) : ∃ T', fX12_voteOf T (nI p) = some (voteS (X 2 p).toNatClampNeg h) ∧ fX12_powerOf T (nI p) = some (powS X (nI h) (nI (cntS 7 aw)) p, T') ∧ ∀ q, q ≠ 3 → T' q = T q := by
  obtain ⟨T', t1, t2⟩ := powerOf_at hV hp
  exact ⟨T', voteOf_at hV hp, t1, t2⟩
theorem findPulls_at {M : mM} {t : Nat → Int32} {n li h aw : Nat} (hC : Cc M t n li) (hS : Rs M) (hh : h < 24) (ha : aw < 128) (h5 : M 1 5 = nI aw) (h6 : M 1 6 = nI h) : ∃ M', fX11_findPulls M = some (0, M') ∧ eqC M M' ∧ Rs M' ∧ ∀ p, p < n → M' 64 p = pullS (nowC M) h aw p := by
  have h7 := hC.2.1.1
  have key : ∀ (d p fuel : Nat) (M1 : mM), p + d = n → d < fuel → eqC M M1 → M1 63 = M 63 → (∀ p', p' < p → M1 64 p' = pullS (nowC M) h aw p') → ∃ M', fX11_findPulls_L13 fuel M1 (nI (cntS 7 aw)) (nI p) = some (0, M') ∧ eqC M M' ∧ M' 63 = M 63 ∧ ∀ p, p < n → M' 64 p = pullS (nowC M) h aw p := by
    intro d
    induction d with
    | zero =>
      intro p fuel M1 hd hf hK h63 hp
      obtain ⟨f, rfl⟩ : ∃ j, fuel = j + 1 := ⟨fuel - 1, by omega⟩
      refine ⟨M1, ?_, hK, h63, fun p' h' => hp p' (by omega)⟩
      show fX11_findPulls_L13_b (fX11_findPulls_L13 f) M1 _ (nI p) = _
      unfold fX11_findPulls_L13_b
      rw [(c18 hC hK).1, if_pos (nI_le (by omega) (by omega))]
    | succ d ih =>
      intro p fuel M1 hd hf hK h63 hp
      obtain ⟨f, rfl⟩ : ∃ j, fuel = j + 1 := ⟨fuel - 1, by omega⟩
      have hV1 : Vs (nowC M1) n := hC.2.1.keep hK.X
      have m6 : M1 1 6 = nI h := (congrFun (hK.1 1 (by omega) (by omega)) 6).trans h6
      have eP : ∀ v : Int32, eqC M (wr (PF M1 p (nI h) (nI (cntS 7 aw))) 64 p v) := fun v => (hK.trans (PF_eqK _ _ _ _).C).trans (eqC_wr _ (by omega) (by omega) _ _)
      obtain ⟨M', u1, u2⟩ := ih (p + 1) f (wr (PF M1 p (nI h) (nI (cntS 7 aw))) 64 p (pullS (nowC M) h aw p)) (by omega) (by omega) (eP _) (by rw [wr_q _ _ (by omega), PF_63]; exact h63) (fun p' hp' => by
        by_cases e : p' = p
        · rw [e, wr_s]
        · rw [wr_k _ e, (PF_eqK M1 p (nI h) (nI (cntS 7 aw))).1 64 (by omega) (by omega)]; exact hp p' (by omega))
      refine ⟨M', ?_, u2⟩
      show fX11_findPulls_L13_b (fX11_findPulls_L13 f) M1 _ (nI p) = _
      unfold fX11_findPulls_L13_b
      rw [(c18 hC hK).1, if_neg (nI_ge (by omega) (by omega)), m6, b1_s (voteAt_at hV1 (show p < n by omega) hh), b2_s (powerAt_at (hK.L hC.1) hV1 (show p < n by omega) (nI h) (nI (cntS 7 aw))), gd_t (ix_nI (by omega) (by omega)), tn_nI (by omega), nI_1, powS_eq hK.X, hK.X.2.1 2 (by omega) (by omega) (by omega)]
      exact u1
  obtain ⟨M', u1, u2, u3, u4⟩ := key n 0 5000 M (by omega) (by omega) (eqC.refl M) rfl (fun p' h' => absurd h' (by omega))
  refine ⟨M', ?_, u2, Rs_eqC hS u2 u3, u4⟩
  unfold fX11_findPulls
  rw [h5, bit_cnt aw ha]
  exact u1
-- liars
def missS (h : Nat) (b : Int32) (w : Nat) : Nat := min ((mvS h b + 24 - w) % 24) (24 - (mvS h b + 24 - w) % 24)
set_option maxRecDepth 100000 in
theorem apart3_c : ∀ h, h < 24 → ∀ w, w < 24 → fX11_apart (fun _ _ => 0) (nI (mvS h 1)) (nI w) = some (nI (missS h 1 w)) ∧ fX11_apart (fun _ _ => 0) (nI (mvS h (-1))) (nI w) = some (nI (missS h (-1) w)) ∧ fX11_apart (fun _ _ => 0) (nI (mvS h 0)) (nI w) = some (nI (missS h 0 w)) := by decide +kernel
set_option maxRecDepth 100000 in
theorem apart3_m : ∀ h, h < 24 → ∀ w, w < 24 → fX12_apart (nI h + 1) (nI w) = nI (missS h 1 w) ∧ fX12_apart (nI h + (-1)) (nI w) = nI (missS h (-1) w) ∧ fX12_apart (nI h + 0) (nI w) = nI (missS h 0 w) := by decide +kernel
theorem missS_lt (h : Nat) (b : Int32) (w : Nat) : missS h b w < 24 := by
  unfold missS
  have := Nat.mod_lt (mvS h b + 24 - w) (show 0 < 24 by omega)
  omega
theorem miss_c {M : mM} {h w li p : Nat} (hh : h < 24) (hw : w < 24) (hp : p < 7) (h6 : M 1 6 = nI h) (h8 : M 1 8 = nI li) (h3 : M 3 p = nI w) (s : Int32) : fX11_missBehind M (nI p) s = some (nI (missS h (fX11_turnOf s (nI li)) w)) := by
  unfold fX11_missBehind
  have hb := turn3 s (nI li)
  obtain ⟨a1, a2, a3⟩ := apart3_c h hh w hw
  rw [h6, h8, b1_s (moved_at M hh hb), gd_t (ix_nI hp (by omega)), tn_nI (by omega), h3]
  rcases hb with hb | hb | hb <;> rw [hb]
  · rw [b1_s (show fX11_apart M (nI (mvS h 1)) (nI w) = _ from a1)]
  · rw [b1_s (show fX11_apart M (nI (mvS h (-1))) (nI w) = _ from a2)]
  · rw [b1_s (show fX11_apart M (nI (mvS h 0)) (nI w) = _ from a3)]
theorem miss_m {h w : Nat} (hh : h < 24) (hw : w < 24) (s l : Int32) : fX12_apart (nI h + fX11_turnOf s l) (nI w) = nI (missS h (fX11_turnOf s l) w) := by
  obtain ⟨a1, a2, a3⟩ := apart3_m h hh w hw
  rcases turn3 s l with hb | hb | hb <;> rw [hb]
  · exact a1
  · exact a2
  · exact a3
/-- whether one of the votes gains -/
def gainS (X : mM) (li h aw p : Nat) : Bool :=
  let m := fun (v : Int32) => missS h (fX11_turnOf (SUM X h aw - pullS X h aw p + v * powS X (nI h) (nI (cntS 7 aw)) p) (nI li)) (X 2 p).toNatClampNeg
  let m0 := missS h (fX11_turnOf (SUM X h aw) (nI li)) (X 2 p).toNatClampNeg
  decide (m (-1) < m0) || decide (m 0 < m0) || decide (m 1 < m0)
theorem gain_c {M0 M : mM} {t : Nat → Int32} {n li h aw p : Nat} (hC : Cc M0 t n li) (hK : eqK M0 M) (hS : Rs M) (hh : h < 24) (ha : aw < 128) (hp : p < n) (h5 : M0 1 5 = nI aw) (h6 : M0 1 6 = nI h) : ∃ M', fX11_gainsByLying M (nI p) = some (bI (gainS (nowC M0) li h aw p), M') ∧ eqK M0 M' ∧ Rs M' := by
  have h7 := hC.2.1.1
  have hV1 : Vs (nowC M) n := hC.2.1.keep hK.X
  have r1 : ∀ {A : mM}, eqK M0 A → A 1 5 = nI aw ∧ A 1 6 = nI h ∧ A 1 8 = nI li ∧ A 3 p = M0 3 p := fun hA => ⟨(congrFun (hA.1 1 (by omega) (by omega)) 5).trans h5, (congrFun (hA.1 1 (by omega) (by omega)) 6).trans h6, (congrFun (hA.1 1 (by omega) (by omega)) 8).trans hC.2.2, congrFun (hA.1 3 (by omega) (by omega)) p⟩
  obtain ⟨k, w, -, -, hw, -, ew⟩ := hC.2.1.2.2 p hp
  have ew' : M0 3 p = nI w := ew
  have hK1 : eqK M0 (PF M p (nI h) (nI (cntS 7 aw))) := hK.trans (PF_eqK _ _ _ _)
  have hS1 : Rs (PF M p (nI h) (nI (cntS 7 aw))) := hS.keep (PF_63 _ _ _ _) (PF_eqK _ _ _ _).X
  obtain ⟨M2, m1, m2, m3, m4⟩ := cSum hC hK1 hS1 hh ha
  refine ⟨M2, ?_, m3, m4⟩
  obtain ⟨a5, a6, a8, a3⟩ := r1 m3
  have e : ∀ s : Int32, fX11_missBehind M2 (nI p) s = some (nI (missS h (fX11_turnOf s (nI li)) w)) := miss_c hh hw (by omega) a6 a8 (a3.trans ew')
  have lt : ∀ (b c : Int32), (nI (missS h b w) ≤ nI (missS h c w)) ↔ ¬ missS h c w < missS h b w := fun b c => by
    have := missS_lt h b w
    have := missS_lt h c w
    rw [nI_leI (by omega) (by omega)]; omega
  unfold fX11_gainsByLying
  rw [(r1 hK).1, (r1 hK).2.1, bit_cnt aw ha, b2_s (powerAt_at (hK.L hC.1) hV1 hp (nI h) (nI (cntS 7 aw))), (r1 hK1).1, (r1 hK1).2.1, b2_s m1, a6, b1_s (voteAt_at (hC.2.1.keep m3.X) hp hh), powS_eq hK.X, m3.X.2.1 2 (by omega) (by omega) (by omega)]
  rw [show voteS (nowC M0 2 p).toNatClampNeg h * powS (nowC M0) (nI h) (nI (cntS 7 aw)) p = pullS (nowC M0) h aw p from rfl]
  have eg : gainS (nowC M0) li h aw p = (decide (missS h (fX11_turnOf (SUM (nowC M0) h aw - pullS (nowC M0) h aw p + (-1) * powS (nowC M0) (nI h) (nI (cntS 7 aw)) p) (nI li)) w < missS h (fX11_turnOf (SUM (nowC M0) h aw) (nI li)) w) || decide (missS h (fX11_turnOf (SUM (nowC M0) h aw - pullS (nowC M0) h aw p + 0 * powS (nowC M0) (nI h) (nI (cntS 7 aw)) p) (nI li)) w < missS h (fX11_turnOf (SUM (nowC M0) h aw) (nI li)) w) || decide (missS h (fX11_turnOf (SUM (nowC M0) h aw - pullS (nowC M0) h aw p + 1 * powS (nowC M0) (nI h) (nI (cntS 7 aw)) p) (nI li)) w < missS h (fX11_turnOf (SUM (nowC M0) h aw) (nI li)) w)) := by
    unfold gainS
    rw [ew, nI_clamp (by omega)]
  rw [eg]
  generalize SUM (nowC M0) h aw - pullS (nowC M0) h aw p = oth
  generalize powS (nowC M0) (nI h) (nI (cntS 7 aw)) p = pw
  generalize SUM (nowC M0) h aw = hon
  show fX11_gainsByLying_L63_b (fX11_gainsByLying_L63 4999) M2 (nI p) pw hon oth (-1) = _
  unfold fX11_gainsByLying_L63_b
  rw [if_neg (by decide), b1_s (e _), b1_s (e _)]
  by_cases g1 : missS h (fX11_turnOf (oth + (-1) * pw) (nI li)) w < missS h (fX11_turnOf hon (nI li)) w
  · rw [if_neg (fun q => (lt _ _).mp q g1), decide_eq_true g1, Bool.true_or, Bool.true_or]; rfl
  · rw [if_pos ((lt _ _).mpr g1), decide_eq_false g1, Bool.false_or, show (-1 : Int32) + 1 = 0 from rfl]
    show fX11_gainsByLying_L63_b (fX11_gainsByLying_L63 4998) M2 (nI p) pw hon oth 0 = _
    unfold fX11_gainsByLying_L63_b
    rw [if_neg (by decide), b1_s (e _), b1_s (e _)]
    by_cases g2 : missS h (fX11_turnOf (oth + 0 * pw) (nI li)) w < missS h (fX11_turnOf hon (nI li)) w
    · rw [if_neg (fun q => (lt _ _).mp q g2), decide_eq_true g2, Bool.true_or]; rfl
    · rw [if_pos ((lt _ _).mpr g2), decide_eq_false g2, Bool.false_or, show (0 : Int32) + 1 = 1 from rfl]
      show fX11_gainsByLying_L63_b (fX11_gainsByLying_L63 4997) M2 (nI p) pw hon oth 1 = _
      unfold fX11_gainsByLying_L63_b
      rw [if_neg (by decide), b1_s (e _), b1_s (e _)]
      by_cases g3 : missS h (fX11_turnOf (oth + 1 * pw) (nI li)) w < missS h (fX11_turnOf hon (nI li)) w
      · rw [if_neg (fun q => (lt _ _).mp q g3), decide_eq_true g3]; rfl
      · rw [if_pos ((lt _ _).mpr g3), decide_eq_false g3, show (1 : Int32) + 1 = 2 from rfl]
        show fX11_gainsByLying_L63_b (fX11_gainsByLying_L63 4996) M2 (nI p) pw hon oth 2 = _
        unfold fX11_gainsByLying_L63_b
        rw [if_pos (by decide)]; rfl
theorem lieM {X T : mM} {n aw h li p : Nat} (hV : Vx X (T 1) n aw h li) (hp : p < n) (k7 : mM → Int32 → Int32 → Int32 → Option (Int32 × mM)) (hon oth pw set : Int32) :
    fX12_liars_L67 k7 5000 T hon set (nI p) pw oth (nI (missS h (fX11_turnOf hon (nI li)) (X 2 p).toNatClampNeg)) 0 (-1) = if (decide (missS h (fX11_turnOf (oth + (-1) * pw) (nI li)) (X 2 p).toNatClampNeg < missS h (fX11_turnOf hon (nI li)) (X 2 p).toNatClampNeg) || decide (missS h (fX11_turnOf (oth + 0 * pw) (nI li)) (X 2 p).toNatClampNeg < missS h (fX11_turnOf hon (nI li)) (X 2 p).toNatClampNeg) || decide (missS h (fX11_turnOf (oth + 1 * pw) (nI li)) (X 2 p).toNatClampNeg < missS h (fX11_turnOf hon (nI li)) (X 2 p).toNatClampNeg)) && decide (aw / 2 ^ p % 2 = 1) then k7 T hon (set ||| (1 <<< (nI p &&& 31))) (nI (p + 1)) else k7 T hon set (nI (p + 1)) := by
  have h7 := hV.1.1
  obtain ⟨k, w, g, c', x1, x2, z1, z2, z3, z4, z5⟩ := hV.2.2.2.1 p hp
  have hw := x1.2.2.1
  have ew : (X 2 p).toNatClampNeg = w := by rw [x2.2.1, nI_clamp (by omega)]
  rw [ew]
  have lt : ∀ (b c : Int32), (nI (missS h b w) ≤ nI (missS h c w)) ↔ ¬ missS h c w < missS h b w := fun b c => by
    have := missS_lt h b w
    have := missS_lt h c w
    rw [nI_leI (by omega) (by omega)]; omega
  have mv : ∀ s, fX12_moveBy T s = some (fX11_turnOf s (nI li)) := moveBy_at hV.2.2.1.2.2
  have i1 : fX12_its T (nI p) 1 = some (nI w) := by rw [its1 T (by omega), show 8 + 5 * p + 1 = 9 + 5 * p by omega, z2]
  have i4 : fX12_its T (nI p) 4 = some (nI (aw / 2 ^ p % 2)) := by rw [its4 T (by omega), show 8 + 5 * p + 4 = 12 + 5 * p by omega, z5]
  -- a step while no vote has gained, and one behind
  have st0 : ∀ (f : Nat) (v : Int32), ¬ 1 < v → fX12_liars_L67 k7 (f + 1) T hon set (nI p) pw oth (nI (missS h (fX11_turnOf hon (nI li)) w)) 0 v = fX12_liars_L67 k7 f T hon set (nI p) pw oth (nI (missS h (fX11_turnOf hon (nI li)) w)) (bI (decide (missS h (fX11_turnOf (oth + v * pw) (nI li)) w < missS h (fX11_turnOf hon (nI li)) w))) (v + 1) := by
    intro f v hv
    show fX12_liars_L67_b k7 (fX12_liars_L67 k7 f) T hon set (nI p) pw oth _ 0 v = _
    unfold fX12_liars_L67_b
    rw [if_neg hv, if_pos rfl, g1N, c1N, b1_s (mv _), b1_s i1, hV.2.2.1.2.1, miss_m hV.1.2.2.1 hw]
    by_cases z : missS h (fX11_turnOf (oth + v * pw) (nI li)) w < missS h (fX11_turnOf hon (nI li)) w
    · rw [if_neg (fun q => (lt _ _).mp q z), decide_eq_true z]; rfl
    · rw [if_pos ((lt _ _).mpr z), decide_eq_false z]; rfl
  have st1 : ∀ (f : Nat) (v : Int32), ¬ 1 < v → fX12_liars_L67 k7 (f + 1) T hon set (nI p) pw oth (nI (missS h (fX11_turnOf hon (nI li)) w)) 1 v = fX12_liars_L67 k7 f T hon set (nI p) pw oth (nI (missS h (fX11_turnOf hon (nI li)) w)) 1 (v + 1) := by
    intro f v hv
    show fX12_liars_L67_b k7 (fX12_liars_L67 k7 f) T hon set (nI p) pw oth _ 1 v = _
    unfold fX12_liars_L67_b
    rw [if_neg hv, if_neg (by decide)]
  have en : ∀ (f : Nat) (b : Bool), fX12_liars_L67 k7 (f + 1) T hon set (nI p) pw oth (nI (missS h (fX11_turnOf hon (nI li)) w)) (bI b) 2 = if b && decide (aw / 2 ^ p % 2 = 1) then k7 T hon (set ||| (1 <<< (nI p &&& 31))) (nI (p + 1)) else k7 T hon set (nI (p + 1)) := by
    intro f b
    show fX12_liars_L67_b k7 (fX12_liars_L67 k7 f) T hon set (nI p) pw oth _ (bI b) 2 = _
    unfold fX12_liars_L67_b
    rw [if_pos (by decide), nI_1, Int32.or_zero]
    cases b
    · rw [if_pos (show bI false = 0 from rfl)]; rfl
    · rw [if_neg (show ¬ bI true = 0 by decide), b1_s i4, Bool.true_and]
      rcases Nat.mod_two_eq_zero_or_one (aw / 2 ^ p) with z | z
      · rw [z, if_neg (show ¬ nI 0 = 1 by decide)]; rfl
      · rw [z, if_pos (show nI 1 = 1 from rfl)]; rfl
  rw [st0 4999 (-1) (by decide), show (-1 : Int32) + 1 = 0 from rfl]
  cases decide (missS h (fX11_turnOf (oth + (-1) * pw) (nI li)) w < missS h (fX11_turnOf hon (nI li)) w)
  · rw [Bool.false_or, show bI false = 0 from rfl, st0 4998 0 (by decide), show (0 : Int32) + 1 = 1 from rfl]
    cases decide (missS h (fX11_turnOf (oth + 0 * pw) (nI li)) w < missS h (fX11_turnOf hon (nI li)) w)
    · rw [Bool.false_or, show bI false = 0 from rfl, st0 4997 1 (by decide), show (1 : Int32) + 1 = 2 from rfl]
      exact en 4996 _
    · rw [Bool.true_or, show bI true = 1 from rfl, st1 4997 1 (by decide), show (1 : Int32) + 1 = 2 from rfl]
      exact en 4996 true
  · rw [Bool.true_or, Bool.true_or, show bI true = 1 from rfl, st1 4998 0 (by decide), show (0 : Int32) + 1 = 1 from rfl, st1 4997 1 (by decide), show (1 : Int32) + 1 = 2 from rfl]
    exact en 4996 true
theorem pm_liars {M T : mM} (hR : Rel M T) : ∃ (r : Int32) (M' : mM) (T' : mM), fX11_liars M = some (r, M') ∧ fX12_liars T = some (r, T') ∧ Rel M' T' := by
  obtain ⟨n, aw, h, no, li, la, hV, hX, hC, a128, h24, n2, a5, h6, l8⟩ := hR.look
  have h7 := hX.1.1
  obtain ⟨T0, t1, t2⟩ := sumNow_at hX
  have key : ∀ (d p fuel fuel' : Nat) (set : Int32) (M1 T1 : mM), p + d = n → d < fuel → d < fuel' → eqK M M1 → Rs M1 → (∀ q, q ≠ 3 → T1 q = T q) → ∃ (r : Int32) (M' T' : mM), fX11_liars_L4 fuel M1 set (nI p) = some (r, M') ∧ fX12_liars_L9 fuel' T1 (SUM (nowC M) h aw) set (nI p) = some (r, T') ∧ eqK M M' ∧ Rs M' ∧ ∀ q, q ≠ 3 → T' q = T q := by
    intro d
    induction d with
    | zero =>
      intro p fuel fuel' set M1 T1 hd hf hf' hK hS hq
      obtain ⟨f, rfl⟩ : ∃ j, fuel = j + 1 := ⟨fuel - 1, by omega⟩
      obtain ⟨f', rfl⟩ : ∃ j, fuel' = j + 1 := ⟨fuel' - 1, by omega⟩
      refine ⟨set, M1, T1, ?_, ?_, hK, hS, hq⟩
      · show fX11_liars_L4_b (fX11_liars_L4 f) M1 set (nI p) = _
        unfold fX11_liars_L4_b
        rw [show M1 1 0 = nI n from (congrFun (hK.1 1 (by omega) (by omega)) 0).trans n2, if_pos (nI_le (by omega) (by omega))]
      · show fX12_liars_L9_b (fX12_liars_L9 f') T1 _ set (nI p) = _
        unfold fX12_liars_L9_b
        rw [g0N, c0N, hq 1 (by omega), hX.2.2.1.1, if_pos (nI_le (by omega) (by omega))]
    | succ d ih =>
      intro p fuel fuel' set M1 T1 hd hf hf' hK hS hq
      obtain ⟨f, rfl⟩ : ∃ j, fuel = j + 1 := ⟨fuel - 1, by omega⟩
      obtain ⟨f', rfl⟩ : ∃ j, fuel' = j + 1 := ⟨fuel' - 1, by omega⟩
      have hV1 : Vx (nowC M) (T1 1) n aw h li := by rw [hq 1 (by omega)]; exact hX
      obtain ⟨T2, u1, u2, u3⟩ := pullM hV1 (show p < n by omega)
      have hq2 : ∀ q, q ≠ 3 → T2 q = T q := fun q h3 => (u3 q h3).trans (hq q h3)
      have hV2 : Vx (nowC M) (T2 1) n aw h li := by rw [hq2 1 (by omega)]; exact hX
      obtain ⟨k, w, g, c', x1, x2, z1, z2, z3, z4, z5⟩ := hV2.2.2.2.1 p (by omega)
      have ew : (nowC M 2 p).toNatClampNeg = w := by rw [x2.2.1, nI_clamp (by omega)]
      have u1' : fX12_voteOf T2 (nI p) = some (voteS (nowC M 2 p).toNatClampNeg h) := voteOf_at hV2 (by omega)
      have i1 : fX12_its T2 (nI p) 1 = some (nI w) := by rw [its1 T2 (by omega), show 8 + 5 * p + 1 = 9 + 5 * p by omega, z2]
      have H2 : fX12_liars_L9 (f' + 1) T1 (SUM (nowC M) h aw) set (nI p) = if gainS (nowC M) li h aw p && decide (aw / 2 ^ p % 2 = 1) then fX12_liars_L9 f' T2 (SUM (nowC M) h aw) (set ||| (1 <<< (nI p &&& 31))) (nI (p + 1)) else fX12_liars_L9 f' T2 (SUM (nowC M) h aw) set (nI (p + 1)) := by
        show fX12_liars_L9_b (fX12_liars_L9 f') T1 _ set (nI p) = _
        unfold fX12_liars_L9_b
        rw [g0N, c0N, hV1.2.2.1.1, if_neg (nI_ge (by omega) (by omega)), b2_s u2, b1_s u1', g1N, c1N, b1_s (moveBy_at hV2.2.2.1.2.2 _), b1_s i1, hV2.2.2.1.2.1, miss_m h24 x1.2.2.1, ← ew]
        exact lieM hV2 (by omega) (fX12_liars_L9 f') (SUM (nowC M) h aw) (SUM (nowC M) h aw - pullS (nowC M) h aw p) _ set
      rw [H2]
      have m5 : M1 1 5 = nI aw := (congrFun (hK.1 1 (by omega) (by omega)) 5).trans a5
      show ∃ (r : Int32) (M' T' : mM), fX11_liars_L4_b (fX11_liars_L4 f) M1 set (nI p) = some (r, M') ∧ _
      unfold fX11_liars_L4_b
      rw [show M1 1 0 = nI n from (congrFun (hK.1 1 (by omega) (by omega)) 0).trans n2, if_neg (nI_ge (by omega) (by omega)), isAwake_at (by omega) a128 m5, nI_1]
      by_cases hb : aw / 2 ^ p % 2 = 1
      · obtain ⟨M2, v1, v2, v3⟩ := gain_c hC hK hS h24 a128 (show p < n by omega) a5 h6
        rw [hb, if_neg (show ¬ nI 1 = 0 by decide), b2_s v1, decide_eq_true rfl, Bool.and_true]
        cases gainS (nowC M) li h aw p
        · rw [if_pos (show bI false = 0 from rfl)]
          exact ih (p + 1) f f' set M2 T2 (by omega) (by omega) (by omega) v2 v3 hq2
        · rw [if_neg (show ¬ bI true = 0 by decide)]
          exact ih (p + 1) f f' _ M2 T2 (by omega) (by omega) (by omega) v2 v3 hq2
      · have hb0 : aw / 2 ^ p % 2 = 0 := by omega
        rw [hb0, if_pos (show nI 0 = 0 from rfl), decide_eq_false (show ¬ (0 : Nat) = 1 by decide), Bool.and_false]
        exact ih (p + 1) f f' set M1 T2 (by omega) (by omega) (by omega) hK hS hq2
  obtain ⟨r, M', T', r1, r2, r3, r4, r5⟩ := key n 0 5000 5000 0 M T0 (by omega) (by omega) (by omega) (eqK.refl M) hR.2.1 t2
  refine ⟨r, M', T', r1, ?_, hR.eqK r3 r4 r5⟩
  unfold fX12_liars
  rw [b2_s t1]
  exact r2
-- power
def psS (X : mM) (h aw set : Nat) : Nat → Int32
  | 0 => 0
  | q + 1 => if set / 2 ^ q % 2 = 1 then psS X h aw set q + pullS X h aw q else psS X h aw set q
def decS (X : mM) (li h aw n p set : Nat) : Bool := decide (¬ fX11_turnOf (psS X h aw set n) (nI li) = fX11_turnOf (psS X h aw set n + pullS X h aw p) (nI li))
theorem decides_c {M : mM} {X : mM} {n li h aw p set : Nat} (h7 : n ≤ 7) (hp : p < n) (hs : set < 128) (h0 : M 1 0 = nI n) (h8 : M 1 8 = nI li) (h64 : ∀ q, q < n → M 64 q = pullS X h aw q) : fX11_decides M (nI p) (nI set) = some (bI (decS X li h aw n p set)) := by
  have key : ∀ (d q fuel : Nat), q + d = n → d < fuel → fX11_decides_L5 fuel M (nI p) (nI set) (psS X h aw set q) (nI q) = some (bI (decS X li h aw n p set)) := by
    intro d
    induction d with
    | zero =>
      intro q fuel hd hf
      obtain ⟨f, rfl⟩ : ∃ j, fuel = j + 1 := ⟨fuel - 1, by omega⟩
      have eq : q = n := by omega
      subst eq
      show fX11_decides_L5_b (fX11_decides_L5 f) M _ _ _ (nI q) = _
      unfold fX11_decides_L5_b decS
      rw [h0, if_pos (nI_le (by omega) (by omega)), gd_t (ix_nI (by omega) (by omega)), tn_nI (by omega), h8, h64 p hp]
      by_cases z : fX11_turnOf (psS X h aw set q) (nI li) = fX11_turnOf (psS X h aw set q + pullS X h aw p) (nI li)
      · rw [if_pos z, decide_eq_false (fun g => g z)]; rfl
      · rw [if_neg z, decide_eq_true z]; rfl
    | succ d ih =>
      intro q fuel hd hf
      obtain ⟨f, rfl⟩ : ∃ j, fuel = j + 1 := ⟨fuel - 1, by omega⟩
      show fX11_decides_L5_b (fX11_decides_L5 f) M _ _ _ (nI q) = _
      unfold fX11_decides_L5_b
      have e := ih (q + 1) f (by omega) (by omega)
      have eS : psS X h aw set (q + 1) = if set / 2 ^ q % 2 = 1 then psS X h aw set q + pullS X h aw q else psS X h aw set q := rfl
      rw [eS] at e
      rw [h0, if_neg (nI_ge (by omega) (by omega)), bit_at q (by omega) set hs, gd_t (ix_nI (by omega) (by omega)), tn_nI (by omega), h64 q (by omega), nI_1]
      rcases Nat.mod_two_eq_zero_or_one (set / 2 ^ q) with z | z
      · rw [z, if_neg (by decide)]
        rw [z, if_neg (by decide)] at e
        exact e
      · rw [z, if_pos (show nI 1 = 1 from rfl)]
        rw [z, if_pos rfl] at e
        exact e
  unfold fX11_decides
  exact key n 0 5000 (by omega) (by omega)
theorem wi_lt {k a : Nat} (hk : k < 128) : wiS k a < 128 := Nat.lt_of_le_of_lt (wi_le k a) hk
theorem power_c {M X : mM} {n li h aw p : Nat} (h7 : n ≤ 7) (hp : p < n) (ha : aw < 128) (h0 : M 1 0 = nI n) (h5 : M 1 5 = nI aw) (h8 : M 1 8 = nI li) (h64 : ∀ q, q < n → M 64 q = pullS X h aw q) : ∀ (d k fuel c : Nat), k + d = 128 → d < fuel → fX11_power_L28 fuel M (nI p) (nI c) (nI k) = some (nI (c + cntU (fun s => decide (wiS s (offS aw p) = 0) && decS X li h aw n p s) d k), M) := by
  intro d
  induction d with
  | zero =>
    intro k fuel c hd hf
    obtain ⟨f, rfl⟩ : ∃ j, fuel = j + 1 := ⟨fuel - 1, by omega⟩
    show fX11_power_L28_b (fX11_power_L28 f) M _ _ (nI k) = _
    unfold fX11_power_L28_b
    rw [if_pos (show (128 : Int32) ≤ nI k from nI_le (a := 128) (by omega) (by omega))]
    rfl
  | succ d ih =>
    intro k fuel c hd hf
    obtain ⟨f, rfl⟩ : ∃ j, fuel = j + 1 := ⟨fuel - 1, by omega⟩
    show fX11_power_L28_b (fX11_power_L28 f) M _ _ (nI k) = some (nI (c + ((if (decide (wiS k (offS aw p) = 0) && decS X li h aw n p k) then 1 else 0) + cntU (fun s => decide (wiS s (offS aw p) = 0) && decS X li h aw n p s) d (k + 1))), M)
    unfold fX11_power_L28_b fX11_isWithin
    have wl := wi_lt (k := k) (a := offS aw p) (by omega)
    rw [if_neg (show ¬ (128 : Int32) ≤ nI k from nI_ge (b := 128) (by omega) (by omega)), h5, bit_andn p (by omega) aw ha, wi_at, b1_s (decides_c (X := X) (h := h) (aw := aw) h7 hp (show k < 128 by omega) h0 h8 h64), nI_1, nI_1, ih (k + 1) f c (by omega) (by omega), ih (k + 1) f (c + 1) (by omega) (by omega)]
    by_cases hw : wiS k (offS aw p) = 0
    · rw [hw, if_pos (show nI 0 = 0 from rfl), if_neg (show ¬ (1 : Int32) = 0 by decide), decide_eq_true rfl, Bool.true_and]
      cases decS X li h aw n p k
      · rw [if_pos (show bI false = 0 from rfl), if_neg (by decide), Nat.zero_add]
      · rw [if_neg (show ¬ bI true = 0 by decide), if_pos rfl, Nat.add_assoc]
    · rw [if_neg (nI_ne0 (by omega) (by omega)), if_pos rfl, decide_eq_false hw, Bool.false_and, if_neg (by decide), Nat.zero_add]
theorem power_m {X T0 : mM} {n li h aw p : Nat} (hV : Vx X (T0 1) n aw h li) (hp : p < n) (hb : aw / 2 ^ p % 2 = 1) : ∀ (d k fuel c : Nat) (T : mM), k + d = offS aw p + 1 → d < fuel → (∀ q, q ≠ 3 → T q = T0 q) → ∃ T', fX12_power_L26 fuel T (nI p) (nI (offS aw p)) (nI c) (nI k) = some (nI (c + cntU (fun s => decide (wiS s (offS aw p) = 0) && decS X li h aw n p s) d k), T') ∧ ∀ q, q ≠ 3 → T' q = T0 q := by
  have h7 := hV.1.1
  have ha := pow_le7 h7 hV.1.2.1
  have ho : offS aw p < 128 := (off_bit p (by omega) aw ha).2 7 (by omega) (by omega) ha
  intro d
  induction d with
  | zero =>
    intro k fuel c T hd hf hq
    obtain ⟨f, rfl⟩ : ∃ j, fuel = j + 1 := ⟨fuel - 1, by omega⟩
    refine ⟨T, ?_, hq⟩
    show fX12_power_L26_b (fX12_power_L26 f) T _ _ _ (nI k) = _
    unfold fX12_power_L26_b
    rw [if_pos (nI_lt (by omega) (by omega))]
    rfl
  | succ d ih =>
    intro k fuel c T hd hf hq
    obtain ⟨f, rfl⟩ : ∃ j, fuel = j + 1 := ⟨fuel - 1, by omega⟩
    have hV1 : Vx X (T 1) n aw h li := by rw [hq 1 (by omega)]; exact hV
    -- the sum of a set
    have sum : ∀ (e q fu : Nat) (T1 : mM), q + e = n → e < fu → (∀ j, j ≠ 3 → T1 j = T0 j) → ∃ T', fX12_power_L48 (fX12_power_L26 f) fu T1 (nI p) (nI (offS aw p)) (nI c) (nI k) (psS X h aw k q) (nI q) = fX12_power_L130 (fX12_power_L26 f) T' (nI p) (nI (offS aw p)) (nI c) (nI k) (bI (decS X li h aw n p k)) ∧ ∀ j, j ≠ 3 → T' j = T0 j := by
      intro e
      induction e with
      | zero =>
        intro q fu T1 he hfu hq1
        obtain ⟨g, rfl⟩ : ∃ j, fu = j + 1 := ⟨fu - 1, by omega⟩
        have eq : q = n := by omega
        subst eq
        have hV2 : Vx X (T1 1) q aw h li := by rw [hq1 1 (by omega)]; exact hV
        obtain ⟨T2, u1, u2, u3⟩ := pullM hV2 hp
        have hq2 : ∀ j, j ≠ 3 → T2 j = T0 j := fun j h3 => (u3 j h3).trans (hq1 j h3)
        refine ⟨T2, ?_, hq2⟩
        show fX12_power_L48_b (fX12_power_L26 f) (fX12_power_L48 (fX12_power_L26 f) g) T1 _ _ _ _ _ (nI q) = _
        unfold fX12_power_L48_b decS
        rw [g0N, c0N, hV2.2.2.1.1, if_pos (nI_le (by omega) (by omega)), b1_s (moveBy_at hV2.2.2.1.2.2 _), b1_s u1, b2_s u2, b1_s (moveBy_at (show T2 1 3 = nI li by rw [hq2 1 (by omega)]; exact hV.2.2.1.2.2) _)]
        rw [show voteS (X 2 p).toNatClampNeg h * powS X (nI h) (nI (cntS 7 aw)) p = pullS X h aw p from rfl]
        by_cases z : fX11_turnOf (psS X h aw k q) (nI li) = fX11_turnOf (psS X h aw k q + pullS X h aw p) (nI li)
        · rw [if_pos z, decide_eq_false (fun g => g z)]; rfl
        · rw [if_neg z, decide_eq_true z]; rfl
      | succ e ihe =>
        intro q fu T1 he hfu hq1
        obtain ⟨g, rfl⟩ : ∃ j, fu = j + 1 := ⟨fu - 1, by omega⟩
        have hV2 : Vx X (T1 1) n aw h li := by rw [hq1 1 (by omega)]; exact hV
        have eS : psS X h aw k (q + 1) = if k / 2 ^ q % 2 = 1 then psS X h aw k q + pullS X h aw q else psS X h aw k q := rfl
        show ∃ T', fX12_power_L48_b (fX12_power_L26 f) (fX12_power_L48 (fX12_power_L26 f) g) T1 _ _ _ _ _ (nI q) = _ ∧ _
        unfold fX12_power_L48_b
        rw [g0N, c0N, hV2.2.2.1.1, if_neg (nI_ge (by omega) (by omega)), bit_at q (by omega) k (by omega), nI_1, Int32.add_zero]
        rcases Nat.mod_two_eq_zero_or_one (k / 2 ^ q) with z | z
        · rw [z, if_neg (by decide)]
          rw [z, if_neg (by decide)] at eS
          rw [← eS]
          exact ihe (q + 1) g T1 (by omega) (by omega) hq1
        · rw [z, if_pos (show nI 1 = 1 from rfl)]
          rw [z, if_pos rfl] at eS
          obtain ⟨T2, u1, u2, u3⟩ := pullM hV2 (show q < n by omega)
          rw [b1_s u1, b2_s u2, show voteS (X 2 q).toNatClampNeg h * powS X (nI h) (nI (cntS 7 aw)) q = pullS X h aw q from rfl, ← eS]
          exact ihe (q + 1) g T2 (by omega) (by omega) (fun j h3 => (u3 j h3).trans (hq1 j h3))
    obtain ⟨T2, s1, s2⟩ := sum n 0 5000 T (by omega) (by omega) hq
    have i4 : fX12_its T (nI p) 4 = some 1 := by
      rw [its4 T (by omega), show 8 + 5 * p + 4 = 12 + 5 * p by omega, bit_of (hV1.2.2.2.1 p hp), hb]; rfl
    have wl := wi_lt (k := k) (a := offS aw p) (by omega)
    show ∃ T', fX12_power_L26_b (fX12_power_L26 f) T _ _ _ (nI k) = some (nI (c + ((if (decide (wiS k (offS aw p) = 0) && decS X li h aw n p k) then 1 else 0) + cntU (fun s => decide (wiS s (offS aw p) = 0) && decS X li h aw n p s) d (k + 1))), T') ∧ _
    unfold fX12_power_L26_b
    rw [if_neg (nI_nlt (by omega) (by omega)), b1_s i4, if_pos rfl, show fX12_power_L48 (fX12_power_L26 f) 5000 T (nI p) (nI (offS aw p)) (nI c) (nI k) 0 0 = _ from s1]
    unfold fX12_power_L130
    rw [wi_at, nI_1, nI_1, Int32.add_zero]
    by_cases hw : wiS k (offS aw p) = 0
    · rw [hw, if_pos (show nI 0 = 0 from rfl), decide_eq_true rfl, Bool.true_and]
      cases decS X li h aw n p k
      · rw [if_pos (show bI false = 0 from rfl), if_neg (by decide), Nat.zero_add]
        exact ih (k + 1) f c T2 (by omega) (by omega) s2
      · rw [if_neg (show ¬ bI true = 0 by decide), if_pos rfl, ← Nat.add_assoc]
        exact ih (k + 1) f (c + 1) T2 (by omega) (by omega) s2
    · rw [if_neg (nI_ne0 (by omega) (by omega)), decide_eq_false hw, Bool.false_and, if_neg (by decide), Nat.zero_add]
      exact ih (k + 1) f c T2 (by omega) (by omega) s2
theorem pm_power {M T : mM} (hR : Rel M T) (a0 : Int32) : ∃ (r : Int32) (M' : mM) (T' : mM), fX11_power M a0 = some (r, M') ∧ fX12_power T a0 = some (r, T') ∧ Rel M' T' := by
  obtain ⟨n, aw, h, no, li, la, hV, hX, hC, a128, h24, n2, a5, h6, l8⟩ := hR.look
  have h7 := hX.1.1
  unfold fX11_power fX12_power
  rw [b1_s (voter_eq (M := M) n2 hX.2.2.1.1 h7 a0)]
  by_cases h1 : fX11_isVoter M a0 = 0
  · exact ⟨-1, M, T, by rw [if_pos h1], by rw [if_pos h1], hR⟩
  rw [if_neg h1, if_neg h1]
  obtain ⟨p, hp, rfl⟩ := voter_yes n2 h1
  rw [isAwake_at (by omega) a128 a5, b1_s (awakeSet_at hV), bit_andn p (by omega) aw a128]
  by_cases hb : aw / 2 ^ p % 2 = 1
  · rw [hb, if_neg (show ¬ nI 1 = 0 by decide)]
    obtain ⟨M1, m1, m2, m3, m4⟩ := findPulls_at hC hR.2.1 h24 a128 a5 h6
    have x1 : M1 1 = M 1 := m2.1 1 (by omega) (by omega)
    have P1 := power_c (M := M1) (X := nowC M) (h := h) (li := li) h7 hp a128 (by rw [x1]; exact n2) (by rw [x1]; exact a5) (by rw [x1]; exact l8) m4 128 0 5000 0 (by omega) (by omega)
    obtain ⟨T1, t1, t2⟩ := power_m hX hp hb (offS aw p + 1) 0 5000 0 T (by omega) (by have := (off_bit p (by omega) aw a128).2 7 (by omega) (by omega) a128; omega) (fun _ _ => rfl)
    have ho : offS aw p < 128 := (off_bit p (by omega) aw a128).2 7 (by omega) (by omega) a128
    have e : cntU (fun s => decide (wiS s (offS aw p) = 0) && decS (nowC M) li h aw n p s) 128 0 = cntU (fun s => decide (wiS s (offS aw p) = 0) && decS (nowC M) li h aw n p s) (offS aw p + 1) 0 := by
      have := cntU_add (fun s => decide (wiS s (offS aw p) = 0) && decS (nowC M) li h aw n p s) (128 - (offS aw p + 1)) (offS aw p + 1) 0
      rw [show offS aw p + 1 + (128 - (offS aw p + 1)) = 128 by omega] at this
      rw [this, cntU_none _ (128 - (offS aw p + 1)) _ (fun j hj1 hj2 => by
        show (decide (wiS j (offS aw p) = 0) && _) = false
        rw [decide_eq_false (fun q => by have := wi_sub (show j < 2 ^ 32 by omega) q; omega)]; rfl), Nat.add_zero]
    rw [e] at P1
    refine ⟨_, M1, T1, by rw [b2_s m1]; exact P1, t1, hR.scr (fun q g1 g2 => m2.1 q g1 (by omega)) m2.2 m3 (t2 1 (by omega)) (keepR_of (fun k hk => by rw [t2 0 (by omega)]) (fun q hq => t2 q (by omega)))⟩
  · have hb0 : aw / 2 ^ p % 2 = 0 := by omega
    rw [hb0, if_pos (show nI 0 = 0 from rfl)]
    refine ⟨0, M, T, rfl, ?_, hR⟩
    have i4 : fX12_its T (nI p) 4 = some 0 := by
      rw [its4 T (by omega), show 8 + 5 * p + 4 = 12 + 5 * p by omega, bit_of (hX.2.2.2.1 p hp), hb0]; rfl
    have ho : offS aw p < 128 := (off_bit p (by omega) aw a128).2 7 (by omega) (by omega) a128
    show fX12_power_L26_b (fX12_power_L26 4999) T _ _ 0 0 = _
    unfold fX12_power_L26_b
    rw [if_neg (show ¬ nI (offS aw p) < 0 from nI_pos (by omega)), b1_s i4, if_neg (by decide)]
-- lots
theorem Rel.setZ {M T : mM} (hR : Rel M T) (v : Int32) : Rel (wr M 1 10 v) (wr T 1 5 v) := by
  obtain ⟨v0, v1, v2, v3, v4, v5, v6⟩ := Rp_vals hR.1
  refine hR.scal 10 5 _ (by omega) (Rp_scal hR.1 (fun q h => wr_q _ _ (by omega)) (fun k h => upd_ne (by omega)) ⟨wr_k _ (by omega), wr_k _ (by omega), upd_ne (by omega)⟩ ?_ ?_ ?_ ?_ (by rw [upd_eq, wr_s]) ?_)
  · rw [wr_k _ (by omega), upd_ne (by omega)]; exact v1
  · rw [wr_k _ (by omega), upd_ne (by omega)]; exact v2
  · rw [wr_k _ (by omega), upd_ne (by omega)]; exact v3
  · rw [wr_k _ (by omega), upd_ne (by omega)]; exact v4
  · exact Or.inl ⟨wr_k _ (by omega), upd_ne (by omega)⟩
theorem Vx.z {X : mM} {t : Nat → Int32} {n aw h li : Nat} (hV : Vx X t n aw h li) (v : Int32) : Vx X (upd t 5 v) n aw h li := by
  obtain ⟨a, b, c, hv', hl⟩ := hV
  refine ⟨a, b, ⟨by rw [upd_ne (by omega)]; exact c.1, by rw [upd_ne (by omega)]; exact c.2.1, by rw [upd_ne (by omega)]; exact c.2.2⟩, fun p hp => ?_, Rl_eq (fun _ _ _ => rfl) (fun k hk _ => upd_ne (by omega)) hl⟩
  obtain ⟨k, w, g, c', x1, x2, z1, z2, z3, z4, z5⟩ := hv' p hp
  exact ⟨k, w, g, c', x1, x2, by rw [upd_ne (by omega)]; exact z1, by rw [upd_ne (by omega)]; exact z2, by rw [upd_ne (by omega)]; exact z3, by rw [upd_ne (by omega)]; exact z4, by rw [upd_ne (by omega)]; exact z5⟩
/-- one is drawn, in both -/
theorem draw_both (M T : mM) (z : Int32) (h : M 1 10 = z) (h' : T 1 5 = z) : ∃ r : Int32, fX4_draws_q1 M = some (r, wr M 1 10 (z * 1103515245 + 12345)) ∧ fX12_draw T = some (r, wr T 1 5 (z * 1103515245 + 12345)) := by
  unfold fX4_draws_q1 fX12_draw
  rw [g5N, g5N, g5N, c5N, h, h', wr_s, wr_s]
  by_cases g : (iushr (z * 1103515245 + 12345) 16) &&& 1 = 1
  · exact ⟨1, by rw [if_pos g], by rw [if_pos g]⟩
  · exact ⟨0, by rw [if_neg g], by rw [if_neg g]⟩
theorem lotB {X M1 : mM} {n li h aw : Nat} (h7 : n ≤ 7) (ha : aw < 128) (h0 : M1 1 0 = nI n) (h5 : M1 1 5 = nI aw) (h8 : M1 1 8 = nI li) (h64 : ∀ p, p < n → M1 64 p = pullS X h aw p) : ∀ (d p fuel fuel' : Nat) (s z : Int32) (T : mM), p + d = n → d < fuel → d < fuel' → Vx X (T 1) n aw h li → T 1 5 = z →
    ∃ (S z' : Int32) (T' : mM), fX11_turnByLot_L4 fuel (wr M1 1 10 z) s (nI p) = some (fX11_turnOf S (nI li), wr M1 1 10 z') ∧ fX12_sumByLot_L4 fuel' T s (nI p) = some (S, T') ∧ T' 1 = upd (T 1) 5 z' ∧ ∀ q, q ≠ 1 → q ≠ 3 → T' q = T q := by
  intro d
  induction d with
  | zero =>
    intro p fuel fuel' s z T hd hf hf' hV hz
    obtain ⟨f, rfl⟩ : ∃ j, fuel = j + 1 := ⟨fuel - 1, by omega⟩
    obtain ⟨f', rfl⟩ : ∃ j, fuel' = j + 1 := ⟨fuel' - 1, by omega⟩
    refine ⟨s, z, T, ?_, ?_, by rw [← hz, upd_self], fun _ _ _ => rfl⟩
    · show fX11_turnByLot_L4_b (fX11_turnByLot_L4 f) (wr M1 1 10 z) s (nI p) = _
      unfold fX11_turnByLot_L4_b
      rw [wr_k _ (by omega), wr_k _ (by omega), h0, h8, if_pos (nI_le (by omega) (by omega))]
    · show fX12_sumByLot_L4_b (fX12_sumByLot_L4 f') T s (nI p) = _
      unfold fX12_sumByLot_L4_b
      rw [g0N, c0N, hV.2.2.1.1, if_pos (nI_le (by omega) (by omega))]
  | succ d ih =>
    intro p fuel fuel' s z T hd hf hf' hV hz
    obtain ⟨f, rfl⟩ : ∃ j, fuel = j + 1 := ⟨fuel - 1, by omega⟩
    obtain ⟨f', rfl⟩ : ∃ j, fuel' = j + 1 := ⟨fuel' - 1, by omega⟩
    have w0 : wr M1 1 10 z 1 0 = nI n := by rw [wr_k _ (by omega)]; exact h0
    have w5 : wr M1 1 10 z 1 5 = nI aw := by rw [wr_k _ (by omega)]; exact h5
    have i4 : fX12_its T (nI p) 4 = some (nI (aw / 2 ^ p % 2)) := by
      rw [its4 T (by omega), show 8 + 5 * p + 4 = 12 + 5 * p by omega, bit_of (hV.2.2.2.1 p (by omega))]
    show ∃ (S z' : Int32) (T' : mM), fX11_turnByLot_L4_b (fX11_turnByLot_L4 f) (wr M1 1 10 z) s (nI p) = _ ∧ fX12_sumByLot_L4_b (fX12_sumByLot_L4 f') T s (nI p) = _ ∧ _
    unfold fX11_turnByLot_L4_b fX12_sumByLot_L4_b
    rw [w0, if_neg (nI_ge (by omega) (by omega)), isAwake_at (by omega) ha w5, g0N, c0N, hV.2.2.1.1, if_neg (nI_ge (by omega) (by omega)), b1_s i4, nI_1]
    rcases Nat.mod_two_eq_zero_or_one (aw / 2 ^ p) with b | b
    · rw [b, if_pos (show nI 0 = 0 from rfl), if_neg (show ¬ nI 0 = 1 by decide)]
      exact ih (p + 1) f f' s z T (by omega) (by omega) (by omega) hV hz
    · rw [b, if_neg (show ¬ nI 1 = 0 by decide), if_pos (show nI 1 = 1 from rfl)]
      obtain ⟨r, r1, r2⟩ := draw_both (wr M1 1 10 z) T z (wr_s _ _ _ _) hz
      rw [wr_wr] at r1
      have hV1 : Vx X (wr T 1 5 (z * 1103515245 + 12345) 1) n aw h li := by rw [wr_row]; exact hV.z _
      rw [b2_s r1, b2_s r2]
      by_cases hr : r = 0
      · rw [if_pos hr, if_pos hr]
        obtain ⟨S, z', T', t1, t2, t3, t4⟩ := ih (p + 1) f f' s (z * 1103515245 + 12345) (wr T 1 5 (z * 1103515245 + 12345)) (by omega) (by omega) (by omega) hV1 (wr_s _ _ _ _)
        exact ⟨S, z', T', t1, t2, by rw [t3, wr_row, upd_upd], fun q q1 q3 => (t4 q q1 q3).trans (wr_q _ _ q1)⟩
      · rw [if_neg hr, if_neg hr, gd_t (ix_nI (by omega) (by omega)), tn_nI (by omega), wr_q _ _ (show (64 : Nat) ≠ 1 by omega), h64 p (by omega)]
        obtain ⟨T2, u1, u2, u3⟩ := pullM hV1 (show p < n by omega)
        rw [b1_s u1, b2_s u2, show voteS (X 2 p).toNatClampNeg h * powS X (nI h) (nI (cntS 7 aw)) p = pullS X h aw p from rfl]
        have e1 : T2 1 = upd (T 1) 5 (z * 1103515245 + 12345) := by rw [u3 1 (by omega), wr_row]
        obtain ⟨S, z', T', t1, t2, t3, t4⟩ := ih (p + 1) f f' (s + pullS X h aw p) (z * 1103515245 + 12345) T2 (by omega) (by omega) (by omega) (by rw [u3 1 (by omega)]; exact hV1) (by rw [e1, upd_eq])
        exact ⟨S, z', T', t1, t2, by rw [t3, e1, upd_upd], fun q q1 q3 => (t4 q q1 q3).trans ((u3 q q3).trans (wr_q _ _ q1))⟩
theorem pm_lot {M T : mM} (hR : Rel M T) : ∃ (r : Int32) (M' : mM) (T' : mM), fX11_lot M = some (r, M') ∧ fX12_lot T = some (r, T') ∧ Rel M' T' := by
  obtain ⟨n, aw, h, no, li, la, hV, hX, hC, a128, h24, n2, a5, h6, l8⟩ := hR.look
  unfold fX11_lot fX12_lot
  rw [show M 1 7 = nI no from hV.2.1.2.2.2.1, g2N, c2N, show T 1 2 = nI no from hV.2.2.1.2.2.1]
  by_cases h9 : no = 9999
  · subst h9
    exact ⟨-4, M, T, by rw [if_neg (by decide)], by rw [if_pos (by decide)], hR⟩
  · have hno : no < 9999 := by have := hV.1.2.2.2.1; omega
    rw [if_pos (show nI no < 9999 from nI_lt (b := 9999) hno (by omega)), if_neg (show ¬ nI no = 9999 from fun q => h9 ((nI_eq (b := 9999) (by omega) (by omega)).mp q))]
    obtain ⟨M1, m1, m2, m3, m4⟩ := findPulls_at hC hR.2.1 h24 a128 a5 h6
    have x1 : M1 1 = M 1 := m2.1 1 (by omega) (by omega)
    have hR1 : Rel M1 T := hR.scr (fun q g1 g2 => m2.1 q g1 (by omega)) m2.2 m3 rfl (keepR_of (fun _ _ => rfl) (fun _ _ => rfl))
    have h7n := hX.1.1
    obtain ⟨S, z', T', t1, t2, t3, t4⟩ := lotB (X := nowC M) (h := h) (li := li) hX.1.1 a128 (by rw [x1]; exact n2) (by rw [x1]; exact a5) (by rw [x1]; exact l8) m4 n 0 5000 5000 0 (M1 1 10) T (by omega) (by omega) (by omega) hX (by rw [x1]; exact hV.2.2.1.2.2.2.2.2)
    rw [wr_same] at t1
    have e1 : ∀ q, q ≠ 3 → T' q = wr T 1 5 z' q := fun q q3 => by
      by_cases q1 : q = 1
      · rw [q1, t3, wr_row]
      · rw [t4 q q1 q3, wr_q _ _ q1]
    have hR2 : Rel (wr M1 1 10 z') T' := (hR1.setZ z').eqK (eqK.refl _) (hR1.setZ z').2.1 e1
    obtain ⟨n', aw', h', no', li', la', hV', -, -, -, -, -, -, -, k8⟩ := hR2.look
    have el : li' = li := by
      have a1 := hV'.1.2.2.2.2.1
      have a2 := hX.1.2.2.2
      refine (nI_eq (by omega) (by omega)).mp (k8.symm.trans ?_)
      rw [wr_k _ (by omega), x1]; exact l8
    have eo : no' = no := by
      have a1 := hV'.1.2.2.2.1
      have k7 : wr M1 1 10 z' 1 7 = nI no' := hV'.2.1.2.2.2.1
      refine (nI_eq (by omega) (by omega)).mp (k7.symm.trans ?_)
      rw [wr_k _ (by omega), x1]; exact hV.2.1.2.2.2.1
    subst el
    obtain ⟨r, M4, T4, r1, r2, r3⟩ := goOn_both hR2 hV' (by omega) S
    refine ⟨r, M4, T4, ?_, ?_, r3⟩
    · rw [b2_s m1]
      unfold fX11_turnByLot
      rw [b2_s (show fX11_turnByLot_L4 5000 M1 0 0 = _ from t1), b2_s r1]
    · unfold fX12_sumByLot
      rw [b2_s (show fX12_sumByLot_L4 5000 T 0 0 = _ from t2), b2_s r2]
theorem pm_often {M T : mM} (hR : Rel M T) (a0 : Int32) (a1 : Int32) : ∃ (r : Int32) (M' : mM) (T' : mM), fX11_often M a0 a1 = some (r, M') ∧ fX12_often T a0 a1 = some (r, T') ∧ Rel M' T' := by
  obtain ⟨n, aw, h, no, li, la, hV, hX, hC, a128, h24, n2, a5, h6, l8⟩ := hR.look
  unfold fX11_often fX12_often
  rw [isHour_eq, show fX12_in (Int32.toInt64 a0) 1 60 = fX11_isIn a0 1 60 from in_eq a0 1 60]
  by_cases h1 : fX11_isIn a0 1 60 = 0
  · exact ⟨-1, M, T, by rw [if_pos h1], by rw [if_pos h1], hR⟩
  rw [if_neg h1, if_neg h1]
  by_cases h2 : fX11_isHour a1 = 0
  · exact ⟨-1, M, T, by rw [if_pos h2], by rw [if_pos h2], hR⟩
  rw [if_neg h2, if_neg h2, g5N, c5N]
  obtain ⟨N, -, hN, rfl⟩ := isIn_yes (a := 1) (b := 60) (by omega) (by omega) h1
  obtain ⟨M1, m1, m2, m3, m4⟩ := findPulls_at hC hR.2.1 h24 a128 a5 h6
  have x1 : M1 1 = M 1 := m2.1 1 (by omega) (by omega)
  have hR1 : Rel M1 T := hR.scr (fun q g1 g2 => m2.1 q g1 (by omega)) m2.2 m3 rfl (keepR_of (fun _ _ => rfl) (fun _ _ => rfl))
  have ez : M 1 10 = T 1 5 := hV.2.2.1.2.2.2.2.2.symm
  have key : ∀ (d k fuel fuel' : Nat) (ct z : Int32) (T1 : mM), k + d = N → d < fuel → d < fuel' → T1 1 = upd (T 1) 5 z → (∀ q, q ≠ 1 → q ≠ 3 → T1 q = T q) → ∃ (r : Int32) (T' : mM), fX11_often_L37 fuel (wr M1 1 10 z) (nI N) a1 (M 1 10) ct (nI k) = some (r, M1) ∧ fX12_often_L34 fuel' T1 (nI N) a1 (T 1 5) ct (nI k) = some (r, T') ∧ T' 1 = T 1 ∧ ∀ q, q ≠ 1 → q ≠ 3 → T' q = T q := by
    intro d
    induction d with
    | zero =>
      intro k fuel fuel' ct z T1 hd hf hf' hz hq
      obtain ⟨f, rfl⟩ : ∃ j, fuel = j + 1 := ⟨fuel - 1, by omega⟩
      obtain ⟨f', rfl⟩ : ∃ j, fuel' = j + 1 := ⟨fuel' - 1, by omega⟩
      refine ⟨ct, wr T1 1 5 (T 1 5), ?_, ?_, by rw [wr_row, hz, upd_upd, upd_self], fun q q1 q3 => (wr_q _ _ q1).trans (hq q q1 q3)⟩
      · show fX11_often_L37_b (fX11_often_L37 f) (wr M1 1 10 z) _ _ _ ct (nI k) = _
        unfold fX11_often_L37_b
        rw [if_pos (nI_le (by omega) (by omega)), wr_wr, ← x1, wr_same]
      · show fX12_often_L34_b (fX12_often_L34 f') T1 _ _ _ ct (nI k) = _
        unfold fX12_often_L34_b
        rw [if_pos (nI_le (by omega) (by omega)), g5N, c5N]
    | succ d ih =>
      intro k fuel fuel' ct z T1 hd hf hf' hz hq
      obtain ⟨f, rfl⟩ : ∃ j, fuel = j + 1 := ⟨fuel - 1, by omega⟩
      obtain ⟨f', rfl⟩ : ∃ j, fuel' = j + 1 := ⟨fuel' - 1, by omega⟩
      have hV1 : Vx (nowC M) (T1 1) n aw h li := by rw [hz]; exact hX.z z
      have h7n := hX.1.1
      obtain ⟨S, z', T2, t1, t2, t3, t4⟩ := lotB (X := nowC M) (h := h) (li := li) hX.1.1 a128 (by rw [x1]; exact n2) (by rw [x1]; exact a5) (by rw [x1]; exact l8) m4 n 0 5000 5000 0 z T1 (by omega) (by omega) (by omega) hV1 (by rw [hz, upd_eq])
      have hz2 : T2 1 = upd (T 1) 5 z' := by rw [t3, hz, upd_upd]
      have hq2 : ∀ q, q ≠ 1 → q ≠ 3 → T2 q = T q := fun q q1 q3 => (t4 q q1 q3).trans (hq q q1 q3)
      have w6 : wr M1 1 10 z 1 6 = nI h := by rw [wr_k _ (by omega), x1]; exact h6
      have t11 : T1 1 1 = nI h := hV1.2.2.1.2.1
      have t23 : T2 1 3 = nI li := by rw [hz2, upd_ne (by omega)]; exact hX.2.2.1.2.2
      show ∃ (r : Int32) (T' : mM), fX11_often_L37_b (fX11_often_L37 f) (wr M1 1 10 z) _ _ _ ct (nI k) = _ ∧ fX12_often_L34_b (fX12_often_L34 f') T1 _ _ _ ct (nI k) = _ ∧ _
      unfold fX11_often_L37_b fX12_often_L34_b fX11_turnByLot fX12_sumByLot
      rw [if_neg (nI_ge (by omega) (by omega)), if_neg (nI_ge (by omega) (by omega)), b2_s (show fX11_turnByLot_L4 5000 (wr M1 1 10 z) 0 0 = _ from t1), w6, b1_s (moved_at _ h24 (turn3 _ _)), g1N, c1N, b2_s (show fX12_sumByLot_L4 5000 T1 0 0 = _ from t2), b1_s (moveBy_at t23 S), t11, around_at h24 (turn3 _ _), nI_1, Int32.add_zero]
      by_cases g : nI (mvS h (fX11_turnOf S (nI li))) = a1
      · rw [if_pos g, if_pos g]
        exact ih (k + 1) f f' (ct + 1) z' T2 (by omega) (by omega) (by omega) hz2 hq2
      · rw [if_neg g, if_neg g]
        exact ih (k + 1) f f' ct z' T2 (by omega) (by omega) (by omega) hz2 hq2
  obtain ⟨r, T', r1, r2, r3, r4⟩ := key N 0 5000 5000 0 (T 1 5) T (by omega) (by omega) (by omega) (upd_self _ _).symm (fun _ _ _ => rfl)
  rw [show wr M1 1 10 (T 1 5) = M1 by rw [← ez, ← x1]; exact wr_same _ _ _] at r1
  refine ⟨r, M1, T', by rw [b2_s m1]; exact r1, r2, hR1.scr (fun _ _ _ => rfl) (fun _ _ => rfl) m3 r3 (keepR_of (fun k hk => by rw [r4 0 (by omega) (by omega)]) (fun q hq => r4 q (by omega) (by omega)))⟩
