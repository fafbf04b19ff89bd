/-! a game of two -/
theorem i32_neg {v : Int32} (h : -1000 ≤ v.toInt ∧ v.toInt ≤ 1000) : (-v).toInt = -v.toInt := by
  rw [Int32.toInt_neg]
  exact Int.bmod_eq_of_le (by omega) (by omega)
theorem i32_add {a b : Int32} (ha : -1000 ≤ a.toInt ∧ a.toInt ≤ 1000) (hb : -1000 ≤ b.toInt ∧ b.toInt ≤ 1000) : (a + b).toInt = a.toInt + b.toInt := by
  rw [Int32.toInt_add]
  exact Int.bmod_eq_of_le (by omega) (by omega)
def beG (s : Bool) (v b : Int32) : Bool := if s then decide (b < v) else decide (v < b)
def bestG (V : Nat → Int32) (s : Bool) : Nat → Int32 × Nat
  | 0 => (V 0, 0)
  | k + 1 => if beG s (V (k + 1)) (bestG V s k).1 then (V (k + 1), k + 1) else bestG V s k
def worG (X : mM) (li n : Nat) : Nat → Bool → Nat → Nat → Int32
  | 0, _, _, _ => 0
  | m + 1, s, h, aw => (bestG (fun a => byS X li h (actS aw a) + worG X li n m (!s) (nextS X li h (actS aw a)) (actS aw a)) s n).1
/-- what an ACT comes to, m NOONS being left behind it -/
def valG (X : mM) (li n m : Nat) (s : Bool) (h aw a : Nat) : Int32 := byS X li h (actS aw a) + worG X li n m (!s) (nextS X li h (actS aw a)) (actS aw a)
def sgG (s : Bool) : Int32 := if s then 1 else -1
theorem sgG_neg (s : Bool) : -(sgG s) = sgG (!s) := by cases s <;> rfl
theorem by_bd {X : mM} {li h aw : Nat} : -1 ≤ (byS X li h aw).toInt ∧ (byS X li h aw).toInt ≤ 1 := by
  rcases byS3 X li h aw with z | z | z <;> rw [z] <;> decide
theorem best_in (V : Nat → Int32) (s : Bool) : ∀ k, ∃ j, j ≤ k ∧ (bestG V s k).1 = V j := by
  intro k
  induction k with
  | zero => exact ⟨0, Nat.le_refl 0, rfl⟩
  | succ k ih =>
    obtain ⟨j, hj, e⟩ := ih
    unfold bestG
    split
    · exact ⟨k + 1, Nat.le_refl _, rfl⟩
    · exact ⟨j, by omega, e⟩
theorem wor_bd {X : mM} {li n : Nat} : ∀ (m : Nat) (s : Bool) (h aw : Nat), m ≤ 100 → -(m : Int) ≤ (worG X li n m s h aw).toInt ∧ (worG X li n m s h aw).toInt ≤ m := by
  intro m
  induction m with
  | zero => intro s h aw _; exact ⟨by show -((0 : Nat) : Int) ≤ (0 : Int32).toInt; decide, by show (0 : Int32).toInt ≤ ((0 : Nat) : Int); decide⟩
  | succ m ih =>
    intro s h aw hm
    obtain ⟨j, hj, e⟩ := best_in (fun a => byS X li h (actS aw a) + worG X li n m (!s) (nextS X li h (actS aw a)) (actS aw a)) s n
    have b1 := by_bd (X := X) (li := li) (h := h) (aw := actS aw j)
    have b2 := ih (!s) (nextS X li h (actS aw j)) (actS aw j) (by omega)
    have e2 := i32_add (a := byS X li h (actS aw j)) (b := worG X li n m (!s) (nextS X li h (actS aw j)) (actS aw j)) (by omega) (by omega)
    have e3 : worG X li n (m + 1) s h aw = byS X li h (actS aw j) + worG X li n m (!s) (nextS X li h (actS aw j)) (actS aw j) := e
    rw [e3, e2]
    omega
theorem val_bd {X : mM} {li n m : Nat} {s : Bool} {h aw a : Nat} (hm : m ≤ 50) : -100 ≤ (valG X li n m s h aw a).toInt ∧ (valG X li n m s h aw a).toInt ≤ 100 := by
  have b1 := by_bd (X := X) (li := li) (h := h) (aw := actS aw a)
  have b2 := wor_bd (X := X) (li := li) (n := n) m (!s) (nextS X li h (actS aw a)) (actS aw a) (by omega)
  have e2 := i32_add (a := byS X li h (actS aw a)) (b := worG X li n m (!s) (nextS X li h (actS aw a)) (actS aw a)) (by omega) (by omega)
  unfold valG
  rw [e2]
  omega
/-- the class's comparison -/
theorem keep_c {s : Bool} {v b : Int32} (hv : -100 ≤ v.toInt ∧ v.toInt ≤ 100) (hb : -100 ≤ b.toInt ∧ b.toInt ≤ 100) : (v * sgG s ≤ b * sgG s) ↔ beG s v b = false := by
  cases s
  · show v * (-1) ≤ b * (-1) ↔ decide (v < b) = false
    rw [Int32.mul_neg, Int32.mul_neg, Int32.mul_one, Int32.mul_one, decide_eq_false_iff_not, Int32.le_iff_toInt_le, Int32.lt_iff_toInt_lt, i32_neg (by omega), i32_neg (by omega)]
    omega
  · show v * 1 ≤ b * 1 ↔ decide (b < v) = false
    rw [Int32.mul_one, Int32.mul_one, decide_eq_false_iff_not, Int32.not_lt]
theorem best_spec (V : Nat → Int32) (s : Bool) : ∀ k, (bestG V s k).2 ≤ k ∧ V (bestG V s k).2 = (bestG V s k).1 ∧ (∀ j, j < (bestG V s k).2 → ¬ V j = (bestG V s k).1) ∧ ∀ j, j ≤ k → beG s (V j) (bestG V s k).1 = false := by
  have irr : ∀ v, beG s v v = false := fun v => by
    cases s
    · exact decide_eq_false Int32.lt_irrefl
    · exact decide_eq_false Int32.lt_irrefl
  have tr : ∀ a b c, beG s a b = true → beG s b c = true → beG s a c = true := fun a b c h1 h2 => by
    cases s
    · have h1' := Int32.lt_iff_toInt_lt.mp (of_decide_eq_true h1)
      have h2' := Int32.lt_iff_toInt_lt.mp (of_decide_eq_true h2)
      exact decide_eq_true (Int32.lt_iff_toInt_lt.mpr (by omega))
    · have h1' := Int32.lt_iff_toInt_lt.mp (of_decide_eq_true h1)
      have h2' := Int32.lt_iff_toInt_lt.mp (of_decide_eq_true h2)
      exact decide_eq_true (Int32.lt_iff_toInt_lt.mpr (by omega))
  intro k
  induction k with
  | zero => exact ⟨Nat.le_refl 0, rfl, fun j hj => absurd hj (by show ¬ j < 0; omega), fun j hj => by rw [show j = 0 by omega]; exact irr _⟩
  | succ k ih =>
    obtain ⟨i1, i2, i3, i4⟩ := ih
    unfold bestG
    split
    · next g =>
      refine ⟨Nat.le_refl _, rfl, fun j hj e => ?_, fun j hj => ?_⟩
      · have hj' : j < k + 1 := hj
        have e' : V j = V (k + 1) := e
        have := i4 j (by omega)
        rw [e', g] at this
        exact absurd this (by decide)
      · show beG s (V j) (V (k + 1)) = false
        by_cases z : j = k + 1
        · rw [z]; exact irr _
        · cases q : beG s (V j) (V (k + 1))
          · rfl
          · have := tr _ _ _ q g
            rw [i4 j (by omega)] at this
            exact absurd this (by decide)
    · next g =>
      refine ⟨by omega, i2, i3, fun j hj => ?_⟩
      by_cases z : j = k + 1
      · rw [z]; exact Bool.eq_false_iff.mpr g
      · exact i4 j (by omega)
/-- an ACT's worth by the class, once what is behind it is known -/
theorem valBy_c {M0 : mM} {t : Nat → Int32} {n li : Nat} (hC : Cc M0 t n li) {rec : mM → Int32 → Int32 → Int32 → Int32 → Option (Int32 × mM)} {m : Nat} {s : Bool}
    (hrec : ∀ (h aw : Nat) (M : mM), eqK M0 M → Rs M → h < 24 → aw < 2 ^ n → ∃ M', rec M (nI h) (nI aw) (nI m) (sgG (!s)) = some (worG (nowC M0) li n m (!s) h aw, M') ∧ eqK M0 M' ∧ Rs M')
    {h aw a : Nat} {M : mM} (hK : eqK M0 M) (hS : Rs M) (hh : h < 24) (hw : aw < 2 ^ n) (ha : a ≤ n) : ∃ M', fX11_valueBy rec M (nI a) (nI h) (nI aw) (nI (m + 1)) (sgG s) = some (valG (nowC M0) li n m s h aw a, M') ∧ eqK M0 M' ∧ Rs M' := by
  have h7 := hC.2.1.1
  have hw' := actS_lt h7 hw ha
  obtain ⟨M1, m1, m2, m3, m4⟩ := cSum hC hK hS hh (pow_le7 h7 hw')
  obtain ⟨M2, u1, u2, u3⟩ := hrec (nextS (nowC M0) li h (actS aw a)) (actS aw a) M1 m3 m4 (nextS_lt hh) hw'
  refine ⟨M2, ?_, u2, u3⟩
  unfold fX11_valueBy
  rw [acted_at (pow_le7 h7 hw) (show a ≤ 7 by omega), b2_s m1, show M1 1 8 = nI li from (congrFun (m3.1 1 (by omega) (by omega)) 8).trans hC.2.2, b1_s (moved_at M1 hh (turn3 _ _)), nI_pred, sgG_neg]
  rw [show mvS h (fX11_turnOf (SUM (nowC M0) h (actS aw a)) (nI li)) = nextS (nowC M0) li h (actS aw a) from rfl, b2_s u1]
  rfl
theorem val_c' {M0 : mM} {t : Nat → Int32} {n li : Nat} (hC : Cc M0 t n li) : ∀ (m d : Nat) (s : Bool) (h aw : Nat) (M : mM), m < d → m ≤ 4 → eqK M0 M → Rs M → h < 24 → aw < 2 ^ n → ∃ M', fX11_valueOf d M (nI h) (nI aw) (nI m) (sgG s) = some (worG (nowC M0) li n m s h aw, M') ∧ eqK M0 M' ∧ Rs M' := by
  have h7 := hC.2.1.1
  intro m
  induction m with
  | zero =>
    intro d s h aw M hd _ hK hS hh hw
    obtain ⟨d, rfl⟩ : ∃ j, d = j + 1 := ⟨d - 1, by omega⟩
    refine ⟨M, ?_, hK, hS⟩
    show fX11_valueOf_b (fX11_valueOf d) M (nI h) (nI aw) (nI 0) (sgG s) = _
    unfold fX11_valueOf_b
    rw [if_neg (show ¬ (0 : Int32) < nI 0 by decide)]
    rfl
  | succ m ih =>
    intro d s h aw M hd hm hK hS hh hw
    obtain ⟨d, rfl⟩ : ∃ j, d = j + 1 := ⟨d - 1, by omega⟩
    have hrec : ∀ (h aw : Nat) (M : mM), eqK M0 M → Rs M → h < 24 → aw < 2 ^ n → ∃ M', fX11_valueOf d M (nI h) (nI aw) (nI m) (sgG (!s)) = some (worG (nowC M0) li n m (!s) h aw, M') ∧ eqK M0 M' ∧ Rs M' := fun h aw M k1 k2 k3 k4 => ih d (!s) h aw M (by omega) (by omega) k1 k2 k3 k4
    obtain ⟨M1, m1, m2, m3⟩ := valBy_c (s := s) hC hrec hK hS hh hw (show 0 ≤ n by omega)
    have loop : ∀ (c k fuel : Nat) (M1 : mM), k + c = n → c < fuel → eqK M0 M1 → Rs M1 → ∃ M', fX11_valueOf_L21 (fX11_valueOf d) fuel M1 (nI h) (nI aw) (nI (m + 1)) (sgG s) (bestG (valG (nowC M0) li n m s h aw) s k).1 (nI (k + 1)) = some (worG (nowC M0) li n (m + 1) s h aw, M') ∧ eqK M0 M' ∧ Rs M' := by
      intro c
      induction c with
      | zero =>
        intro k fuel M1 hk hf k1 s1
        obtain ⟨f, rfl⟩ : ∃ j, fuel = j + 1 := ⟨fuel - 1, by omega⟩
        refine ⟨M1, ?_, k1, s1⟩
        show fX11_valueOf_L21_b (fX11_valueOf d) (fX11_valueOf_L21 (fX11_valueOf d) f) M1 _ _ _ _ _ (nI (k + 1)) = _
        unfold fX11_valueOf_L21_b
        rw [show M1 1 0 = nI n from (congrFun (k1.1 1 (by omega) (by omega)) 0).trans hC.2.1.2.1, if_pos (nI_lt (by omega) (by omega)), show k = n by omega]
        rfl
      | succ c ihc =>
        intro k fuel M1 hk hf k1 s1
        obtain ⟨f, rfl⟩ : ∃ j, fuel = j + 1 := ⟨fuel - 1, by omega⟩
        obtain ⟨M2, u1, u2, u3⟩ := valBy_c (s := s) hC hrec k1 s1 hh hw (show k + 1 ≤ n by omega)
        obtain ⟨M3, w1, w2⟩ := ihc (k + 1) f M2 (by omega) (by omega) u2 u3
        refine ⟨M3, ?_, w2⟩
        show fX11_valueOf_L21_b (fX11_valueOf d) (fX11_valueOf_L21 (fX11_valueOf d) f) M1 _ _ _ _ _ (nI (k + 1)) = _
        unfold fX11_valueOf_L21_b
        rw [show M1 1 0 = nI n from (congrFun (k1.1 1 (by omega) (by omega)) 0).trans hC.2.1.2.1, if_neg (nI_nlt (by omega) (by omega)), b2_s u1, nI_1, ← w1]
        obtain ⟨j, hj, ej⟩ := best_in (valG (nowC M0) li n m s h aw) s k
        have kc := keep_c (s := s) (v := valG (nowC M0) li n m s h aw (k + 1)) (b := (bestG (valG (nowC M0) li n m s h aw) s k).1) (val_bd (by omega)) (by rw [ej]; exact val_bd (by omega))
        have eB : bestG (valG (nowC M0) li n m s h aw) s (k + 1) = if beG s (valG (nowC M0) li n m s h aw (k + 1)) (bestG (valG (nowC M0) li n m s h aw) s k).1 then (valG (nowC M0) li n m s h aw (k + 1), k + 1) else bestG (valG (nowC M0) li n m s h aw) s k := rfl
        rw [eB]
        cases g : beG s (valG (nowC M0) li n m s h aw (k + 1)) (bestG (valG (nowC M0) li n m s h aw) s k).1
        · rw [if_pos (kc.mpr g)]; rfl
        · rw [if_neg (fun q => by rw [kc.mp q] at g; exact absurd g (by decide))]; rfl
    obtain ⟨M2, u1, u2⟩ := loop n 0 5000 M1 (by omega) (by omega) m2 m3
    refine ⟨M2, ?_, u2⟩
    show fX11_valueOf_b (fX11_valueOf d) M (nI h) (nI aw) (nI (m + 1)) (sgG s) = _
    unfold fX11_valueOf_b
    rw [if_pos (show (0 : Int32) < nI (m + 1) from nI_lt (a := 0) (by omega) (by omega)), b2_s (show fX11_valueBy (fX11_valueOf d) M 0 (nI h) (nI aw) (nI (m + 1)) (sgG s) = _ from m1)]
    exact u1
/-- what the model leaves alone in a game -/
def keepG (T T' : mM) : Prop := T' 1 = T 1 ∧ (∀ q, q ≠ 0 → q ≠ 1 → q ≠ 3 → T' q = T q) ∧ ∀ k, k ≠ 16 → T' 0 k = T 0 k
theorem keepG.refl (T : mM) : keepG T T := ⟨rfl, fun _ _ _ _ => rfl, fun _ _ => rfl⟩
theorem keepG.trans {A B C : mM} (h : keepG A B) (g : keepG B C) : keepG A C := ⟨g.1.trans h.1, fun q a b c => (g.2.1 q a b c).trans (h.2.1 q a b c), fun k hk => (g.2.2 k hk).trans (h.2.2 k hk)⟩
theorem val_m {X : mM} {n li : Nat} : ∀ (m d : Nat) (s : Bool) (h aw : Nat) (T : mM), m < d → m ≤ 4 → Vx X (T 1) n aw h li → ∃ T', fX12_worth d T (nI m) (bI s) = some (worG X li n m s h aw, T') ∧ keepG T T' ∧ ∀ m', m = m' + 1 → T' 0 16 = nI (bestG (valG X li n m' s h aw) s n).2 := by
  intro m
  induction m with
  | zero =>
    intro d s h aw T hd _ hV
    obtain ⟨d, rfl⟩ : ∃ j, d = j + 1 := ⟨d - 1, by omega⟩
    refine ⟨T, ?_, keepG.refl T, fun m' e => absurd e (by omega)⟩
    show fX12_worth_b (fX12_worth d) T (nI 0) (bI s) = _
    unfold fX12_worth_b
    rw [if_pos (show nI 0 = 0 from rfl)]
    rfl
  | succ m ih =>
    intro d s h aw T hd hm hV
    obtain ⟨d, rfl⟩ : ∃ j, d = j + 1 := ⟨d - 1, by omega⟩
    have h7 := hV.1.1
    have hh := hV.1.2.2.1
    have hw := hV.1.2.1
    -- one act
    have step : ∀ (a f : Nat) (b fo : Int32) (T1 : mM), a ≤ n → keepG T T1 → ∃ T2, keepG T T2 ∧ fX12_worth_L14 (fX12_worth d) (f + 1) T1 (nI (m + 1)) (bI s) b fo (nI a) = if fo < 0 then fX12_worth_L14 (fX12_worth d) f T2 (nI (m + 1)) (bI s) (valG X li n m s h aw a) (nI a) (nI (a + 1)) else if beG s (valG X li n m s h aw a) b then fX12_worth_L14 (fX12_worth d) f T2 (nI (m + 1)) (bI s) (valG X li n m s h aw a) (nI a) (nI (a + 1)) else fX12_worth_L14 (fX12_worth d) f T2 (nI (m + 1)) (bI s) b fo (nI (a + 1)) := by
      intro a f b fo T1 ha hk
      have V1 : Vx X (T1 1) n aw h li := by rw [hk.1]; exact hV
      obtain ⟨Ta, Tb, Tc, d1, d2, d3, d4, d5, d6, d7⟩ := mFwd V1 ha
      obtain ⟨T3, r1, r2, -⟩ := ih d (!s) (nextS X li h (actS aw a)) (actS aw a) Tc (by omega) (by omega) d5
      have V3 : Vx X (T3 1) n (actS aw a) (nextS X li h (actS aw a)) li := by rw [r2.1]; exact d5
      obtain ⟨Td, Te, b1', b2', b3, b4, b5⟩ := mBack ha hw hh V3
      have eT : Te 1 = T 1 := by
        have o1 : offE n (T1 1) (Tc 1) := d6
        have o2 : offE n (T3 1) (Te 1) := b4
        rw [r2.1] at o2
        rw [hk.1] at o1
        exact Vx_uniq hV b3 (o1.trans o2)
      refine ⟨Te, ⟨eT, fun q a b c => (b5 q b).trans ((r2.2.1 q a b c).trans ((d7 q b c).trans (hk.2.1 q a b c))), fun k hk16 => ?_⟩, ?_⟩
      · rw [b5 0 (by omega), r2.2.2 k hk16, d7 0 (by omega) (by omega)]; exact hk.2.2 k hk16
      · show fX12_worth_L14_b (fX12_worth d) (fX12_worth_L14 (fX12_worth d) f) T1 (nI (m + 1)) (bI s) b fo (nI a) = _
        have L : ∀ w : Int32, w = bI (!s) → fX12_worth_L62 (fX12_worth d) (fX12_worth_L14 (fX12_worth d) f) Tc (nI (m + 1)) (bI s) b fo (nI a) (byS X li h (actS aw a)) (byS X li h (actS aw a)) (nI m) w = if fo < 0 then fX12_worth_L14 (fX12_worth d) f Te (nI (m + 1)) (bI s) (valG X li n m s h aw a) (nI a) (nI (a + 1)) else if beG s (valG X li n m s h aw a) b then fX12_worth_L14 (fX12_worth d) f Te (nI (m + 1)) (bI s) (valG X li n m s h aw a) (nI a) (nI (a + 1)) else fX12_worth_L14 (fX12_worth d) f Te (nI (m + 1)) (bI s) b fo (nI (a + 1)) := by
          intro w hw'
          unfold fX12_worth_L62
          rw [hw', b2_s r1, b2_s b1', b2_s b2', nI_1]
          rw [show byS X li h (actS aw a) + worG X li n m (!s) (nextS X li h (actS aw a)) (actS aw a) = valG X li n m s h aw a from rfl]
          by_cases z : fo < 0
          · rw [if_pos z, if_pos z]
          · rw [if_neg z, if_neg z]
            unfold beG
            cases s
            · rw [if_pos (show bI false = 0 from rfl)]
              by_cases g : b ≤ valG X li n m false h aw a
              · rw [if_pos g, if_neg (by rw [if_neg (by decide), decide_eq_true_eq]; exact Int32.not_lt.mpr g)]
              · rw [if_neg g, if_pos (by rw [if_neg (by decide), decide_eq_true_eq]; exact Int32.not_le.mp g)]
            · rw [if_neg (show ¬ bI true = 0 by decide)]
              by_cases g : valG X li n m true h aw a ≤ b
              · rw [if_pos g, if_neg (by rw [if_pos rfl, decide_eq_true_eq]; exact Int32.not_lt.mpr g)]
              · rw [if_neg g, if_pos (by rw [if_pos rfl, decide_eq_true_eq]; exact Int32.not_le.mp g)]
        unfold fX12_worth_L14_b
        rw [g0N, c0N, V1.2.2.1.1, if_neg (nI_nlt (by omega) (by omega)), b2_s d1, b2_s d2, b1_s d3, b2_s d4, nI_pred]
        cases s
        · rw [if_pos (show bI false = 0 from rfl)]; exact L 1 rfl
        · rw [if_neg (show ¬ bI true = 0 by decide)]; exact L 0 rfl
    have loop : ∀ (c k fuel : Nat) (T1 : mM), k + c = n → c < fuel → keepG T T1 → ∃ T', fX12_worth_L14 (fX12_worth d) fuel T1 (nI (m + 1)) (bI s) (bestG (valG X li n m s h aw) s k).1 (nI (bestG (valG X li n m s h aw) s k).2) (nI (k + 1)) = some (worG X li n (m + 1) s h aw, T') ∧ keepG T T' ∧ T' 0 16 = nI (bestG (valG X li n m s h aw) s n).2 := by
      intro c
      induction c with
      | zero =>
        intro k fuel T1 hk hf hkT
        obtain ⟨f, rfl⟩ : ∃ j, fuel = j + 1 := ⟨fuel - 1, by omega⟩
        have ek : k = n := by omega
        subst ek
        refine ⟨wr T1 0 16 (nI (bestG (valG X li k m s h aw) s k).2), ?_, ⟨(wr_q _ _ (by omega)).trans hkT.1, fun q a b c => (wr_q _ _ a).trans (hkT.2.1 q a b c), fun j hj => (wr_k _ hj).trans (hkT.2.2 j hj)⟩, wr_s _ _ _ _⟩
        show fX12_worth_L14_b (fX12_worth d) (fX12_worth_L14 (fX12_worth d) f) T1 _ _ _ _ (nI (k + 1)) = _
        unfold fX12_worth_L14_b
        rw [g0N, c0N, hkT.1, hV.2.2.1.1, if_pos (nI_lt (by omega) (by omega))]
        rfl
      | succ c ihc =>
        intro k fuel T1 hk hf hkT
        obtain ⟨f, rfl⟩ : ∃ j, fuel = j + 1 := ⟨fuel - 1, by omega⟩
        obtain ⟨T2, k2, e2⟩ := step (k + 1) f (bestG (valG X li n m s h aw) s k).1 (nI (bestG (valG X li n m s h aw) s k).2) T1 (by omega) hkT
        obtain ⟨T', t1, t2⟩ := ihc (k + 1) f T2 (by omega) (by omega) k2
        refine ⟨T', ?_, t2⟩
        have b2 := (best_spec (valG X li n m s h aw) s k).1
        rw [e2, if_neg (nI_pos (by omega)), ← t1]
        have eB : bestG (valG X li n m s h aw) s (k + 1) = if beG s (valG X li n m s h aw (k + 1)) (bestG (valG X li n m s h aw) s k).1 then (valG X li n m s h aw (k + 1), k + 1) else bestG (valG X li n m s h aw) s k := rfl
        rw [eB]
        cases beG s (valG X li n m s h aw (k + 1)) (bestG (valG X li n m s h aw) s k).1 <;> rfl
    obtain ⟨T2, k2, e2⟩ := step 0 4999 0 (-1) T (by omega) (keepG.refl T)
    obtain ⟨T', t1, t2, t3⟩ := loop n 0 4999 T2 (by omega) (by omega) k2
    refine ⟨T', ?_, t2, fun m' e => by rw [show m' = m by omega]; exact t3⟩
    show fX12_worth_b (fX12_worth d) T (nI (m + 1)) (bI s) = _
    unfold fX12_worth_b
    rw [if_neg (nI_ne0 (by omega) (by omega)), show fX12_worth_L14 (fX12_worth d) 5000 T (nI (m + 1)) (bI s) 0 (-1) 0 = _ from e2, if_pos (by decide)]
    exact t1
theorem rel_game {M T M' T' : mM} (hR : Rel M T) (h : eqK M M') (hs : Rs M') (hk : keepG T T') : Rel M' T' :=
  hR.scr (fun q g1 g2 => h.1 q g1 (by omega)) h.2 hs hk.1 (keepR_of (fun k hk' => hk.2.2 k (by omega)) (fun q hq => hk.2.1 q (by omega) (by omega) (by omega)))
theorem pm_game {M T : mM} (hR : Rel M T) (a0 : Int32) : ∃ (r : Int32) (M' : mM) (T' : mM), fX11_game M a0 = some (r, M') ∧ fX12_game T a0 = some (r, T') ∧ Rel M' T' := by
  obtain ⟨n, aw, h, no, li, la, hV, hX, hC, a128, h24, n2, a5, h6, l8⟩ := hR.look
  unfold fX11_game fX12_game
  rw [show fX12_in (Int32.toInt64 a0) 1 4 = fX11_isIn a0 1 4 from in_eq a0 1 4]
  by_cases h1 : fX11_isIn a0 1 4 = 0
  · exact ⟨-1, M, T, by rw [if_pos h1], by rw [if_pos h1], hR⟩
  rw [if_neg h1, if_neg h1]
  obtain ⟨N, -, hN, rfl⟩ := isIn_yes (a := 1) (b := 4) (by omega) (by omega) h1
  obtain ⟨M', m1, m2, m3⟩ := val_c' hC N 6 true h aw M (by omega) hN (eqK.refl M) hR.2.1 h24 hX.1.2.1
  obtain ⟨T', t1, t2, -⟩ := val_m (X := nowC M) (n := n) (li := li) N 6 true h aw T (by omega) hN hX
  refine ⟨worG (nowC M) li n N true h aw + 10, M', T', ?_, ?_, rel_game hR m2 m3 t2⟩
  · rw [h6, a5, b2_s (show fX11_valueOf 6 M (nI h) (nI aw) (nI N) 1 = _ from m1)]
  · rw [b2_s (show fX12_worth 6 T (nI N) 1 = _ from t1)]
theorem pm_play {M T : mM} (hR : Rel M T) (a0 : Int32) : ∃ (r : Int32) (M' : mM) (T' : mM), fX11_play M a0 = some (r, M') ∧ fX12_play T a0 = some (r, T') ∧ Rel M' T' := by
  obtain ⟨n, aw, h, no, li, la, hV, hX, hC, a128, h24, n2, a5, h6, l8⟩ := hR.look
  have h7 := hX.1.1
  unfold fX11_play fX12_play
  rw [show fX12_in (Int32.toInt64 a0) 1 4 = fX11_isIn a0 1 4 from in_eq a0 1 4]
  by_cases h1 : fX11_isIn a0 1 4 = 0
  · exact ⟨-1, M, T, by rw [if_pos h1], by rw [if_pos h1], hR⟩
  rw [if_neg h1, if_neg h1]
  obtain ⟨N, hN1, hN, rfl⟩ := isIn_yes (a := 1) (b := 4) (by omega) (by omega) h1
  obtain ⟨m, rfl⟩ : ∃ m, N = m + 1 := ⟨N - 1, by omega⟩
  obtain ⟨M1, m1, m2, m3⟩ := val_c' hC (m + 1) 6 true h aw M (by omega) hN (eqK.refl M) hR.2.1 h24 hX.1.2.1
  obtain ⟨T', t1, t2, t3⟩ := val_m (X := nowC M) (n := n) (li := li) (m + 1) 6 true h aw T (by omega) hN hX
  obtain ⟨b1', b2', b3', -⟩ := best_spec (valG (nowC M) li n m true h aw) true n
  have eW : worG (nowC M) li n (m + 1) true h aw = (bestG (valG (nowC M) li n m true h aw) true n).1 := rfl
  have hrec : ∀ (h aw : Nat) (M2 : mM), eqK M M2 → Rs M2 → h < 24 → aw < 2 ^ n → ∃ M', fX11_valueOf 6 M2 (nI h) (nI aw) (nI m) (sgG (!true)) = some (worG (nowC M) li n m (!true) h aw, M') ∧ eqK M M' ∧ Rs M' := fun h aw M2 k1 k2 k3 k4 => val_c' hC m 6 (!true) h aw M2 (by omega) (by omega) k1 k2 k3 k4
  have loop : ∀ (c k fuel : Nat) (M2 : mM), k + c = (bestG (valG (nowC M) li n m true h aw) true n).2 → c < fuel → eqK M M2 → Rs M2 → ∃ M', fX11_play_L34 fuel M2 (nI (m + 1)) (worG (nowC M) li n (m + 1) true h aw) (nI k) = some (nI (bestG (valG (nowC M) li n m true h aw) true n).2, M') ∧ eqK M M' ∧ Rs M' := by
    intro c
    induction c with
    | zero =>
      intro k fuel M2 hk hf k1 s1
      obtain ⟨f, rfl⟩ : ∃ j, fuel = j + 1 := ⟨fuel - 1, by omega⟩
      have x1 : M2 1 = M 1 := k1.1 1 (by omega) (by omega)
      have ek : (bestG (valG (nowC M) li n m true h aw) true n).2 = k := by omega
      rw [ek]
      show ∃ M', fX11_play_L34_b (fX11_play_L34 f) M2 _ _ (nI k) = _ ∧ _
      unfold fX11_play_L34_b
      rw [x1, n2, h6, a5]
      by_cases z : n ≤ k
      · exact ⟨M2, by rw [if_pos (nI_le z (by omega))], k1, s1⟩
      · obtain ⟨M3, u1, u2, u3⟩ := valBy_c (s := true) hC hrec k1 s1 h24 hX.1.2.1 (show k ≤ n by omega)
        refine ⟨M3, ?_, u2, u3⟩
        rw [if_neg (nI_ge (by omega) (by omega)), b2_s (show fX11_valueBy (fX11_valueOf 6) M2 (nI k) (nI h) (nI aw) (nI (m + 1)) 1 = _ from u1), if_pos (by rw [eW, ← b2', ek])]
    | succ c ihc =>
      intro k fuel M2 hk hf k1 s1
      obtain ⟨f, rfl⟩ : ∃ j, fuel = j + 1 := ⟨fuel - 1, by omega⟩
      have x1 : M2 1 = M 1 := k1.1 1 (by omega) (by omega)
      obtain ⟨M3, u1, u2, u3⟩ := valBy_c (s := true) hC hrec k1 s1 h24 hX.1.2.1 (show k ≤ n by omega)
      obtain ⟨M4, w1, w2⟩ := ihc (k + 1) f M3 (by omega) (by omega) u2 u3
      refine ⟨M4, ?_, w2⟩
      show fX11_play_L34_b (fX11_play_L34 f) M2 _ _ (nI k) = _
      unfold fX11_play_L34_b
      rw [x1, n2, h6, a5, if_neg (nI_ge (by omega) (by omega)), b2_s (show fX11_valueBy (fX11_valueOf 6) M2 (nI k) (nI h) (nI aw) (nI (m + 1)) 1 = _ from u1), if_neg (by rw [eW]; exact b3' k (by omega)), nI_1]
      exact w1
  obtain ⟨M2, u1, u2, u3⟩ := loop (bestG (valG (nowC M) li n m true h aw) true n).2 0 5000 M1 (by omega) (by omega) m2 m3
  have bd := wor_bd (X := nowC M) (li := li) (n := n) (m + 1) true h aw (by omega)
  have hin : fX11_isIn (worG (nowC M) li n (m + 1) true h aw) (-4) 4 = 1 := by
    rw [isIn_eq, if_pos]
    refine ⟨Int32.le_iff_toInt_le.mpr ?_, Int32.le_iff_toInt_le.mpr ?_⟩
    · show (-4 : Int) ≤ _; omega
    · show _ ≤ (4 : Int); omega
  refine ⟨nI (bestG (valG (nowC M) li n m true h aw) true n).2, M2, T', ?_, ?_, rel_game hR u2 u3 t2⟩
  · rw [h6, a5, b2_s (show fX11_valueOf 6 M (nI h) (nI aw) (nI (m + 1)) 1 = _ from m1)]
    exact u1
  · rw [b2_s (show fX12_worth 6 T (nI (m + 1)) 1 = _ from t1), show fX12_in (Int32.toInt64 (worG (nowC M) li n (m + 1) true h aw)) (-4) 4 = 1 from (in_eq _ (-4) 4).trans hin, if_neg (by decide), t3 m rfl]
