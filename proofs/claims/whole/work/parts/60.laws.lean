/-! long ago: span, liar -/
def dueS (law x : Nat) : Nat := (law % 24 + x * (law / 24) + (1464 - x)) % 24
set_option maxRecDepth 100000 in
theorem due_c : ∀ law, law < 72 → ∀ x, x < 61 → fX11_moved (fun _ _ => 0) (irem (nI law) 24) (nI x * (nI law / 24 - 1)) = some (nI (dueS law x)) := by decide +kernel
set_option maxRecDepth 100000 in
theorem due_m : ∀ law, law < 72 → ∀ x, x < 61 → fX12_around (nI (law % 24) + (nI (law / 24) - 1) * nI x) = nI (dueS law x) := by decide +kernel
theorem wr_same (M : mM) (q k : Nat) : wr M q k (M q k) = M := by
  funext q' k'
  rw [wr_at]
  by_cases h : q' = q ∧ k' = k
  · rw [if_pos h, h.1, h.2]
  · rw [if_neg h]
theorem wr_wr (M : mM) (q k : Nat) (v w : Int32) : wr (wr M q k v) q k w = wr M q k w := by
  funext q' k'
  rw [wr_at, wr_at, wr_at]
  by_cases h : q' = q ∧ k' = k
  · rw [if_pos h, if_pos h]
  · rw [if_neg h, if_neg h, if_neg h]
/-- whether a law fits the REPORTS from a place on, but for one -/
def fitF (X : mM) (law : Nat) (but : Option Nat) : Nat → Nat → Bool
  | 0, _ => true
  | d + 1, r => (decide (but = some r) || decide (nI (dueS law (X 5 r).toNatClampNeg) = X 6 r)) && fitF X law but d (r + 1)
def cntU (P : Nat → Bool) : Nat → Nat → Nat
  | 0, _ => 0
  | d + 1, k => (if P k then 1 else 0) + cntU P d (k + 1)
def firU (P : Nat → Bool) : Nat → Nat → Option Nat
  | 0, _ => none
  | d + 1, k => if P k then some k else firU P d (k + 1)
theorem cntU_add (P : Nat → Bool) (b : Nat) : ∀ a k, cntU P (a + b) k = cntU P a k + cntU P b (k + a) := by
  intro a
  induction a with
  | zero => intro k; rw [Nat.zero_add, Nat.add_zero]; show _ = 0 + _; rw [Nat.zero_add]
  | succ a ih =>
    intro k
    rw [Nat.add_right_comm]
    show (if P k then 1 else 0) + cntU P (a + b) (k + 1) = (if P k then 1 else 0) + cntU P a (k + 1) + cntU P b (k + (a + 1))
    rw [ih, show k + 1 + a = k + (a + 1) by omega]
    exact (Nat.add_assoc _ _ _).symm
theorem cntU_le (P : Nat → Bool) : ∀ d k, cntU P d k ≤ d := by
  intro d
  induction d with
  | zero => intro k; exact Nat.le_refl 0
  | succ d ih =>
    intro k
    have := ih (k + 1)
    show (if P k then 1 else 0) + cntU P d (k + 1) ≤ d + 1
    split <;> omega
theorem cntU_none (P : Nat → Bool) : ∀ d k, (∀ j, k ≤ j → j < k + d → P j = false) → cntU P d k = 0 := by
  intro d
  induction d with
  | zero => intro k _; rfl
  | succ d ih =>
    intro k h
    show (if P k then 1 else 0) + cntU P d (k + 1) = 0
    rw [h k (by omega) (by omega), ih (k + 1) (fun j h1 h2 => h j (by omega) (by omega))]
    rfl
theorem cntU_fir (P : Nat → Bool) : ∀ d k, (cntU P d k = 0 ↔ firU P d k = none) := by
  intro d
  induction d with
  | zero => intro k; exact ⟨fun _ => rfl, fun _ => rfl⟩
  | succ d ih =>
    intro k
    show ((if P k then 1 else 0) + cntU P d (k + 1) = 0 ↔ (if P k then some k else firU P d (k + 1)) = none)
    cases P k
    · simp only [Bool.false_eq_true, if_false, Nat.zero_add]; exact ih (k + 1)
    · simp
theorem firU_add (P : Nat → Bool) (b : Nat) : ∀ a k, firU P (a + b) k = (firU P a k).or (firU P b (k + a)) := by
  intro a
  induction a with
  | zero => intro k; rw [Nat.zero_add, Nat.add_zero]; rfl
  | succ a ih =>
    intro k
    rw [Nat.add_right_comm]
    show (if P k then some k else firU P (a + b) (k + 1)) = (if P k then some k else firU P a (k + 1)).or (firU P b (k + (a + 1)))
    cases P k
    · simp only [Bool.false_eq_true, if_false]
      rw [ih, show k + 1 + a = k + (a + 1) by omega]
    · rfl
theorem firU_lt (P : Nat → Bool) : ∀ d k l, firU P d k = some l → l < k + d := by
  intro d
  induction d with
  | zero => intro k l h; exact absurd h (by simp [firU])
  | succ d ih =>
    intro k l h
    unfold firU at h
    split at h
    · have := Option.some.inj h; omega
    · have := ih (k + 1) l h; omega
theorem noB_is {z : Int32} {but : Option Nat} {r : Nat} (hz : ∀ j : Nat, j < 2 ^ 31 → ¬ nI j = z) (hb : ∀ b, but = some b → b < 2 ^ 31) (hr : r < 2 ^ 31) : (nI r = noB z but ↔ but = some r) := by
  cases but with
  | none => exact ⟨fun h => absurd h (hz r hr), fun h => absurd h (by simp)⟩
  | some b =>
    have := hb b rfl
    exact ⟨fun h => by rw [(nI_eq hr this).mp h], fun h => by rw [← Option.some.inj h]; rfl⟩
theorem nI_nem {z : Int32} (hz : z < 0) : ∀ j : Nat, j < 2 ^ 31 → ¬ nI j = z := fun j hj e => by
  rw [← e] at hz
  exact nI_pos hj hz
theorem fits_at {M : mM} {t : Nat → Int32} {rp law : Nat} (but : Option Nat) (hb : ∀ b, but = some b → b < 2 ^ 31) (hr : Rr (nowC M) t rp) (hl : law < 72) : fX11_fits M (nI law) (noB (-3) but) = some (if fitF (nowC M) law but rp 0 then 1 else 0) := by
  obtain ⟨r6, r1, r2, r3⟩ := hr
  have r1' : M 1 11 = nI rp := r1
  have key : ∀ (d r fuel : Nat), r + d = rp → d < fuel → fX11_fits_L10 fuel M (nI law) (noB (-3) but) (nI law / 24 - 1) (nI r) = some (if fitF (nowC M) law but d r then 1 else 0) := by
    intro d
    induction d with
    | zero =>
      intro r fuel hd hf
      obtain ⟨f, rfl⟩ : ∃ j, fuel = j + 1 := ⟨fuel - 1, by omega⟩
      show fX11_fits_L10_b (fX11_fits_L10 f) M _ _ _ (nI r) = _
      unfold fX11_fits_L10_b
      rw [r1', if_pos (nI_le (by omega) (by omega))]
      rfl
    | succ d ih =>
      intro r fuel hd hf
      obtain ⟨f, rfl⟩ : ∃ j, fuel = j + 1 := ⟨fuel - 1, by omega⟩
      obtain ⟨a, b, a1, a2, a3, a4, a5, a6⟩ := r3 r (by omega)
      show fX11_fits_L10_b (fX11_fits_L10 f) M _ _ _ (nI r) = some (if (decide (but = some r) || decide (nI (dueS law (nowC M 5 r).toNatClampNeg) = nowC M 6 r)) && fitF (nowC M) law but d (r + 1) then 1 else 0)
      unfold fX11_fits_L10_b
      rw [r1', if_neg (nI_ge (by omega) (by omega)), nI_1, ih (r + 1) f (by omega) (by omega), gd_t (ix_nI (by omega) (by omega)), tn_nI (by omega), show M 6 r = nI a from a3, show M 7 r = nI b from a4, b1_s (show fX11_moved M (irem (nI law) 24) (nI a * (nI law / 24 - 1)) = some (nI (dueS law a)) from due_c law hl a (by omega)), gd_t (ix_nI (by omega) (by omega)), a3, a4, nI_clamp (by omega)]
      by_cases h1 : but = some r
      · rw [if_pos ((noB_is (nI_nem (by decide)) hb (by omega)).mpr h1), decide_eq_true h1, Bool.true_or, Bool.true_and]
      · rw [if_neg (fun q => h1 ((noB_is (nI_nem (by decide)) hb (by omega)).mp q)), decide_eq_false h1, Bool.false_or]
        by_cases h2 : nI (dueS law a) = nI b
        · rw [if_pos h2, decide_eq_true h2, Bool.true_and]
        · rw [if_neg h2, decide_eq_false h2]; rfl
  unfold fX11_fits
  exact key rp 0 5000 (by omega) (by omega)
theorem someFits_at {M : mM} {t : Nat → Int32} {rp : Nat} (but : Option Nat) (hb : ∀ b, but = some b → b < 2 ^ 31) (hr : Rr (nowC M) t rp) : fX11_someFits M (noB (-3) but) = some (if cntU (fun l => fitF (nowC M) l but rp 0) 72 0 = 0 then 0 else 1) := by
  have key : ∀ (d k fuel : Nat), k + d = 72 → d < fuel → fX11_someFits_L2 fuel M (noB (-3) but) (nI k) = some (if cntU (fun l => fitF (nowC M) l but rp 0) d k = 0 then 0 else 1) := by
    intro d
    induction d with
    | zero =>
      intro k fuel hd hf
      obtain ⟨f, rfl⟩ : ∃ j, fuel = j + 1 := ⟨fuel - 1, by omega⟩
      show fX11_someFits_L2_b (fX11_someFits_L2 f) M _ (nI k) = _
      unfold fX11_someFits_L2_b
      rw [if_pos (show (72 : Int32) ≤ nI k from nI_le (a := 72) (by omega) (by omega))]
      rfl
    | succ d ih =>
      intro k fuel hd hf
      obtain ⟨f, rfl⟩ : ∃ j, fuel = j + 1 := ⟨fuel - 1, by omega⟩
      show fX11_someFits_L2_b (fX11_someFits_L2 f) M _ (nI k) = some (if (if fitF (nowC M) k but rp 0 then 1 else 0) + cntU (fun l => fitF (nowC M) l but rp 0) d (k + 1) = 0 then 0 else 1)
      unfold fX11_someFits_L2_b
      rw [if_neg (show ¬ (72 : Int32) ≤ nI k from nI_ge (b := 72) (by omega) (by omega)), b1_s (fits_at but hb hr (show k < 72 by omega)), nI_1, ih (k + 1) f (by omega) (by omega)]
      cases fitF (nowC M) k but rp 0
      · simp only [Bool.false_eq_true, if_false, if_true, Nat.zero_add]
      · simp only [if_true]
        rw [if_neg (show ¬ (1 : Int32) = 0 by decide), if_neg (by omega)]
  unfold fX11_someFits
  exact key 72 0 5000 (by omega) (by omega)
/-- the first law found, as the model keeps it -/
def fstS (T : mM) : Option Nat → Prop
  | none => True
  | some l => T 0 17 = nI (l / 24) - 1 ∧ T 0 18 = nI (l % 24)
def keepF (T0 T : mM) : Prop := (∀ q, q ≠ 0 → T q = T0 q) ∧ ∀ k, k ≠ 17 → k ≠ 18 → T 0 k = T0 0 k
theorem bI_0 (b : Bool) : (bI b = 0) ↔ b = false := by cases b <;> decide
/-- one law is held against the REPORTS, by the model -/
theorem fitL {X T0 : mM} {rp l : Nat} (but : Option Nat) (hb : ∀ b, but = some b → b < 2 ^ 31) (hr : Rr X (T0 1) rp) (hl : l < 72) (k4 : mM → Int32 → Int32 → Int32 → Option (Int32 × mM)) (k9 : mM → Int32 → Int32 → Int32 → Int32 → Option (Int32 × mM)) (c : Int32) (T : mM) (hT : T 1 = T0 1) :
    fX12_fitting_L25 k4 k9 5000 T (noB (-1) but) c (nI (l / 24) - 1) (nI (l % 24)) 1 0 = if fitF X l but rp 0 then (if c = 0 then k9 (wr (wr T 0 17 (nI (l / 24) - 1)) 0 18 (nI (l % 24))) (noB (-1) but) (c + 1) (nI (l / 24) - 1) (nI (l % 24) + 1) else k9 T (noB (-1) but) (c + 1) (nI (l / 24) - 1) (nI (l % 24) + 1)) else k9 T (noB (-1) but) c (nI (l / 24) - 1) (nI (l % 24) + 1) := by
  obtain ⟨r6, r1, r2, r3⟩ := hr
  have key : ∀ (d r fuel : Nat) (acc : Bool), r + d = rp → d < fuel → fX12_fitting_L25 k4 k9 fuel T (noB (-1) but) c (nI (l / 24) - 1) (nI (l % 24)) (bI acc) (nI r) = if (acc && fitF X l but d r) then (if c = 0 then k9 (wr (wr T 0 17 (nI (l / 24) - 1)) 0 18 (nI (l % 24))) (noB (-1) but) (c + 1) (nI (l / 24) - 1) (nI (l % 24) + 1) else k9 T (noB (-1) but) (c + 1) (nI (l / 24) - 1) (nI (l % 24) + 1)) else k9 T (noB (-1) but) c (nI (l / 24) - 1) (nI (l % 24) + 1) := by
    intro d
    induction d with
    | zero =>
      intro r fuel acc hd hf
      obtain ⟨f, rfl⟩ : ∃ j, fuel = j + 1 := ⟨fuel - 1, by omega⟩
      show fX12_fitting_L25_b k4 k9 (fX12_fitting_L25 k4 k9 f) T _ _ _ _ _ (nI r) = _
      unfold fX12_fitting_L25_b fX12_fitting_L116 fX12_fitting_L120 fX12_fitting_L138 fX12_fitting_L142
      rw [g6N, c6N, hT, r2, if_pos (nI_le (by omega) (by omega))]
      simp only [wr_same, Int32.add_zero]
      have e : (acc && fitF X l but 0 r) = acc := Bool.and_true acc
      rw [e]
      cases acc
      · rw [show bI false = 0 from rfl, if_pos rfl, if_pos rfl, if_pos rfl]; rfl
      · rw [show bI true = 1 from rfl, if_neg (show ¬ (1 : Int32) = 0 by decide), if_pos rfl]
        by_cases hc : c = 0
        · rw [if_pos hc, if_pos hc, if_neg (show ¬ (1 : Int32) = 0 by decide), if_pos hc, if_neg (show ¬ (1 : Int32) = 0 by decide)]
        · rw [if_neg hc, if_neg hc, if_neg (show ¬ (1 : Int32) = 0 by decide), if_neg hc, if_neg (show ¬ (1 : Int32) = 0 by decide)]
    | succ d ih =>
      intro r fuel acc hd hf
      obtain ⟨f, rfl⟩ : ∃ j, fuel = j + 1 := ⟨fuel - 1, by omega⟩
      obtain ⟨a, b, a1, a2, a3, a4, a5, a6⟩ := r3 r (by omega)
      show fX12_fitting_L25_b k4 k9 (fX12_fitting_L25 k4 k9 f) T _ _ _ _ _ (nI r) = _
      unfold fX12_fitting_L25_b
      have i1 : (43 : Int32) + 2 * nI r = nI (43 + 2 * r) := by
        rw [show (2 : Int32) * nI r = nI (2 * r) from pk_mul 2 r]; exact nI_add 43 _
      rw [g6N, c6N, hT, r2, if_neg (nI_ge (by omega) (by omega)), i1, nI_1, nI_1, gx (by omega), gx (by omega), tn_nI (by omega), tn_nI (by omega), a5, show 43 + 2 * r + 1 = 44 + 2 * r by omega, a6, due_m l hl a (by omega)]
      have e0 := ih (r + 1) f false (by omega) (by omega)
      have e1 := ih (r + 1) f true (by omega) (by omega)
      rw [show bI false = 0 from rfl] at e0
      rw [show bI true = 1 from rfl] at e1
      have eF : fitF X l but (d + 1) r = ((decide (but = some r) || decide (nI (dueS l a) = nI b)) && fitF X l but d (r + 1)) := by
        show ((decide (but = some r) || decide (nI (dueS l (X 5 r).toNatClampNeg) = X 6 r)) && fitF X l but d (r + 1)) = _
        rw [a3, a4, nI_clamp (by omega)]
      rw [eF]
      cases acc
      · rw [if_pos (show bI false = 0 from rfl), e0]; rfl
      · rw [if_neg (show ¬ bI true = 0 by decide)]
        by_cases h1 : but = some r
        · rw [if_pos ((noB_is (nI_nem (by decide)) hb (by omega)).mpr h1), e1, decide_eq_true h1, Bool.true_or, Bool.true_and, Bool.true_and]
        · rw [if_neg (fun q => h1 ((noB_is (nI_nem (by decide)) hb (by omega)).mp q)), decide_eq_false h1, Bool.false_or]
          by_cases h2 : nI (dueS l a) = nI b
          · rw [if_pos h2, e1, decide_eq_true h2, Bool.true_and, Bool.true_and]
          · rw [if_neg h2, e0, decide_eq_false h2]; rfl
  have := key rp 0 5000 true (by omega) (by omega)
  rw [Bool.true_and] at this
  exact this
theorem fitRow {X T0 : mM} {rp s : Nat} (but : Option Nat) (hb : ∀ b, but = some b → b < 2 ^ 31) (hr : Rr X (T0 1) rp) (hs : s < 3) (k4 : mM → Int32 → Int32 → Int32 → Option (Int32 × mM)) : ∀ (e x c fuel : Nat) (f : Option Nat) (T : mM), x + e = 24 → e < fuel → c ≤ 24 * s + x → (c = 0 ↔ f = none) → keepF T0 T → fstS T f →
    ∃ T', fX12_fitting_L12 k4 fuel T (noB (-1) but) (nI c) (nI s - 1) (nI x) = k4 T' (noB (-1) but) (nI (c + cntU (fun l => fitF X l but rp 0) e (24 * s + x))) (nI s - 1 + 1) ∧ keepF T0 T' ∧ fstS T' (f.or (firU (fun l => fitF X l but rp 0) e (24 * s + x))) := by
  intro e
  induction e with
  | zero =>
    intro x c fuel f T hx hf hc hcf hk hs'
    obtain ⟨g, rfl⟩ : ∃ j, fuel = j + 1 := ⟨fuel - 1, by omega⟩
    refine ⟨T, ?_, hk, ?_⟩
    · show fX12_fitting_L12_b k4 (fX12_fitting_L12 k4 g) T _ _ _ (nI x) = _
      unfold fX12_fitting_L12_b
      rw [if_pos (show (24 : Int32) ≤ nI x from nI_le (a := 24) (by omega) (by omega))]
      rfl
    · show fstS T (f.or none)
      rw [Option.or_none]; exact hs'
  | succ e ih =>
    intro x c fuel f T hx hf hc hcf hk hs'
    obtain ⟨g, rfl⟩ : ∃ j, fuel = j + 1 := ⟨fuel - 1, by omega⟩
    have l1 : (24 * s + x) / 24 = s := by omega
    have l2 : (24 * s + x) % 24 = x := by omega
    have H := fitL (l := 24 * s + x) but hb hr (by omega) k4 (fX12_fitting_L12 k4 g) (nI c) T (hk.1 1 (by omega))
    rw [l1, l2, nI_1, nI_1] at H
    have eC : cntU (fun l => fitF X l but rp 0) (e + 1) (24 * s + x) = (if fitF X (24 * s + x) but rp 0 then 1 else 0) + cntU (fun l => fitF X l but rp 0) e (24 * s + (x + 1)) := rfl
    have eF : firU (fun l => fitF X l but rp 0) (e + 1) (24 * s + x) = if fitF X (24 * s + x) but rp 0 then some (24 * s + x) else firU (fun l => fitF X l but rp 0) e (24 * s + (x + 1)) := rfl
    rw [eC, eF]
    show ∃ T', fX12_fitting_L12_b k4 (fX12_fitting_L12 k4 g) T _ _ _ (nI x) = _ ∧ _
    unfold fX12_fitting_L12_b
    rw [if_neg (show ¬ (24 : Int32) ≤ nI x from nI_ge (b := 24) (by omega) (by omega)), H]
    cases hF : fitF X (24 * s + x) but rp 0
    · simp only [Bool.false_eq_true, if_false, Nat.zero_add]
      exact ih (x + 1) c g f T (by omega) (by omega) (by omega) hcf hk hs'
    · simp only [if_true]
      rw [← Nat.add_assoc]
      by_cases hc0 : c = 0
      · have hf0 := hcf.mp hc0
        rw [if_pos (show nI c = 0 by rw [hc0]; rfl), hf0]
        obtain ⟨T', t1, t2, t3⟩ := ih (x + 1) (c + 1) g (some (24 * s + x)) (wr (wr T 0 17 (nI s - 1)) 0 18 (nI x)) (by omega) (by omega) (by omega) ⟨fun q => absurd q (by omega), fun q => absurd q (by simp)⟩ ⟨fun q hq => by rw [wr_q _ _ hq, wr_q _ _ hq]; exact hk.1 q hq, fun k h1 h2 => by rw [wr_k _ h2, wr_k _ h1]; exact hk.2 k h1 h2⟩ ⟨by rw [wr_k _ (by omega), wr_s, l1], by rw [wr_s, l2]⟩
        exact ⟨T', t1, t2, t3⟩
      · rw [if_neg (show ¬ nI c = 0 from nI_ne0 (by omega) (by omega))]
        obtain ⟨l', rfl⟩ : ∃ l', f = some l' := by
          cases f with
          | none => exact absurd (hcf.mpr rfl) hc0
          | some l' => exact ⟨l', rfl⟩
        obtain ⟨T', t1, t2, t3⟩ := ih (x + 1) (c + 1) g (some l') T (by omega) (by omega) (by omega) ⟨fun q => absurd q (by omega), fun q => absurd q (by simp)⟩ hk hs'
        exact ⟨T', t1, t2, t3⟩
theorem fitting_at {X T : mM} {rp : Nat} (but : Option Nat) (hb : ∀ b, but = some b → b < 2 ^ 31) (hr : Rr X (T 1) rp) : ∃ T', fX12_fitting T (noB (-1) but) = some (nI (cntU (fun l => fitF X l but rp 0) 72 0), T') ∧ keepF T T' ∧ fstS T' (firU (fun l => fitF X l but rp 0) 72 0) := by
  have e1 : cntU (fun l => fitF X l but rp 0) 72 0 = cntU (fun l => fitF X l but rp 0) 24 0 + cntU (fun l => fitF X l but rp 0) 24 24 + cntU (fun l => fitF X l but rp 0) 24 48 := by
    rw [cntU_add _ 24 48 0, cntU_add _ 24 24 0]
  have e2 : firU (fun l => fitF X l but rp 0) 72 0 = ((firU (fun l => fitF X l but rp 0) 24 0).or (firU (fun l => fitF X l but rp 0) 24 24)).or (firU (fun l => fitF X l but rp 0) 24 48) := by
    rw [firU_add _ 24 48 0, firU_add _ 24 24 0]
  have n0 := cntU_fir (fun l => fitF X l but rp 0) 24 0
  have n1 := cntU_fir (fun l => fitF X l but rp 0) 24 24
  have b0 := cntU_le (fun l => fitF X l but rp 0) 24 0
  have b1 := cntU_le (fun l => fitF X l but rp 0) 24 24
  obtain ⟨T1, a1, a2, a3⟩ := fitRow (T0 := T) (s := 0) but hb hr (by omega) (fX12_fitting_L4 4999) 24 0 0 5000 none T (by omega) (by omega) (by omega) ⟨fun _ => rfl, fun _ => rfl⟩ ⟨fun _ _ => rfl, fun _ _ _ => rfl⟩ trivial
  rw [Nat.mul_zero, Nat.add_zero, Nat.zero_add] at a1
  rw [Nat.mul_zero, Nat.add_zero, Option.none_or] at a3
  obtain ⟨T2, u1, u2, u3⟩ := fitRow (T0 := T) (s := 1) but hb hr (by omega) (fX12_fitting_L4 4998) 24 0 (cntU (fun l => fitF X l but rp 0) 24 0) 5000 _ T1 (by omega) (by omega) (by omega) n0 a2 a3
  obtain ⟨T3, w1, w2, w3⟩ := fitRow (T0 := T) (s := 2) but hb hr (by omega) (fX12_fitting_L4 4997) 24 0 (cntU (fun l => fitF X l but rp 0) 24 0 + cntU (fun l => fitF X l but rp 0) 24 24) 5000 _ T2 (by omega) (by omega) (by omega) (by
    rw [Option.or_eq_none_iff, ← n0, ← n1]; omega) u2 u3
  refine ⟨T3, ?_, w2, by rw [e2]; exact w3⟩
  unfold fX12_fitting
  show fX12_fitting_L4_b (fX12_fitting_L4 4999) T (noB (-1) but) 0 (-1) = _
  unfold fX12_fitting_L4_b
  rw [if_neg (by decide)]
  rw [show fX12_fitting_L12 (fX12_fitting_L4 4999) 5000 T (noB (-1) but) 0 (-1) 0 = _ from a1]
  show fX12_fitting_L4_b (fX12_fitting_L4 4998) T1 (noB (-1) but) _ (nI 0 - 1 + 1) = _
  unfold fX12_fitting_L4_b
  rw [if_neg (by decide), show nI 0 - 1 + 1 = nI 1 - 1 by decide]
  rw [show fX12_fitting_L12 (fX12_fitting_L4 4998) 5000 T1 (noB (-1) but) _ (nI 1 - 1) 0 = _ from u1]
  show fX12_fitting_L4_b (fX12_fitting_L4 4997) T2 (noB (-1) but) _ (nI 1 - 1 + 1) = _
  unfold fX12_fitting_L4_b
  rw [if_neg (by decide), show nI 1 - 1 + 1 = nI 2 - 1 by decide]
  rw [show fX12_fitting_L12 (fX12_fitting_L4 4997) 5000 T2 (noB (-1) but) _ (nI 2 - 1) 0 = _ from w1]
  show fX12_fitting_L4_b (fX12_fitting_L4 4996) T3 (noB (-1) but) _ (nI 2 - 1 + 1) = _
  unfold fX12_fitting_L4_b
  rw [if_pos (by decide), e1]
theorem Rel.keepF {M T T' : mM} (hR : Rel M T) (h : keepF T T') : Rel M T' :=
  hR.scr (fun _ _ _ => rfl) (fun _ _ => rfl) hR.2.1 (h.1 1 (by omega)) (keepR_of (fun k hk => h.2 k (by omega) (by omega)) (fun q hq => h.1 q (by omega)))
theorem law_parts : ∀ l, l < 72 → nI l / 24 = nI (l / 24) ∧ irem (nI l) 24 = nI (l % 24) := by decide +kernel
theorem pm_span {M T : mM} (hR : Rel M T) (a0 : Int32) : ∃ (r : Int32) (T' : mM), fX11_span M a0 = some r ∧ fX12_span T a0 = some (r, T') ∧ Rel M T' := by
  obtain ⟨-, ⟨rp, hr⟩, -⟩ := hR.1
  unfold fX11_span fX12_span
  rw [show fX12_in (Int32.toInt64 a0) 0 2 = fX11_isIn a0 0 2 from in_eq a0 0 2]
  by_cases h1 : fX11_isIn a0 0 2 = 0
  · exact ⟨-1, T, by rw [if_pos h1], by rw [if_pos h1], hR⟩
  rw [if_neg h1, if_neg h1]
  have hb : ∀ b, (none : Option Nat) = some b → b < 2 ^ 31 := fun b e => absurd e (by simp)
  obtain ⟨T', t1, t2, t3⟩ := fitting_at (X := nowC M) none hb hr
  have t1' : fX12_fitting T (-1) = some (nI (cntU (fun l => fitF (nowC M) l none rp 0) 72 0), T') := t1
  -- the class goes back from the last law
  have key : ∀ (k fuel : Nat) (d : Nat), k + d = 72 → k < fuel → fX11_span_L20 fuel M a0 (noB (-3) (firU (fun l => fitF (nowC M) l none rp 0) d k)) (nI (cntU (fun l => fitF (nowC M) l none rp 0) d k)) (nI k - 1) = some (if a0 = 0 then nI (cntU (fun l => fitF (nowC M) l none rp 0) 72 0) else match firU (fun l => fitF (nowC M) l none rp 0) 72 0 with
      | none => -3
      | some l => if a0 = 1 then nI (l / 24) else nI (l % 24)) := by
    intro k
    induction k with
    | zero =>
      intro fuel d hd hf
      obtain ⟨f, rfl⟩ : ∃ j, fuel = j + 1 := ⟨fuel - 1, by omega⟩
      have ed : d = 72 := by omega
      subst ed
      show fX11_span_L20_b (fX11_span_L20 f) M a0 _ _ (nI 0 - 1) = _
      unfold fX11_span_L20_b
      rw [if_pos (by decide)]
      by_cases h0 : a0 = 0
      · rw [if_pos h0, if_pos h0]
      · rw [if_neg h0, if_neg h0]
        cases eF : firU (fun l => fitF (nowC M) l none rp 0) 72 0 with
        | none => rw [if_neg (show ¬ 0 ≤ noB (-3) none by decide)]
        | some l =>
          have hl := firU_lt _ _ _ _ eF
          rw [if_pos (show 0 ≤ noB (-3) (some l) from nI_pos' (by omega)), show noB (-3) (some l) = nI l from rfl, (law_parts l (by omega)).1, (law_parts l (by omega)).2]
          by_cases h2 : a0 = 1
          · rw [if_pos h2]; show _ = some (if a0 = 1 then _ else _); rw [if_pos h2]
          · rw [if_neg h2]; show _ = some (if a0 = 1 then _ else _); rw [if_neg h2]
    | succ k ih =>
      intro fuel d hd hf
      obtain ⟨f, rfl⟩ : ∃ j, fuel = j + 1 := ⟨fuel - 1, by omega⟩
      rw [← ih f (d + 1) (by omega) (by omega), nI_pred]
      show fX11_span_L20_b (fX11_span_L20 f) M a0 _ _ (nI k) = fX11_span_L20 f M a0 (noB (-3) (if fitF (nowC M) k none rp 0 then some k else firU (fun l => fitF (nowC M) l none rp 0) d (k + 1))) (nI ((if fitF (nowC M) k none rp 0 then 1 else 0) + cntU (fun l => fitF (nowC M) l none rp 0) d (k + 1))) (nI k - 1)
      unfold fX11_span_L20_b
      rw [if_neg (nI_pos (by omega)), b1_s (show fX11_fits M (nI k) (-3) = _ from fits_at none hb hr (show k < 72 by omega)), ← Int32.sub_eq_add_neg, nI_1]
      cases fitF (nowC M) k none rp 0
      · simp only [Bool.false_eq_true, if_false, if_true, Nat.zero_add]
      · simp only [if_true]
        rw [if_neg (show ¬ (1 : Int32) = 0 by decide), Nat.add_comm 1]
        rfl
  have K := key 72 5000 0 (by omega) (by omega)
  have K' : fX11_span_L20 5000 M a0 (-3) 0 71 = _ := K
  refine ⟨_, T', K', ?_, hR.keepF t2⟩
  rw [b2_s t1']
  have bc := cntU_le (fun l => fitF (nowC M) l none rp 0) 72 0
  have nf := cntU_fir (fun l => fitF (nowC M) l none rp 0) 72 0
  by_cases h0 : a0 = 0
  · rw [if_pos h0, if_pos h0]
  · rw [if_neg h0, if_neg h0]
    cases eF : firU (fun l => fitF (nowC M) l none rp 0) 72 0 with
    | none => rw [nf.mpr eF, if_pos (show nI 0 = 0 from rfl)]
    | some l =>
      rw [eF] at t3
      have ne : ¬ cntU (fun l => fitF (nowC M) l none rp 0) 72 0 = 0 := fun q => by rw [nf.mp q] at eF; exact absurd eF (by simp)
      rw [if_neg (nI_ne0 (by omega) (by omega)), t3.1, t3.2, Int32.sub_add_cancel]
      by_cases h2 : a0 = 1
      · rw [if_pos h2]; show _ = some (if a0 = 1 then _ else _, _); rw [if_pos h2]
      · rw [if_neg h2]; show _ = some (if a0 = 1 then _ else _, _); rw [if_neg h2]
theorem pm_liar {M T : mM} (hR : Rel M T) : ∃ (r : Int32) (T' : mM), fX11_liar M = some r ∧ fX12_liar T = some (r, T') ∧ Rel M T' := by
  obtain ⟨-, ⟨rp, hr⟩, -⟩ := hR.1
  unfold fX11_liar fX12_liar fX12_liar_L19
  have hb : ∀ b, (none : Option Nat) = some b → b < 2 ^ 31 := fun b e => absurd e (by simp)
  have r6 := hr.1
  have r1 : M 1 11 = nI rp := hr.2.1
  obtain ⟨T1, t1, t2, t3⟩ := fitting_at (X := nowC M) none hb hr
  have t1' : fX12_fitting T (-1) = some (nI (cntU (fun l => fitF (nowC M) l none rp 0) 72 0), T1) := t1
  have bc := cntU_le (fun l => fitF (nowC M) l none rp 0) 72 0
  rw [b1_s (show fX11_someFits M (-3) = _ from someFits_at none hb hr), b2_s t1']
  have row : ∀ {T' : mM}, keepF T T' → T' 1 6 = nI rp := fun h => by rw [h.1 1 (by omega)]; exact hr.2.2.1
  by_cases h0 : cntU (fun l => fitF (nowC M) l none rp 0) 72 0 = 0
  · rw [if_pos h0, if_pos rfl, h0, if_pos (show nI 0 ≤ 0 by decide)]
    have key : ∀ (d k fuel fuel' : Nat) (T2 : mM), k + d = rp → d < fuel → d < fuel' → keepF T T2 → ∃ (r : Int32) (T' : mM), fX11_liar_L14 fuel M (nI k) = some r ∧ fX12_liar_L20 fuel' T2 (nI k) = some (r, T') ∧ keepF T T' := by
      intro d
      induction d with
      | zero =>
        intro k fuel fuel' T2 hd hf hf' hk
        obtain ⟨f, rfl⟩ : ∃ j, fuel = j + 1 := ⟨fuel - 1, by omega⟩
        obtain ⟨f', rfl⟩ : ∃ j, fuel' = j + 1 := ⟨fuel' - 1, by omega⟩
        refine ⟨-3, T2, ?_, ?_, hk⟩
        · show fX11_liar_L14_b (fX11_liar_L14 f) M (nI k) = _
          unfold fX11_liar_L14_b
          rw [r1, if_pos (nI_le (by omega) (by omega))]
        · show fX12_liar_L20_b (fX12_liar_L20 f') T2 (nI k) = _
          unfold fX12_liar_L20_b fX12_liar_L45
          rw [g6N, g6N, c6N, row hk, if_pos (nI_le (by omega) (by omega)), if_pos (nI_le (by omega) (by omega))]
      | succ d ih =>
        intro k fuel fuel' T2 hd hf hf' hk
        obtain ⟨f, rfl⟩ : ∃ j, fuel = j + 1 := ⟨fuel - 1, by omega⟩
        obtain ⟨f', rfl⟩ : ∃ j, fuel' = j + 1 := ⟨fuel' - 1, by omega⟩
        have hbk : ∀ b, some k = some b → b < 2 ^ 31 := fun b e => by have := Option.some.inj e; omega
        obtain ⟨T3, u1, u2, u3⟩ := fitting_at (X := nowC M) (T := T2) (rp := rp) (some k) hbk (by rw [hk.1 1 (by omega)]; exact hr)
        have u1' : fX12_fitting T2 (nI k) = some (nI (cntU (fun l => fitF (nowC M) l (some k) rp 0) 72 0), T3) := u1
        have hk3 : keepF T T3 := ⟨fun q hq => (u2.1 q hq).trans (hk.1 q hq), fun j h1 h2 => (u2.2 j h1 h2).trans (hk.2 j h1 h2)⟩
        have bk := cntU_le (fun l => fitF (nowC M) l (some k) rp 0) 72 0
        have H1 : fX11_liar_L14 (f + 1) M (nI k) = if cntU (fun l => fitF (nowC M) l (some k) rp 0) 72 0 = 0 then fX11_liar_L14 f M (nI (k + 1)) else some (nI k) := by
          show fX11_liar_L14_b (fX11_liar_L14 f) M (nI k) = _
          unfold fX11_liar_L14_b
          rw [r1, if_neg (nI_ge (by omega) (by omega)), b1_s (show fX11_someFits M (nI k) = _ from someFits_at (some k) hbk hr), nI_1]
          by_cases z : cntU (fun l => fitF (nowC M) l (some k) rp 0) 72 0 = 0
          · rw [if_pos z, if_pos z, if_pos rfl]
          · rw [if_neg z, if_neg z, if_neg (by decide)]
        have H2 : fX12_liar_L20 (f' + 1) T2 (nI k) = if cntU (fun l => fitF (nowC M) l (some k) rp 0) 72 0 = 0 then fX12_liar_L20 f' T3 (nI (k + 1)) else some (nI k, T3) := by
          show fX12_liar_L20_b (fX12_liar_L20 f') T2 (nI k) = _
          unfold fX12_liar_L20_b fX12_liar_L45
          rw [g6N, g6N, c6N, row hk, if_neg (nI_ge (by omega) (by omega)), b2_s u1', nI_1]
          by_cases z : cntU (fun l => fitF (nowC M) l (some k) rp 0) 72 0 = 0
          · rw [if_pos z, z, if_pos (show nI 0 = 0 from rfl)]
          · rw [if_neg z, if_neg (nI_ne0 (by omega) (by omega)), g6N, row hk3, if_neg (nI_ge (by omega) (by omega))]
        rw [H1, H2]
        by_cases z : cntU (fun l => fitF (nowC M) l (some k) rp 0) 72 0 = 0
        · rw [if_pos z, if_pos z]
          exact ih (k + 1) f f' T3 (by omega) (by omega) (by omega) hk3
        · rw [if_neg z, if_neg z]
          exact ⟨nI k, T3, rfl, rfl, hk3⟩
    obtain ⟨r, T', x1, x2, x3⟩ := key rp 0 5000 5000 T1 (by omega) (by omega) (by omega) t2
    exact ⟨r, T', x1, x2, hR.keepF x3⟩
  · rw [if_neg h0, if_neg (show ¬ (1 : Int32) = 0 by decide), if_neg (nI_nle (by omega) (by omega)), g6N, c6N, row t2]
    refine ⟨-3, T1, rfl, ?_, hR.keepF t2⟩
    show fX12_liar_L20_b (fX12_liar_L20 4999) T1 (nI rp) = _
    unfold fX12_liar_L20_b fX12_liar_L45
    rw [g6N, g6N, c6N, row t2, if_pos (nI_le (by omega) (by omega)), if_pos (nI_le (by omega) (by omega))]
