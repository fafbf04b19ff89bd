/-! the model goes through the same words -/
/-- THE TAPE, and where the model stands on it -/
def tpT (T : mM) (b : Nat → Nat) (z : Nat) : Prop := byT (T 4) b z ∧ T 0 5 = nI z
theorem isByte_at {T : mM} {b : Nat → Nat} {z p lo hi : Nat} (h : tpT T b z) (hp : p < 2 ^ 31) (hl : lo < 256) (hh : hi < 256) : fX12_isByte T (nI p) (nI lo) (nI hi) = some (bI (decide (p < z) && (decide (lo ≤ b p) && decide (b p ≤ hi)))) := by
  obtain ⟨⟨hz, hb⟩, h5⟩ := h
  unfold fX12_isByte
  rw [h5]
  by_cases hpz : p < z
  · obtain ⟨b1', b2'⟩ := hb p hpz
    rw [if_neg (nI_ge hpz (by omega)), gd_t (ix_nI (by omega) (by omega)), tn_nI (by omega), b2', show fX12_in (Int32.toInt64 (nI (b p))) (Int32.toInt64 (nI lo)) (Int32.toInt64 (nI hi)) = _ from in_eq (nI (b p)) (nI lo) (nI hi), isIn_eq, decide_eq_true hpz, Bool.true_and]
    by_cases g : nI lo ≤ nI (b p) ∧ nI (b p) ≤ nI hi
    · have g1 := (nI_leI (by omega) (by omega)).mp g.1
      have g2 := (nI_leI (by omega) (by omega)).mp g.2
      rw [if_pos g, if_neg (by decide), decide_eq_true g1, decide_eq_true g2]; rfl
    · rw [if_neg g, if_pos rfl]
      by_cases g1 : lo ≤ b p
      · have g2 : ¬ b p ≤ hi := fun q => g ⟨(nI_leI (by omega) (by omega)).mpr g1, (nI_leI (by omega) (by omega)).mpr q⟩
        rw [decide_eq_true g1, decide_eq_false g2]; rfl
      · rw [decide_eq_false g1]; rfl
  · rw [if_pos (nI_le (by omega) hp), decide_eq_false hpz]; rfl
theorem space_at {T : mM} {b : Nat → Nat} {z p : Nat} (h : tpT T b z) (hp : p < 2 ^ 31) : fX12_isByte T (nI p) 32 32 = some (bI (decide (p < z) && isSb (b p))) := by
  rw [show fX12_isByte T (nI p) 32 32 = _ from isByte_at (lo := 32) (hi := 32) h hp (by omega) (by omega)]
  congr 2
  unfold isSb
  by_cases e : b p = 32
  · rw [e]; rfl
  · rw [decide_eq_false e]
    by_cases g : 32 ≤ b p
    · rw [decide_eq_false (show ¬ b p ≤ 32 by omega), Bool.and_false]
    · rw [decide_eq_false g, Bool.false_and]
theorem letter_at {T : mM} {b : Nat → Nat} {z p : Nat} (h : tpT T b z) (hp : p < 2 ^ 31) : fX12_isByte T (nI p) 97 122 = some (bI (decide (p < z) && isLb (b p))) :=
  isByte_at (lo := 97) (hi := 122) h hp (by omega) (by omega)
theorem digit_at {T : mM} {b : Nat → Nat} {z p : Nat} (h : tpT T b z) (hp : p < 2 ^ 31) : fX12_isByte T (nI p) 48 57 = some (bI (decide (p < z) && isDb (b p))) :=
  isByte_at (lo := 48) (hi := 57) h hp (by omega) (by omega)
/-- the model's memory but for from and to -/
def ftT (T T' : mM) : Prop := (∀ q, q ≠ 0 → T' q = T q) ∧ ∀ k, k ≠ 8 → k ≠ 9 → T' 0 k = T 0 k
theorem ftT.refl (T : mM) : ftT T T := ⟨fun _ _ => rfl, fun _ _ _ => rfl⟩
theorem ftT.trans {A B C : mM} (h : ftT A B) (g : ftT B C) : ftT A C := ⟨fun q hq => (g.1 q hq).trans (h.1 q hq), fun k h8 h9 => (g.2 k h8 h9).trans (h.2 k h8 h9)⟩
theorem ftT.tp {A B : mM} {b : Nat → Nat} {z : Nat} (h : ftT A B) (g : tpT A b z) : tpT B b z := ⟨by rw [h.1 4 (by omega)]; exact g.1, (h.2 5 (by omega) (by omega)).trans g.2⟩
theorem ftT_wr (T : mM) {k : Nat} (h : k = 8 ∨ k = 9) (v : Int32) : ftT T (wr T 0 k v) := ⟨fun q hq => wr_q _ _ hq, fun j h8 h9 => wr_k _ (by omega)⟩
/-- the word's end -/
theorem nextE {b : Nat → Nat} {z f : Nat} (hf : f ≤ z) : ∀ (d p fu : Nat) (T : mM), tpT T b z → p + d = z → d < fu → f ≤ p → T 0 8 = nI f → T 0 9 = nI p → (f < z → (isLb (b f) = true → teT b z f = runT isLb b (z - p) p) ∧ (isLb (b f) = false → isDb (b f) = true → teT b z f = runT isDb b (z - p) p)) → (isLb (b f) = false → isDb (b f) = false → p = f) → (f = z → p = f) →
    ∃ T', fX12_next_L70 fu T (bI (decide (f < z) && isLb (b f))) (bI (decide (f < z) && isDb (b f))) = some (0, T') ∧ ftT T T' ∧ T' 0 8 = nI f ∧ T' 0 9 = nI (teT b z f) := by
  intro d
  induction d with
  | zero =>
    intro p fu T hT hp hfu hfp h8 h9 hte hno hfz
    obtain ⟨g, rfl⟩ : ∃ j, fu = j + 1 := ⟨fu - 1, by omega⟩
    have hz := hT.1.1
    have epz : p = z := by omega
    have L := letter_at hT (show p < 2 ^ 31 by omega)
    have D := digit_at hT (show p < 2 ^ 31 by omega)
    rw [decide_eq_false (show ¬ p < z by omega), Bool.false_and] at L D
    show ∃ T', fX12_next_L70_b (fX12_next_L70 g) T _ _ = _ ∧ _
    unfold fX12_next_L70_b fX12_next_L89 fX12_next_L121
    rw [h9, b1_s L, b1_s D, hT.2, h8]
    simp only [Int32.add_zero, bI_if]
    by_cases hfz' : f < z
    · rw [decide_eq_true hfz', Bool.true_and, Bool.true_and]
      cases hL : isLb (b f)
      · cases hD : isDb (b f)
        · have := hno hL hD
          omega
        · simp only [Bool.false_eq_true, if_false, if_true]
          have := (hte hfz').2 hL hD
          rw [show z - p = 0 by omega] at this
          exact ⟨wr T 0 9 (nI p), rfl, ftT_wr T (Or.inr rfl) _, by rw [wr_k _ (by omega)]; exact h8, by rw [wr_s, this]; rfl⟩
      · simp only [Bool.false_eq_true, if_false, if_true]
        have := (hte hfz').1 hL
        rw [show z - p = 0 by omega] at this
        have e : (if isDb (b f) = true then if false = true then fX12_next_L70 g (wr T 0 9 (nI p + 1)) (bI true) (bI (isDb (b f))) else some (0, wr T 0 9 (nI p)) else some (0, wr T 0 9 (nI p))) = some ((0 : Int32), wr T 0 9 (nI p)) := by
          split <;> rfl
        refine ⟨wr T 0 9 (nI p), ?_, ftT_wr T (Or.inr rfl) _, by rw [wr_k _ (by omega)]; exact h8, by rw [wr_s, this]; rfl⟩
        cases isDb (b f) <;> rfl
    · have e1 : f = z := by omega
      rw [decide_eq_false hfz', Bool.false_and, Bool.false_and]
      simp only [Bool.false_eq_true, if_false, if_true]
      rw [if_pos (nI_le (by omega) (by omega))]
      refine ⟨wr T 0 9 (nI p), rfl, ftT_wr T (Or.inr rfl) _, by rw [wr_k _ (by omega)]; exact h8, ?_⟩
      rw [wr_s, e1, teT_z, epz]
  | succ d ih =>
    intro p fu T hT hp hfu hfp h8 h9 hte hno hfz
    obtain ⟨g, rfl⟩ : ∃ j, fu = j + 1 := ⟨fu - 1, by omega⟩
    have hz := hT.1.1
    have hfz' : f < z := by
      rcases Nat.lt_or_ge f z with h | h
      · exact h
      · have := hfz (by omega); omega
    have L := letter_at hT (show p < 2 ^ 31 by omega)
    have D := digit_at hT (show p < 2 ^ 31 by omega)
    rw [decide_eq_true (show p < z by omega), Bool.true_and] at L D
    -- one more byte
    have more : ∀ (hP : (isLb (b f) = true ∧ isLb (b p) = true) ∨ (isLb (b f) = false ∧ isDb (b f) = true ∧ isDb (b p) = true)), ∃ T', fX12_next_L70 g (wr T 0 9 (nI (p + 1))) (bI (decide (f < z) && isLb (b f))) (bI (decide (f < z) && isDb (b f))) = some (0, T') ∧ ftT T T' ∧ T' 0 8 = nI f ∧ T' 0 9 = nI (teT b z f) := by
      intro hP
      obtain ⟨T', t1, t2, t3, t4⟩ := ih (p + 1) g (wr T 0 9 (nI (p + 1))) ((ftT_wr T (Or.inr rfl) _).tp hT) (by omega) (by omega) (by omega) (by rw [wr_k _ (by omega)]; exact h8) (wr_s _ _ _ _) (fun _ => ⟨fun hL => by
        rcases hP with hP | hP
        · rw [(hte hfz').1 hL, run1 (by omega) hP.2]
        · rw [hP.1] at hL; exact absurd hL (by decide), fun hL hD => by
        rcases hP with hP | hP
        · rw [hP.1] at hL; exact absurd hL (by decide)
        · rw [(hte hfz').2 hL hD, run1 (by omega) hP.2.2]⟩) (fun hL hD => by
        rcases hP with hP | hP
        · rw [hP.1] at hL; exact absurd hL (by decide)
        · rw [hP.2.1] at hD; exact absurd hD (by decide)) (fun q => by omega)
      exact ⟨T', t1, (ftT_wr T (Or.inr rfl) _).trans t2, t3, t4⟩
    show ∃ T', fX12_next_L70_b (fX12_next_L70 g) T _ _ = _ ∧ _
    unfold fX12_next_L70_b fX12_next_L89 fX12_next_L121
    rw [h9, b1_s L, b1_s D, hT.2, h8]
    simp only [Int32.add_zero, bI_if, nI_1]
    rw [decide_eq_true hfz', Bool.true_and, Bool.true_and] at more ⊢
    have fin : ∀ v : Nat, nI (teT b z f) = nI v → ∃ T', some ((0 : Int32), wr T 0 9 (nI v)) = some (0, T') ∧ ftT T T' ∧ T' 0 8 = nI f ∧ T' 0 9 = nI (teT b z f) := fun v hv => ⟨_, rfl, ftT_wr T (Or.inr rfl) _, by rw [wr_k _ (by omega)]; exact h8, by rw [wr_s, hv]⟩
    have stop : ∀ (P : Nat → Bool), P (b p) = false → runT P b (z - p) p = p := fun P hP => by
      rw [show z - p = (z - (p + 1)) + 1 by omega]
      show (if P (b p) then _ else p) = p
      rw [hP]; rfl
    cases hL : isLb (b f)
    · cases hD : isDb (b f)
      · simp only [Bool.false_eq_true, if_false]
        have epf := hno hL hD
        rw [if_neg (nI_ge hfz' (by omega))]
        refine fin (p + 1) ?_
        unfold teT
        rw [if_pos hfz', hL, hD, epf]; rfl
      · simp only [Bool.false_eq_true, if_false, if_true]
        cases hDp : isDb (b p)
        · simp only [Bool.false_eq_true, if_false]
          refine fin p ?_
          rw [(hte hfz').2 hL hD, stop isDb hDp]
        · simp only [if_true]
          have := more (Or.inr ⟨hL, hD, hDp⟩)
          rw [hL, hD] at this
          exact this
    · have hD : isDb (b f) = false := by
        cases h : isDb (b f)
        · rfl
        · rw [LD_no h] at hL; exact absurd hL (by decide)
      rw [hD]
      simp only [Bool.false_eq_true, if_false, if_true]
      cases hLp : isLb (b p)
      · simp only [Bool.false_eq_true, if_false]
        refine fin p ?_
        rw [(hte hfz').1 hL, stop isLb hLp]
      · simp only [if_true]
        have := more (Or.inl ⟨hL, hLp⟩)
        rw [hL, hD] at this
        exact this
theorem next_at {T : mM} {b : Nat → Nat} {z k : Nat} (hT : tpT T b z) (hk : k ≤ z) (h9 : T 0 9 = nI k) : ∃ T', fX12_next T = some (0, T') ∧ ftT T T' ∧ T' 0 8 = nI (skT b z k) ∧ T' 0 9 = nI (teT b z (skT b z k)) := by
  have hz := hT.1.1
  have key : ∀ (d k fu : Nat) (T : mM), k + d = z → d < fu → tpT T b z → T 0 8 = nI k → ∃ T', fX12_next_L8 fu T = some (0, T') ∧ ftT T T' ∧ T' 0 8 = nI (skT b z k) ∧ T' 0 9 = nI (teT b z (skT b z k)) := by
    intro d
    induction d with
    | zero =>
      intro k fu T hk hfu hT h8
      obtain ⟨g, rfl⟩ : ∃ j, fu = j + 1 := ⟨fu - 1, by omega⟩
      have S := space_at hT (show k < 2 ^ 31 by omega)
      rw [decide_eq_false (show ¬ k < z by omega), Bool.false_and] at S
      have hT9 : tpT (wr T 0 9 (nI k)) b z := (ftT_wr T (Or.inr rfl) _).tp hT
      have w8 : wr T 0 9 (nI k) 0 8 = nI k := by rw [wr_k _ (by omega)]; exact h8
      obtain ⟨T', t1, t2, t3, t4⟩ := nextE (b := b) (z := z) (f := k) (by omega) 0 k 5000 (wr T 0 9 (nI k)) hT9 (by omega) (by omega) (Nat.le_refl k) w8 (wr_s _ _ _ _) (fun q => absurd q (by omega)) (fun _ _ => rfl) (fun _ => rfl)
      have ek : skT b z k = k := by rw [show k = z by omega, skT_z]
      rw [ek]
      refine ⟨T', ?_, (ftT_wr T (Or.inr rfl) _).trans t2, t3, t4⟩
      show fX12_next_L8_b (fX12_next_L8 g) T = _
      unfold fX12_next_L8_b
      rw [h8, b1_s S, bI_if, if_neg (by decide), w8, b1_s (letter_at hT9 (show k < 2 ^ 31 by omega)), b1_s (digit_at hT9 (show k < 2 ^ 31 by omega))]
      exact t1
    | succ d ih =>
      intro k fu T hk hfu hT h8
      obtain ⟨g, rfl⟩ : ∃ j, fu = j + 1 := ⟨fu - 1, by omega⟩
      have S := space_at hT (show k < 2 ^ 31 by omega)
      rw [decide_eq_true (show k < z by omega), Bool.true_and] at S
      show ∃ T', fX12_next_L8_b (fX12_next_L8 g) T = _ ∧ _
      unfold fX12_next_L8_b
      rw [h8, b1_s S, bI_if, nI_1]
      by_cases hS : isSb (b k) = true
      · rw [if_pos hS, skT_sp b (by omega) hS]
        obtain ⟨T', t1, t2, t3, t4⟩ := ih (k + 1) g (wr T 0 8 (nI (k + 1))) (by omega) (by omega) ((ftT_wr T (Or.inl rfl) _).tp hT) (wr_s _ _ _ _)
        exact ⟨T', t1, (ftT_wr T (Or.inl rfl) _).trans t2, t3, t4⟩
      · have hS' : isSb (b k) = false := Bool.eq_false_iff.mpr hS
        have hT9 : tpT (wr T 0 9 (nI k)) b z := (ftT_wr T (Or.inr rfl) _).tp hT
        have w8 : wr T 0 9 (nI k) 0 8 = nI k := by rw [wr_k _ (by omega)]; exact h8
        obtain ⟨T', t1, t2, t3, t4⟩ := nextE (b := b) (z := z) (f := k) (by omega) (d + 1) k 5000 (wr T 0 9 (nI k)) hT9 (by omega) (by omega) (Nat.le_refl k) w8 (wr_s _ _ _ _) (fun q => ⟨fun hL => by unfold teT; rw [if_pos q, if_pos hL], fun hL hD => by unfold teT; rw [if_pos q, if_neg (by rw [hL]; decide), if_pos hD]⟩) (fun _ _ => rfl) (fun _ => rfl)
        rw [if_neg hS, skT_at b hS', w8, b1_s (letter_at hT9 (show k < 2 ^ 31 by omega)), b1_s (digit_at hT9 (show k < 2 ^ 31 by omega))]
        exact ⟨T', t1, (ftT_wr T (Or.inr rfl) _).trans t2, t3, t4⟩
  obtain ⟨T', t1, t2, t3, t4⟩ := key (z - k) k 5000 (wr T 0 8 (T 0 9)) (by omega) (by omega) ((ftT_wr T (Or.inl rfl) _).tp hT) (by rw [wr_s]; exact h9)
  exact ⟨T', t1, (ftT_wr T (Or.inl rfl) _).trans t2, t3, t4⟩
theorem isWord_no {T : mM} {s : Nat} (h : ¬ T 0 11 = 0) : fX12_isWord T s = some 0 := by
  unfold fX12_isWord fX12_isWord_L27 fX12_isWord_L28
  rw [if_neg h]
  show fX12_isWord_L31_b (fX12_isWord_L31 4999) T s 0 0 = _
  unfold fX12_isWord_L31_b
  rw [if_pos rfl]; rfl
theorem isWord_sp {T : mM} {b : Nat → Nat} {z f e s : Nat} (hT : tpT T b z) (h11 : T 0 11 = 0) (h8 : T 0 8 = nI f) (h9 : T 0 9 = nI e) (hf : f ≤ e) (he : e ≤ z) (hs : s < 24) : fX12_isWord T s = some (bI (spT b f e s)) := by
  obtain ⟨⟨hz, hb⟩, -⟩ := hT
  obtain ⟨l1, l2, -⟩ := len_at s hs
  unfold fX12_isWord fX12_isWord_L27 fX12_isWord_L28
  have esl : slen s = nI (lenL.getD s 0) := rfl
  rw [if_pos h11, gd_t (show sok s = true from decide_eq_true hs), h8, h9, show nI e - nI f = nI (e - f) from pk_sub hf, esl]
  have no : ∀ (fu : Nat) (x : Int32), fX12_isWord_L31 (fu + 1) T s 0 x = some 0 := fun fu x => by
    show fX12_isWord_L31_b (fX12_isWord_L31 fu) T s 0 x = _
    unfold fX12_isWord_L31_b
    rw [if_pos rfl]; rfl
  by_cases hl : e = f + lenL.getD s 0
  · rw [if_pos (by rw [hl]; congr 1; omega)]
    have key : ∀ (d i fu : Nat), i + d = lenL.getD s 0 → d < fu → fX12_isWord_L31 fu T s 1 (nI i) = some (bI (mtT b f s d i)) := by
      intro d
      induction d with
      | zero =>
        intro i fu hi hfu
        obtain ⟨g, rfl⟩ : ∃ j, fu = j + 1 := ⟨fu - 1, by omega⟩
        show fX12_isWord_L31_b (fX12_isWord_L31 g) T s 1 (nI i) = _
        unfold fX12_isWord_L31_b
        rw [if_neg (by decide), gd_t (show sok s = true from decide_eq_true hs), esl, if_pos (nI_le (by omega) (by omega))]; rfl
      | succ d ih =>
        intro i fu hi hfu
        obtain ⟨g, rfl⟩ : ∃ j, fu = j + 1 + 1 := ⟨fu - 2, by omega⟩
        show fX12_isWord_L31_b (fX12_isWord_L31 (g + 1)) T s 1 (nI i) = some (bI (decide (b (f + i) = chT s i) && mtT b f s d (i + 1)))
        unfold fX12_isWord_L31_b
        obtain ⟨b1', b2'⟩ := hb (f + i) (by omega)
        obtain ⟨c1, c2⟩ := ch_at s hs i (by omega) (by omega)
        rw [if_neg (by decide), gd_t (show sok s = true from decide_eq_true hs), esl, if_neg (nI_ge (by omega) (by omega)), h8, nI_add, gd_t (ix_nI (by omega) (by omega)), gd_t (show sok s = true from decide_eq_true hs), gd_t (ix_nI (by omega) (by omega)), tn_nI (by omega), b2', c1, nI_1]
        by_cases h : b (f + i) = chT s i
        · rw [if_pos (by rw [h]), decide_eq_true h, Bool.true_and]
          exact ih (i + 1) (g + 1) (by omega) (by omega)
        · rw [if_neg (fun q => h ((nI_eq (by omega) (by omega)).mp q)), decide_eq_false h, Bool.false_and]
          exact no g _
    have := key (lenL.getD s 0) 0 5000 (by omega) (by omega)
    rw [show fX12_isWord_L31 5000 T s 1 0 = _ from this]
    unfold spT
    rw [decide_eq_true hl, Bool.true_and]
  · rw [if_neg (fun q => hl (by have := (nI_eq (by omega) (by omega)).mp q; omega)), no 4999]
    unfold spT
    rw [decide_eq_false hl]; rfl
/-- the model stands at word i, and nothing is wrong -/
def atT (T : mM) (b : Nat → Nat) (z i : Nat) : Prop := tpT T b z ∧ T 0 11 = 0 ∧ T 0 8 = nI (plT b z i) ∧ T 0 9 = nI (teT b z (plT b z i))
theorem te_le (b : Nat → Nat) (z i : Nat) : plT b z i ≤ teT b z (plT b z i) ∧ teT b z (plT b z i) ≤ z := by
  have h := plT_le b z i
  rcases Nat.lt_or_ge (plT b z i) z with g | g
  · have := teT_le b g; omega
  · rw [show plT b z i = z by omega, teT_z]; omega
/-- the word at i -/
def wdT (b : Nat → Nat) (z i : Nat) : Nat := cdT b z (plT b z i)
theorem isWord_at {T : mM} {b : Nat → Nat} {z i s : Nat} (h : atT T b z i) (hs : s < 24) : fX12_isWord T s = some (bI (decide (wdT b z i = codeT s))) := by
  obtain ⟨h1, h2, h3, h4⟩ := h
  have hl := te_le b z i
  rw [isWord_sp h1 h2 h3 h4 hl.1 hl.2 hs, sp_code hs]
  rfl
theorem next_i {T : mM} {b : Nat → Nat} {z i : Nat} (h : atT T b z i) : ∃ T', fX12_next T = some (0, T') ∧ ftT T T' ∧ atT T' b z (i + 1) := by
  obtain ⟨h1, h2, h3, h4⟩ := h
  obtain ⟨T', t1, t2, t3, t4⟩ := next_at h1 (te_le b z i).2 h4
  exact ⟨T', t1, t2, t2.tp h1, (t2.2 11 (by omega) (by omega)).trans h2, t3, t4⟩
theorem takes_at {T : mM} {b : Nat → Nat} {z i s : Nat} (h : atT T b z i) (hs : s < 24) : (wdT b z i = codeT s → ∃ T', fX12_takes T s = some (1, T') ∧ ftT T T' ∧ atT T' b z (i + 1)) ∧ (¬ wdT b z i = codeT s → fX12_takes T s = some (0, T)) := by
  unfold fX12_takes
  rw [b1_s (isWord_at h hs)]
  refine ⟨fun e => ?_, fun e => ?_⟩
  · obtain ⟨T', t1, t2, t3⟩ := next_i h
    refine ⟨T', ?_, t2, t3⟩
    rw [decide_eq_true e, if_neg (show ¬ bI true = 0 by decide), b2_s t1]
    rfl
  · rw [decide_eq_false e, if_pos (show bI false = 0 from rfl)]
    rfl
/-- the NUMBER at hand -/
theorem numM {T : mM} {b : Nat → Nat} {z i : Nat} (h : atT T b z i) : fX12_numberHere T = some (if wdT b z i = 30 then nI (nbT b z (plT b z i)) else -1) := by
  obtain ⟨h1, h2, h3, h4⟩ := h
  have hz := h1.1.1
  have hp := plT_le b z i
  have hl := te_le b z i
  have no : fX12_numberHere_L39 5000 T (-1) (nI (plT b z i)) = some (-1) := by
    show fX12_numberHere_L39_b (fX12_numberHere_L39 4999) T (-1) (nI (plT b z i)) = _
    unfold fX12_numberHere_L39_b
    rw [if_pos (show (-1 : Int32) < 0 by decide), ite_self]
  unfold fX12_numberHere fX12_numberHere_L32 fX12_numberHere_L33
  rw [h3, h4, b1_s (digit_at h1 (show plT b z i < 2 ^ 31 by omega)), bI_if, no]
  by_cases hpz : plT b z i < z
  · rw [decide_eq_true hpz, Bool.true_and]
    cases hD : isDb (b (plT b z i))
    · rw [if_neg (by decide)]
      have : wdT b z i ≠ 30 := by
        unfold wdT cdT sgT
        rw [if_pos hpz, if_neg (show ¬ isDb (b (plT b z i)) = true by rw [hD]; decide)]
        have := (nmT_lt b (plT b z i) (teT b z (plT b z i))).2
        repeat' split
        all_goals first | exact this | omega
      rw [if_neg this]
    · have hL := LD_no hD
      have hcd : wdT b z i = if teT b z (plT b z i) - plT b z i ≤ 4 then 30 else 41 := by
        unfold wdT cdT
        rw [if_pos hpz, if_neg (by rw [hL]; decide), if_pos hD]
      rw [if_pos rfl, show nI (teT b z (plT b z i)) - nI (plT b z i) = nI (teT b z (plT b z i) - plT b z i) from pk_sub hl.1]
      by_cases h4' : teT b z (plT b z i) - plT b z i ≤ 4
      · rw [if_pos h4'] at hcd
        rw [if_neg (show ¬ (4 : Int32) < nI (teT b z (plT b z i) - plT b z i) from nI_nlt (a := 4) h4' (by omega)), hcd, if_pos rfl]
        have hdig := dig_in hpz hL hD
        have key : ∀ (d k acc fu : Nat), k + d = teT b z (plT b z i) → d < fu → plT b z i ≤ k → (acc + 1) * 10 ^ d ≤ 10000 → fX12_numberHere_L39 fu T (nI acc) (nI k) = some (nI (nuT b d k acc)) := by
          intro d
          induction d with
          | zero =>
            intro k acc fu hk hfu _ _
            obtain ⟨g, rfl⟩ : ∃ j, fu = j + 1 := ⟨fu - 1, by omega⟩
            show fX12_numberHere_L39_b (fX12_numberHere_L39 g) T (nI acc) (nI k) = _
            unfold fX12_numberHere_L39_b
            rw [h4, if_pos (nI_le (by omega) (by omega))]
            rfl
          | succ d ih =>
            intro k acc fu hk hfu hpk hacc
            obtain ⟨g, rfl⟩ : ∃ j, fu = j + 1 := ⟨fu - 1, by omega⟩
            obtain ⟨b1', b2'⟩ := h1.1.2 k (by omega)
            have hk2 := (Bool.and_eq_true _ _).mp (hdig k hpk (by omega))
            have h48 := of_decide_eq_true hk2.1
            have h57 := of_decide_eq_true hk2.2
            have h10 : (acc + 1) * 10 ^ (d + 1) = (acc + 1) * 10 * 10 ^ d := by rw [Nat.pow_succ, Nat.mul_comm (10 ^ d) 10, ← Nat.mul_assoc]
            have hpos : 1 ≤ 10 ^ d := Nat.pow_pos (by omega)
            have hacc1 : (acc + 1) * 10 * 1 ≤ (acc + 1) * 10 * 10 ^ d := Nat.mul_le_mul_left _ hpos
            have hacc3 : (acc * 10 + (b k - 48) + 1) * 10 ^ d ≤ (acc + 1) * 10 * 10 ^ d := Nat.mul_le_mul_right _ (by omega)
            show fX12_numberHere_L39_b (fX12_numberHere_L39 g) T (nI acc) (nI k) = _
            unfold fX12_numberHere_L39_b
            rw [h4, if_neg (nI_ge (by omega) (by omega)), if_neg (nI_pos (by omega)), gd_t (ix_nI (by omega) (by omega)), tn_nI (by omega), b2', show (10 : Int32) * nI acc = nI (10 * acc) from pk_mul 10 acc, nI_add, show nI (10 * acc + b k) - 48 = nI (10 * acc + b k - 48) from pk_sub (b := 48) (by omega), nI_1, show 10 * acc + b k - 48 = acc * 10 + (b k - 48) by omega]
            exact ih (k + 1) (acc * 10 + (b k - 48)) g (by omega) (by omega) (by omega) (by omega)
        have := key (teT b z (plT b z i) - plT b z i) (plT b z i) 0 5000 (by omega) (by omega) (Nat.le_refl _) (by rw [Nat.zero_add, Nat.one_mul]; exact Nat.pow_le_pow_right (n := 10) (by omega) h4')
        exact this
      · rw [if_neg h4'] at hcd
        rw [if_pos (show (4 : Int32) < nI (teT b z (plT b z i) - plT b z i) from nI_lt (a := 4) (by omega) (by omega)), hcd]
        rfl
  · rw [decide_eq_false hpz, Bool.false_and, if_neg (by decide)]
    have : wdT b z i = 40 := by unfold wdT cdT; rw [if_neg hpz]
    rw [this]
    rfl
