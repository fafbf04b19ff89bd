/-! THE TAPE's words, in both -/
def isLb (c : Nat) : Bool := decide (97 ≤ c) && decide (c ≤ 122)
def isDb (c : Nat) : Bool := decide (48 ≤ c) && decide (c ≤ 57)
def isSb (c : Nat) : Bool := decide (c = 32)
def runT (P : Nat → Bool) (b : Nat → Nat) : Nat → Nat → Nat
  | 0, k => k
  | d + 1, k => if P (b k) then runT P b d (k + 1) else k
theorem runT_ge (P : Nat → Bool) (b : Nat → Nat) : ∀ d k, k ≤ runT P b d k ∧ runT P b d k ≤ k + d := by
  intro d
  induction d with
  | zero => intro k; exact ⟨Nat.le_refl k, Nat.le_refl k⟩
  | succ d ih =>
    intro k
    have := ih (k + 1)
    unfold runT
    split <;> omega
theorem runT_in (P : Nat → Bool) (b : Nat → Nat) : ∀ d k j, k ≤ j → j < runT P b d k → P (b j) = true := by
  intro d
  induction d with
  | zero => intro k j h1 h2; exact absurd h2 (by show ¬ j < k; omega)
  | succ d ih =>
    intro k j h1 h2
    unfold runT at h2
    split at h2
    · next g =>
      by_cases e : j = k
      · rw [e]; exact g
      · exact ih (k + 1) j (by omega) h2
    · omega
theorem runT_end (P : Nat → Bool) (b : Nat → Nat) : ∀ d k, runT P b d k < k + d → P (b (runT P b d k)) = false := by
  intro d
  induction d with
  | zero => intro k h; exact absurd h (by show ¬ k < k + 0; omega)
  | succ d ih =>
    intro k h
    unfold runT at h ⊢
    split
    · next g =>
      rw [if_pos g] at h
      exact ih (k + 1) (by omega)
    · next g => exact Bool.eq_false_iff.mpr g
/-- past spaces; a word's end; the words' places -/
def skT (b : Nat → Nat) (z k : Nat) : Nat := runT isSb b (z - k) k
def teT (b : Nat → Nat) (z f : Nat) : Nat := if f < z then (if isLb (b f) then runT isLb b (z - f) f else if isDb (b f) then runT isDb b (z - f) f else f + 1) else f
def plT (b : Nat → Nat) (z : Nat) : Nat → Nat
  | 0 => skT b z 0
  | j + 1 => skT b z (teT b z (plT b z j))
theorem skT_le (b : Nat → Nat) {z k : Nat} (h : k ≤ z) : k ≤ skT b z k ∧ skT b z k ≤ z := by
  have := runT_ge isSb b (z - k) k
  unfold skT
  omega
theorem skT_no (b : Nat → Nat) {z k : Nat} (h : k ≤ z) (h2 : skT b z k < z) : isSb (b (skT b z k)) = false := by
  unfold skT at h2 ⊢
  exact runT_end isSb b (z - k) k (by omega)
theorem skT_at (b : Nat → Nat) {z k : Nat} (h : isSb (b k) = false) : skT b z k = k := by
  unfold skT
  cases z - k with
  | zero => rfl
  | succ d => show (if isSb (b k) then _ else k) = k; rw [h]; rfl
theorem skT_sp (b : Nat → Nat) {z k : Nat} (hk : k < z) (h : isSb (b k) = true) : skT b z k = skT b z (k + 1) := by
  unfold skT
  rw [show z - k = (z - (k + 1)) + 1 by omega]
  show (if isSb (b k) then _ else k) = _
  rw [h]; rfl
theorem skT_z (b : Nat → Nat) (z : Nat) : skT b z z = z := by
  unfold skT
  rw [Nat.sub_self]; rfl
theorem run1 {P : Nat → Bool} {b : Nat → Nat} {z f : Nat} (h : f < z) (g : P (b f) = true) : runT P b (z - f) f = runT P b (z - (f + 1)) (f + 1) := by
  rw [show z - f = (z - (f + 1)) + 1 by omega]
  show (if P (b f) then _ else f) = _
  rw [g]; rfl
theorem teT_le (b : Nat → Nat) {z f : Nat} (h : f < z) : f < teT b z f ∧ teT b z f ≤ z := by
  unfold teT
  rw [if_pos h]
  split
  · next g =>
    rw [run1 h g]
    have := runT_ge isLb b (z - (f + 1)) (f + 1)
    omega
  · split
    · next g =>
      rw [run1 h g]
      have := runT_ge isDb b (z - (f + 1)) (f + 1)
      omega
    · omega
theorem teT_z (b : Nat → Nat) (z : Nat) : teT b z z = z := by
  unfold teT
  rw [if_neg (by omega)]
theorem plT_le (b : Nat → Nat) (z : Nat) : ∀ j, plT b z j ≤ z := by
  intro j
  induction j with
  | zero => exact (skT_le b (Nat.zero_le z)).2
  | succ j ih =>
    show skT b z (teT b z (plT b z j)) ≤ z
    rcases Nat.lt_or_ge (plT b z j) z with h | h
    · exact (skT_le b (teT_le b h).2).2
    · rw [show plT b z j = z by omega, teT_z, skT_z]
      exact Nat.le_refl z
theorem plT_up (b : Nat → Nat) {z j : Nat} (h : plT b z j < z) : plT b z j < plT b z (j + 1) := by
  have h1 := teT_le b h
  have h2 := skT_le b h1.2
  show _ < skT b z (teT b z (plT b z j))
  omega
theorem plT_no (b : Nat → Nat) (z j : Nat) (h : plT b z j < z) : isSb (b (plT b z j)) = false := by
  cases j with
  | zero => exact skT_no b (Nat.zero_le z) h
  | succ j =>
    refine skT_no b ?_ h
    rcases Nat.lt_or_ge (plT b z j) z with h | h
    · exact (teT_le b h).2
    · have := plT_le b z j
      rw [show plT b z j = z by omega, teT_z]
      exact Nat.le_refl z
-- words that are told
def chT (s i : Nat) : Nat := ((bytL.getD s []).getD i 0).toNatClampNeg
theorem ch_at : ∀ s, s < 24 → ∀ i, i < 8 → i < lenL.getD s 0 → sch s (nI i) = nI (chT s i) ∧ chT s i < 128 := by decide +kernel
theorem len_at : ∀ s, s < 24 → 1 ≤ lenL.getD s 0 ∧ lenL.getD s 0 ≤ 7 ∧ (s < 18 → 2 ≤ lenL.getD s 0 ∧ isLb (chT s 0) = true) ∧ (18 ≤ s → lenL.getD s 0 = 1 ∧ isLb (chT s 0) = false ∧ isDb (chT s 0) = false) ∧ isDb (chT s 0) = false := by decide +kernel
theorem str_ne : ∀ s, s < 24 → ∀ t, t < 24 → s = t ∨ lenL.getD s 0 ≠ lenL.getD t 0 ∨ ∃ i, i < 7 ∧ i < lenL.getD s 0 ∧ chT s i ≠ chT t i := by decide +kernel
def mtT (b : Nat → Nat) (f s : Nat) : Nat → Nat → Bool
  | 0, _ => true
  | d + 1, i => decide (b (f + i) = chT s i) && mtT b f s d (i + 1)
def spT (b : Nat → Nat) (f e s : Nat) : Bool := decide (e = f + lenL.getD s 0) && mtT b f s (lenL.getD s 0) 0
theorem mtT_yes {b : Nat → Nat} {f s : Nat} : ∀ d i, mtT b f s d i = true → ∀ j, i ≤ j → j < i + d → b (f + j) = chT s j := by
  intro d
  induction d with
  | zero => intro i _ j h1 h2; omega
  | succ d ih =>
    intro i h j h1 h2
    have h' := (Bool.and_eq_true _ _).mp h
    by_cases e : j = i
    · rw [e]; exact of_decide_eq_true h'.1
    · exact ih (i + 1) h'.2 j (by omega) (by omega)
theorem spT_yes {b : Nat → Nat} {f e s : Nat} (h : spT b f e s = true) : e = f + lenL.getD s 0 ∧ ∀ j, j < lenL.getD s 0 → b (f + j) = chT s j := by
  have h' := (Bool.and_eq_true _ _).mp h
  exact ⟨of_decide_eq_true h'.1, fun j hj => mtT_yes _ 0 h'.2 j (by omega) (by omega)⟩
theorem spT_one {b : Nat → Nat} {f e s t : Nat} (hs : s < 24) (ht : t < 24) (h1 : spT b f e s = true) (h2 : spT b f e t = true) : s = t := by
  obtain ⟨a1, a2⟩ := spT_yes h1
  obtain ⟨c1, c2⟩ := spT_yes h2
  rcases str_ne s hs t ht with h | h | ⟨i, -, hi, h⟩
  · exact h
  · exact absurd (by omega) h
  · exact absurd ((a2 i hi).symm.trans (c2 i (by omega))) h
def codeT (s : Nat) : Nat := [0, 1, 2, 3, 4, 5, 10, 11, 12, 13, 14, 20, 21, 22, 23, 24, 25, 26, 34, 35, 31, 32, 33, 36].getD s 0
theorem code_ne : ∀ s, s < 24 → (∀ t, t < 24 → codeT s = codeT t → s = t) ∧ codeT s ≠ 40 ∧ codeT s ≠ 41 ∧ codeT s ≠ 30 ∧ (s < 18 → codeT s < 30) ∧ (18 ≤ s → 31 ≤ codeT s) := by decide +kernel
def fndT (b : Nat → Nat) (f e : Nat) : Nat → Nat → Nat
  | 0, _ => 41
  | d + 1, s => if spT b f e s then codeT s else fndT b f e d (s + 1)
theorem fndT_is (b : Nat → Nat) (f e : Nat) : ∀ d s, (∃ t, s ≤ t ∧ t < s + d ∧ spT b f e t = true ∧ fndT b f e d s = codeT t) ∨ (fndT b f e d s = 41 ∧ ∀ t, s ≤ t → t < s + d → spT b f e t = false) := by
  intro d
  induction d with
  | zero => intro s; exact Or.inr ⟨rfl, fun t h1 h2 => absurd h2 (by omega)⟩
  | succ d ih =>
    intro s
    unfold fndT
    cases h : spT b f e s
    · simp only [Bool.false_eq_true, if_false]
      rcases ih (s + 1) with ⟨t, h1, h2, h3, h4⟩ | ⟨h1, h2⟩
      · exact Or.inl ⟨t, by omega, by omega, h3, h4⟩
      · refine Or.inr ⟨h1, fun t g1 g2 => ?_⟩
        by_cases z : t = s
        · rw [z]; exact h
        · exact h2 t (by omega) (by omega)
    · simp only [if_true]
      exact Or.inl ⟨s, by omega, by omega, h, rfl⟩
def nmT (b : Nat → Nat) (f e : Nat) : Nat := fndT b f e 18 0
def sgT (c : Nat) : Nat := if c = 40 then 34 else if c = 41 then 35 else if c = 59 then 36 else if c = 60 then 31 else if c = 61 then 32 else if c = 62 then 33 else 41
/-- the word that begins at a place -/
def cdT (b : Nat → Nat) (z f : Nat) : Nat := if f < z then (if isLb (b f) then nmT b f (teT b z f) else if isDb (b f) then (if teT b z f - f ≤ 4 then 30 else 41) else sgT (b f)) else 40
theorem nmT_lt (b : Nat → Nat) (f e : Nat) : nmT b f e < 42 ∧ nmT b f e ≠ 30 := by
  unfold nmT
  rcases fndT_is b f e 18 0 with ⟨t, h1, h2, h3, h4⟩ | ⟨h1, h2⟩
  · rw [h4]
    have := (code_ne t (by omega)).2.2.2.2.1 (by omega)
    omega
  · rw [h1]; omega
theorem cdT_lt (b : Nat → Nat) (z f : Nat) : cdT b z f < 42 := by
  unfold cdT sgT
  have := (nmT_lt b f (teT b z f)).1
  repeat' split
  all_goals omega
theorem sg_sym : ∀ s, s < 24 → 18 ≤ s → sgT (chT s 0) = codeT s := by decide +kernel
theorem sgT_is (c : Nat) : (∃ s, 18 ≤ s ∧ s < 24 ∧ c = chT s 0 ∧ sgT c = codeT s) ∨ sgT c = 41 := by
  unfold sgT
  by_cases h1 : c = 40
  · exact Or.inl ⟨18, by omega, by omega, h1, by rw [if_pos h1]; rfl⟩
  rw [if_neg h1]
  by_cases h2 : c = 41
  · exact Or.inl ⟨19, by omega, by omega, h2, by rw [if_pos h2]; rfl⟩
  rw [if_neg h2]
  by_cases h3 : c = 59
  · exact Or.inl ⟨23, by omega, by omega, h3, by rw [if_pos h3]; rfl⟩
  rw [if_neg h3]
  by_cases h4 : c = 60
  · exact Or.inl ⟨20, by omega, by omega, h4, by rw [if_pos h4]; rfl⟩
  rw [if_neg h4]
  by_cases h5 : c = 61
  · exact Or.inl ⟨21, by omega, by omega, h5, by rw [if_pos h5]; rfl⟩
  rw [if_neg h5]
  by_cases h6 : c = 62
  · exact Or.inl ⟨22, by omega, by omega, h6, by rw [if_pos h6]; rfl⟩
  rw [if_neg h6]
  exact Or.inr rfl
/-- what is spelt is what the word is -/
theorem sp_code {b : Nat → Nat} {z f s : Nat} (hs : s < 24) : spT b f (teT b z f) s = decide (cdT b z f = codeT s) := by
  obtain ⟨l1, l2, l3, l4, l5⟩ := len_at s hs
  obtain ⟨c1, c2, c3, c4, c5, c6⟩ := code_ne s hs
  unfold cdT
  by_cases hf : f < z
  · rw [if_pos hf]
    by_cases hL : isLb (b f) = true
    · rw [if_pos hL]
      cases hsp : spT b f (teT b z f) s
      · symm
        apply decide_eq_false
        intro q
        unfold nmT at q
        rcases fndT_is b f (teT b z f) 18 0 with ⟨t, h1, h2, h3, h4⟩ | ⟨h1, h2⟩
        · rw [h4] at q
          rw [c1 t (by omega) q.symm, h3] at hsp
          exact absurd hsp (by decide)
        · rw [h1] at q; exact c3 q.symm
      · symm
        apply decide_eq_true
        have h18 : s < 18 := by
          rcases Nat.lt_or_ge s 18 with h | h
          · exact h
          · have := (spT_yes hsp).2 0 (by omega)
            rw [Nat.add_zero] at this
            rw [this, (l4 h).2.1] at hL
            exact absurd hL (by decide)
        unfold nmT
        rcases fndT_is b f (teT b z f) 18 0 with ⟨t, h1, h2, h3, h4⟩ | ⟨h1, h2⟩
        · rw [h4, spT_one hs (by omega) hsp h3]
        · rw [h2 s (by omega) (by omega)] at hsp
          exact absurd hsp (by decide)
    · rw [if_neg hL]
      by_cases hD : isDb (b f) = true
      · rw [if_pos hD]
        have : spT b f (teT b z f) s = false := by
          cases hsp : spT b f (teT b z f) s
          · rfl
          · have := (spT_yes hsp).2 0 (by omega)
            rw [Nat.add_zero] at this
            rw [this, l5] at hD
            exact absurd hD (by decide)
        rw [this]
        symm
        apply decide_eq_false
        split
        · exact fun q => c4 q.symm
        · exact fun q => c3 q.symm
      · rw [if_neg hD]
        have ee : teT b z f = f + 1 := by unfold teT; rw [if_pos hf, if_neg hL, if_neg hD]
        cases hsp : spT b f (teT b z f) s
        · symm
          apply decide_eq_false
          intro q
          rcases sgT_is (b f) with ⟨t, h1, h2, h3, h4⟩ | h
          · have est := c1 t h2 (q.symm.trans h4)
            subst est
            have : spT b f (teT b z f) s = true := by
              unfold spT
              rw [ee, (l4 h1).1]
              show (decide (f + 1 = f + 1) && (decide (b (f + 0) = chT s 0) && true)) = true
              rw [show b (f + 0) = chT s 0 from h3]
              simp
            rw [this] at hsp
            exact absurd hsp (by decide)
          · rw [h] at q; exact c3 q.symm
        · symm
          apply decide_eq_true
          obtain ⟨e1, e2⟩ := spT_yes hsp
          have h18 : 18 ≤ s := by
            rcases Nat.lt_or_ge s 18 with h | h
            · have := (l3 h).1
              omega
            · exact h
          have := e2 0 (by omega)
          rw [Nat.add_zero] at this
          rw [this, sg_sym s hs h18]
  · rw [if_neg hf]
    have ee : teT b z f = f := by unfold teT; rw [if_neg hf]
    have : spT b f (teT b z f) s = false := by
      cases hsp : spT b f (teT b z f) s
      · rfl
      · have := (spT_yes hsp).1
        omega
    rw [this]
    exact (decide_eq_false (fun q => c2 q.symm)).symm
/-- bytes that lie there -/
def byT (r : Nat → Int32) (b : Nat → Nat) (z : Nat) : Prop := z ≤ 200 ∧ ∀ k, k < z → b k < 256 ∧ r k = nI (b k)
theorem isB_bI (c : Bool) : isB (bI c) = true := by cases c <;> rfl
-- the class reads words
theorem spells_at {M : mM} {b : Nat → Nat} {z f e s : Nat} (hB : byT (M 43) b z) (hf : f ≤ e) (he : e ≤ z) (hs : s < 24) : fX5_spells M (nI f) (nI e) s = some (bI (spT b f e s)) := by
  obtain ⟨hz, hb⟩ := hB
  obtain ⟨l1, l2, -⟩ := len_at s hs
  unfold fX5_spells fX5_spells_L15
  have esl : slen s = nI (lenL.getD s 0) := rfl
  rw [gd_t (show sok s = true from decide_eq_true hs), show nI e - nI f = nI (e - f) from pk_sub hf, esl]
  have no : ∀ fu : Nat, fX5_spells_L20 (fu + 1) M (nI f) (nI e) s 0 (nI f) = some 0 := fun fu => by
    show fX5_spells_L20_b (fX5_spells_L20 fu) M (nI f) (nI e) s 0 (nI f) = _
    unfold fX5_spells_L20_b
    rw [if_pos rfl]; rfl
  by_cases hl : e = f + lenL.getD s 0
  · rw [if_pos (by rw [hl]; congr 1; omega)]
    have key : ∀ (d i fu : Nat), i + d = lenL.getD s 0 → d < fu → fX5_spells_L20 fu M (nI f) (nI e) s 1 (nI (f + i)) = some (bI (mtT b f s d i)) := by
      intro d
      induction d with
      | zero =>
        intro i fu hi hfu
        obtain ⟨g, rfl⟩ : ∃ j, fu = j + 1 := ⟨fu - 1, by omega⟩
        show fX5_spells_L20_b (fX5_spells_L20 g) M (nI f) (nI e) s 1 (nI (f + i)) = _
        unfold fX5_spells_L20_b
        rw [if_neg (by decide), if_pos (nI_le (by omega) (by omega))]; rfl
      | succ d ih =>
        intro i fu hi hfu
        obtain ⟨g, rfl⟩ : ∃ j, fu = j + 1 + 1 := ⟨fu - 2, by omega⟩
        show fX5_spells_L20_b (fX5_spells_L20 (g + 1)) M (nI f) (nI e) s 1 (nI (f + i)) = some (bI (decide (b (f + i) = chT s i) && mtT b f s d (i + 1)))
        unfold fX5_spells_L20_b
        obtain ⟨b1', b2'⟩ := hb (f + i) (by omega)
        obtain ⟨c1, c2⟩ := ch_at s hs i (by omega) (by omega)
        rw [if_neg (by decide), if_neg (nI_ge (by omega) (by omega)), gd_t (ix_nI (by omega) (by omega)), gd_t (show sok s = true from decide_eq_true hs), show nI (f + i) - nI f = nI i by rw [pk_sub (by omega)]; congr 1; omega, gd_t (ix_nI (by omega) (by omega)), tn_nI (by omega), b2', c1, nI_1]
        by_cases h : b (f + i) = chT s i
        · rw [if_pos (by rw [h]), decide_eq_true h, Bool.true_and]
          exact ih (i + 1) (g + 1) (by omega) (by omega)
        · rw [if_neg (fun q => h ((nI_eq (by omega) (by omega)).mp q)), decide_eq_false h, Bool.false_and]
          show fX5_spells_L20_b (fX5_spells_L20 g) M (nI f) (nI e) s 0 (nI (f + i + 1)) = _
          unfold fX5_spells_L20_b
          rw [if_pos rfl]; rfl
    have := key (lenL.getD s 0) 0 5000 (by omega) (by omega)
    rw [Nat.add_zero] at this
    rw [this]
    unfold spT
    rw [decide_eq_true hl, Bool.true_and]
  · rw [if_neg (fun q => hl (by have := (nI_eq (by omega) (by omega)).mp q; omega)), no 4999]
    unfold spT
    rw [decide_eq_false hl]; rfl
theorem bI_if {α : Type} (c : Bool) (x y : α) : (if bI c = 0 then x else y) = if c then y else x := by cases c <;> rfl
set_option maxRecDepth 10000 in
theorem nameAt_at {M : mM} {b : Nat → Nat} {z f e : Nat} (hB : byT (M 43) b z) (hf : f ≤ e) (he : e ≤ z) : fX5_nameAt M (nI f) (nI e) = some (nI (nmT b f e)) := by
  unfold fX5_nameAt
  rw [b1_s (spells_at (s := 0) hB hf he (by omega)), b1_s (spells_at (s := 1) hB hf he (by omega)), b1_s (spells_at (s := 2) hB hf he (by omega)), b1_s (spells_at (s := 3) hB hf he (by omega)), b1_s (spells_at (s := 4) hB hf he (by omega)), b1_s (spells_at (s := 5) hB hf he (by omega)), b1_s (spells_at (s := 6) hB hf he (by omega)), b1_s (spells_at (s := 7) hB hf he (by omega)), b1_s (spells_at (s := 8) hB hf he (by omega)), b1_s (spells_at (s := 9) hB hf he (by omega)), b1_s (spells_at (s := 10) hB hf he (by omega)), b1_s (spells_at (s := 11) hB hf he (by omega)), b1_s (spells_at (s := 12) hB hf he (by omega)), b1_s (spells_at (s := 13) hB hf he (by omega)), b1_s (spells_at (s := 14) hB hf he (by omega)), b1_s (spells_at (s := 15) hB hf he (by omega)), b1_s (spells_at (s := 16) hB hf he (by omega)), b1_s (spells_at (s := 17) hB hf he (by omega))]
  simp only [bI_if]
  unfold nmT
  simp only [fndT]
  cases spT b f e 0
  · simp only [Bool.false_eq_true, if_false]
    cases spT b f e 1
    · simp only [Bool.false_eq_true, if_false]
      cases spT b f e 2
      · simp only [Bool.false_eq_true, if_false]
        cases spT b f e 3
        · simp only [Bool.false_eq_true, if_false]
          cases spT b f e 4
          · simp only [Bool.false_eq_true, if_false]
            cases spT b f e 5
            · simp only [Bool.false_eq_true, if_false]
              cases spT b f e 6
              · simp only [Bool.false_eq_true, if_false]
                cases spT b f e 7
                · simp only [Bool.false_eq_true, if_false]
                  cases spT b f e 8
                  · simp only [Bool.false_eq_true, if_false]
                    cases spT b f e 9
                    · simp only [Bool.false_eq_true, if_false]
                      cases spT b f e 10
                      · simp only [Bool.false_eq_true, if_false]
                        cases spT b f e 11
                        · simp only [Bool.false_eq_true, if_false]
                          cases spT b f e 12
                          · simp only [Bool.false_eq_true, if_false]
                            cases spT b f e 13
                            · simp only [Bool.false_eq_true, if_false]
                              cases spT b f e 14
                              · simp only [Bool.false_eq_true, if_false]
                                cases spT b f e 15
                                · simp only [Bool.false_eq_true, if_false]
                                  cases spT b f e 16
                                  · simp only [Bool.false_eq_true, if_false]
                                    cases spT b f e 17
                                    · simp only [Bool.false_eq_true, if_false]
                                      rfl
                                    · rfl
                                  · rfl
                                · rfl
                              · rfl
                            · rfl
                          · rfl
                        · rfl
                      · rfl
                    · rfl
                  · rfl
                · rfl
              · rfl
            · rfl
          · rfl
        · rfl
      · rfl
    · rfl
  · rfl
theorem isL_at {c : Nat} (hc : c < 256) : fX5_isLetter (nI c) = bI (isLb c) := by
  unfold fX5_isLetter isLb
  by_cases h1 : 97 ≤ c
  · rw [if_neg (show ¬ nI c < 97 from nI_nlt (b := 97) h1 (by omega)), decide_eq_true h1, Bool.true_and]
    by_cases h2 : c ≤ 122
    · rw [if_neg (show ¬ (122 : Int32) < nI c from nI_nlt (a := 122) h2 (by omega)), decide_eq_true h2]; rfl
    · rw [if_pos (show (122 : Int32) < nI c from nI_lt (a := 122) (by omega) (by omega)), decide_eq_false h2]; rfl
  · rw [if_pos (show nI c < 97 from nI_lt (b := 97) (by omega) (by omega)), decide_eq_false h1]; rfl
theorem isD_at {c : Nat} (hc : c < 256) : fX5_isDigit (nI c) = bI (isDb c) := by
  unfold fX5_isDigit isDb
  by_cases h1 : 48 ≤ c
  · rw [if_neg (show ¬ nI c < 48 from nI_nlt (b := 48) h1 (by omega)), decide_eq_true h1, Bool.true_and]
    by_cases h2 : c ≤ 57
    · rw [if_neg (show ¬ (57 : Int32) < nI c from nI_nlt (a := 57) h2 (by omega)), decide_eq_true h2]; rfl
    · rw [if_pos (show (57 : Int32) < nI c from nI_lt (a := 57) (by omega) (by omega)), decide_eq_false h2]; rfl
  · rw [if_pos (show nI c < 48 from nI_lt (b := 48) (by omega) (by omega)), decide_eq_false h1]; rfl
theorem signOf_at : ∀ c, c < 256 → fX5_signOf (nI c) = nI (sgT c) := by decide +kernel
/-- a NUMBER's worth -/
def nuT (b : Nat → Nat) : Nat → Nat → Nat → Nat
  | 0, _, acc => acc
  | d + 1, k, acc => nuT b d (k + 1) (acc * 10 + (b k - 48))
theorem nuT_lt (b : Nat → Nat) : ∀ d k acc, (∀ j, k ≤ j → j < k + d → isDb (b j) = true) → nuT b d k acc < (acc + 1) * 10 ^ d := by
  intro d
  induction d with
  | zero => intro k acc _; show acc < (acc + 1) * 1; omega
  | succ d ih =>
    intro k acc h
    have h1 := ih (k + 1) (acc * 10 + (b k - 48)) (fun j h1 h2 => h j (by omega) (by omega))
    have h2 := (Bool.and_eq_true _ _).mp (h k (by omega) (by omega))
    have h3 := of_decide_eq_true h2.2
    show nuT b d (k + 1) (acc * 10 + (b k - 48)) < (acc + 1) * 10 ^ (d + 1)
    refine Nat.lt_of_lt_of_le h1 ?_
    rw [Nat.pow_succ, Nat.mul_comm (10 ^ d) 10, ← Nat.mul_assoc]
    exact Nat.mul_le_mul_right _ (by omega)
/-- the NUMBER at a place -/
def nbT (b : Nat → Nat) (z f : Nat) : Nat := nuT b (teT b z f - f) f 0
theorem dig_in {b : Nat → Nat} {z f : Nat} (hf : f < z) (hL : isLb (b f) = false) (hD : isDb (b f) = true) : ∀ j, f ≤ j → j < teT b z f → isDb (b j) = true := by
  intro j h1 h2
  unfold teT at h2
  rw [if_pos hf, if_neg (by rw [hL]; decide), if_pos hD] at h2
  exact runT_in isDb b (z - f) f j h1 h2
theorem nbT_lt {b : Nat → Nat} {z f : Nat} (hf : f < z) (hL : isLb (b f) = false) (hD : isDb (b f) = true) (h4 : teT b z f - f ≤ 4) : nbT b z f ≤ 9999 := by
  have h := nuT_lt b (teT b z f - f) f 0 (fun j h1 h2 => dig_in hf hL hD j h1 (by omega))
  have h2 : 10 ^ (teT b z f - f) ≤ 10 ^ 4 := Nat.pow_le_pow_right (by omega) h4
  unfold nbT
  have : (10 : Nat) ^ 4 = 10000 := rfl
  omega
theorem LD_no {c : Nat} (h : isDb c = true) : isLb c = false := by
  have h1 := (Bool.and_eq_true _ _).mp h
  have h2 := of_decide_eq_true h1.2
  unfold isLb
  rw [decide_eq_false (by omega)]; rfl
theorem addWord_at {M : mM} {i : Nat} (h : M 33 3 = nI i) (hi : i ≤ 200) (w f v : Int32) : fX5_addWord M w f v = some (0, wr (wr (wr (wr M 44 i w) 45 i f) 46 i v) 33 3 (nI (i + 1))) := by
  unfold fX5_addWord
  have g : ∀ {x : Option (Int32 × mM)}, gd (ix (nI i) 201) x = x := gd_t (ix_nI (by omega) (by omega))
  rw [h, if_neg (show ¬ (200 : Int32) < nI i from nI_nlt (a := 200) hi (by omega))]
  simp only [wr_q _ _ (show (33 : Nat) ≠ 44 by omega), wr_q _ _ (show (33 : Nat) ≠ 45 by omega), wr_q _ _ (show (33 : Nat) ≠ 46 by omega), h, g, tn_nI (show i < 2 ^ 31 by omega), nI_1]
/-- what a word stands for among values -/
def vaT (M : mM) (vc c n : Nat) (v : Int32) : Prop := (10 ≤ c ∧ c ≤ 14 ∧ v = nI (c - 10)) ∨ (c = 30 ∧ n ≤ 9999 ∧ ∃ u, 5 ≤ u ∧ u < vc ∧ v = nI u ∧ M 42 u = nI n) ∨ (¬ (10 ≤ c ∧ c ≤ 14) ∧ c ≠ 30 ∧ v = -3)
def woT (M : mM) (b : Nat → Nat) (z vc j : Nat) : Prop := M 44 j = nI (cdT b z (plT b z j)) ∧ M 45 j = nI (plT b z j) ∧ vaT M vc (cdT b z (plT b z j)) (nbT b z (plT b z j)) (M 46 j)
theorem woT_keep {M M' : mM} {b : Nat → Nat} {z vc vc' j : Nat} (h : woT M b z vc j) (h44 : M' 44 j = M 44 j) (h45 : M' 45 j = M 45 j) (h46 : M' 46 j = M 46 j) (hvc : vc ≤ vc') (h42 : ∀ u, u < vc → M' 42 u = M 42 u) : woT M' b z vc' j := by
  obtain ⟨a1, a2, a3⟩ := h
  refine ⟨h44.trans a1, h45.trans a2, ?_⟩
  rw [h46]
  rcases a3 with a3 | ⟨c1, c2, u, c3, c4, c5, c6⟩ | a3
  · exact Or.inl a3
  · exact Or.inr (Or.inl ⟨c1, c2, u, c3, by omega, c5, (h42 u c4).trans c6⟩)
  · exact Or.inr (Or.inr a3)
/-- so many words are cut -/
def cwT (M0 M : mM) (b : Nat → Nat) (z k i vc : Nat) : Prop := (M 33 3 = nI i ∧ M 33 0 = nI z ∧ M 34 9 = nI vc ∧ M 43 = M0 43) ∧ (i ≤ k ∧ 5 ≤ vc ∧ vc ≤ 5 + i) ∧ skT b z k = plT b z i ∧ (∀ j, j < i → plT b z j < z ∧ woT M b z vc j) ∧ (∀ u, 5 ≤ u → u < vc → ∃ x, x ≤ 9999 ∧ M 42 u = nI x) ∧ (∀ q, q ≠ 33 → q ≠ 34 → q ≠ 42 → q ≠ 44 → q ≠ 45 → q ≠ 46 → M q = M0 q) ∧ (∀ k, k ≠ 3 → M 33 k = M0 33 k) ∧ ∀ k, k ≠ 9 → M 34 k = M0 34 k
/-- a word is put behind them -/
theorem cwT_add {M0 M : mM} {b : Nat → Nat} {z k i vc k' : Nat} (h : cwT M0 M b z k i vc) (hk : plT b z i = k) (hz : k < z) (hk' : k' = teT b z k) (hc : cdT b z k ≠ 30) (v : Int32) (hv : (10 ≤ cdT b z k ∧ cdT b z k ≤ 14 ∧ v = nI (cdT b z k - 10)) ∨ (¬ (10 ≤ cdT b z k ∧ cdT b z k ≤ 14) ∧ v = -3)) : cwT M0 (wr (wr (wr (wr M 44 i (nI (cdT b z k))) 45 i (nI k)) 46 i v) 33 3 (nI (i + 1))) b z k' (i + 1) vc := by
  obtain ⟨⟨a1, a2, a3, a4⟩, ⟨b1', b2', b3'⟩, c, d, e, f1, f2, f3⟩ := h
  have hup := teT_le b hz
  have n42 : ∀ u, wr (wr (wr (wr M 44 i (nI (cdT b z k))) 45 i (nI k)) 46 i v) 33 3 (nI (i + 1)) 42 u = M 42 u := fun u => by rw [wr_q _ _ (by omega), wr_q _ _ (by omega), wr_q _ _ (by omega), wr_q _ _ (by omega)]
  refine ⟨⟨wr_s _ _ _ _, ?_, ?_, ?_⟩, ⟨by omega, b2', by omega⟩, ?_, fun j hj => ?_, fun u h1 h2 => ?_, fun q q1 q2 q3 q4 q5 q6 => ?_, fun j hj => ?_, fun j hj => ?_⟩
  · rw [wr_k _ (by omega), wr_q _ _ (by omega), wr_q _ _ (by omega), wr_q _ _ (by omega)]; exact a2
  · rw [wr_q _ _ (by omega), wr_q _ _ (by omega), wr_q _ _ (by omega), wr_q _ _ (by omega)]; exact a3
  · rw [wr_q _ _ (by omega), wr_q _ _ (by omega), wr_q _ _ (by omega), wr_q _ _ (by omega)]; exact a4
  · rw [hk']
    show _ = skT b z (teT b z (plT b z i))
    rw [hk]
  · by_cases ej : j = i
    · subst ej
      refine ⟨by rw [hk]; exact hz, ?_, ?_, ?_⟩
      · rw [wr_q _ _ (by omega), wr_q _ _ (by omega), wr_q _ _ (by omega), wr_s, hk]
      · rw [wr_q _ _ (by omega), wr_q _ _ (by omega), wr_s, hk]
      · rw [wr_q _ _ (by omega), wr_s, hk]
        rcases hv with hv | hv
        · exact Or.inl hv
        · exact Or.inr (Or.inr ⟨hv.1, hc, hv.2⟩)
    · obtain ⟨d1, d2⟩ := d j (by omega)
      refine ⟨d1, woT_keep d2 ?_ ?_ ?_ (Nat.le_refl vc) (fun u _ => n42 u)⟩
      · rw [wr_q _ _ (by omega), wr_q _ _ (by omega), wr_q _ _ (by omega), wr_k _ ej]
      · rw [wr_q _ _ (by omega), wr_q _ _ (by omega), wr_k _ ej, wr_q _ _ (by omega)]
      · rw [wr_q _ _ (by omega), wr_k _ ej, wr_q _ _ (by omega), wr_q _ _ (by omega)]
  · rw [n42]; exact e u h1 h2
  · rw [wr_q _ _ q1, wr_q _ _ q6, wr_q _ _ q5, wr_q _ _ q4]; exact f1 q q1 q2 q3 q4 q5 q6
  · rw [wr_k _ hj, wr_q _ _ (by omega), wr_q _ _ (by omega), wr_q _ _ (by omega)]; exact f2 j hj
  · rw [wr_q _ _ (by omega), wr_q _ _ (by omega), wr_q _ _ (by omega), wr_q _ _ (by omega)]; exact f3 j hj
theorem numC {M : mM} {b : Nat → Nat} {z f e vc i : Nat} (hB : byT (M 43) b z) (he : e ≤ z) (h9 : M 34 9 = nI vc) (hvc : vc < 205) (h3 : M 33 3 = nI i) (hi : i ≤ 200) : ∀ (d k acc fu : Nat), k + d = e → d < fu → (∀ j, k ≤ j → j < e → isDb (b j) = true) → fX5_addNumber_L22 fu M (nI f) (nI e) (nI acc) (nI k) = some (0, wr (wr (wr (wr (wr (wr M 42 vc (nI (nuT b d k acc))) 34 9 (nI (vc + 1))) 44 i 30) 45 i (nI f)) 46 i (nI vc)) 33 3 (nI (i + 1))) := by
  intro d
  induction d with
  | zero =>
    intro k acc fu hk hf hd
    obtain ⟨g, rfl⟩ : ∃ j, fu = j + 1 := ⟨fu - 1, by omega⟩
    show fX5_addNumber_L22_b (fX5_addNumber_L22 g) M (nI f) (nI e) (nI acc) (nI k) = _
    unfold fX5_addNumber_L22_b
    have hz := hB.1
    have hA : fX6_addValue_q34 M (nI acc) = some (nI vc, wr (wr M 42 vc (nI acc)) 34 9 (nI (vc + 1))) := by
      unfold fX6_addValue_q34
      rw [h9, if_neg (show ¬ (205 : Int32) ≤ nI vc from nI_ge (b := 205) hvc (by omega)), gd_t (ix_nI hvc (by omega)), tn_nI (by omega), wr_q _ _ (show (34 : Nat) ≠ 42 by omega), h9, nI_1, wr_s, nI_pred]
    have h3' : wr (wr M 42 vc (nI acc)) 34 9 (nI (vc + 1)) 33 3 = nI i := by rw [wr_q _ _ (by omega), wr_q _ _ (by omega)]; exact h3
    rw [if_pos (nI_le (by omega) (by omega)), b2_s hA, b2_s (addWord_at h3' hi 30 (nI f) (nI vc))]
    rfl
  | succ d ih =>
    intro k acc fu hk hf hd
    obtain ⟨g, rfl⟩ : ∃ j, fu = j + 1 := ⟨fu - 1, by omega⟩
    obtain ⟨hz, hb⟩ := hB
    obtain ⟨b1', b2'⟩ := hb k (by omega)
    have hk2 := (Bool.and_eq_true _ _).mp (hd k (by omega) (by omega))
    have h48 := of_decide_eq_true hk2.1
    show fX5_addNumber_L22_b (fX5_addNumber_L22 g) M (nI f) (nI e) (nI acc) (nI k) = _
    unfold fX5_addNumber_L22_b
    rw [if_neg (nI_ge (by omega) (by omega)), gd_t (ix_nI (by omega) (by omega)), tn_nI (by omega), b2', show nI acc * 10 = nI (acc * 10) from pk_mul acc 10, nI_add, show nI (acc * 10 + b k) - 48 = nI (acc * 10 + b k - 48) from pk_sub (b := 48) (by omega), nI_1, show acc * 10 + b k - 48 = acc * 10 + (b k - 48) by omega]
    exact ih (k + 1) (acc * 10 + (b k - 48)) g (by omega) (by omega) (fun j h1 h2 => hd j (by omega) h2)
theorem loopRun {M : mM} {b : Nat → Nat} {z f : Nat} (hB : byT (M 43) b z) (h0 : M 33 0 = nI z) (k5 : mM → Int32 → Option (Int32 × mM)) : (∀ (d k fu : Nat), k + d = z → d < fu → fX5_cutWords_L31 k5 fu M (nI k) (nI f) = fX5_cutWords_L57 k5 M (nI (runT isLb b (z - k) k)) (nI f)) ∧ ∀ (d k fu : Nat), k + d = z → d < fu → fX5_cutWords_L105 k5 fu M (nI k) (nI f) = fX5_cutWords_L131 k5 M (nI (runT isDb b (z - k) k)) (nI f) := by
  obtain ⟨hz, hb⟩ := hB
  refine ⟨fun d => ?_, fun d => ?_⟩
  · induction d with
    | zero =>
      intro k fu hk hf
      obtain ⟨g, rfl⟩ : ∃ j, fu = j + 1 := ⟨fu - 1, by omega⟩
      show fX5_cutWords_L31_b k5 (fX5_cutWords_L31 k5 g) M (nI k) (nI f) = _
      unfold fX5_cutWords_L31_b
      rw [h0, if_pos (nI_le (by omega) (by omega)), show z - k = 0 by omega]
      rfl
    | succ d ih =>
      intro k fu hk hf
      obtain ⟨g, rfl⟩ : ∃ j, fu = j + 1 := ⟨fu - 1, by omega⟩
      obtain ⟨b1', b2'⟩ := hb k (by omega)
      show fX5_cutWords_L31_b k5 (fX5_cutWords_L31 k5 g) M (nI k) (nI f) = _
      unfold fX5_cutWords_L31_b
      rw [h0, if_neg (nI_ge (by omega) (by omega)), gd_t (ix_nI (by omega) (by omega)), tn_nI (by omega), b2', isL_at b1', bI_if, nI_1]
      cases hc : isLb (b k)
      · rw [if_neg (by decide), show z - k = (z - (k + 1)) + 1 by omega]
        show _ = fX5_cutWords_L57 k5 M (nI (if isLb (b k) then _ else k)) (nI f)
        rw [hc]; rfl
      · rw [if_pos rfl, run1 (by omega) hc]
        exact ih (k + 1) g (by omega) (by omega)
  · induction d with
    | zero =>
      intro k fu hk hf
      obtain ⟨g, rfl⟩ : ∃ j, fu = j + 1 := ⟨fu - 1, by omega⟩
      show fX5_cutWords_L105_b k5 (fX5_cutWords_L105 k5 g) M (nI k) (nI f) = _
      unfold fX5_cutWords_L105_b
      rw [h0, if_pos (nI_le (by omega) (by omega)), show z - k = 0 by omega]
      rfl
    | succ d ih =>
      intro k fu hk hf
      obtain ⟨g, rfl⟩ : ∃ j, fu = j + 1 := ⟨fu - 1, by omega⟩
      obtain ⟨b1', b2'⟩ := hb k (by omega)
      show fX5_cutWords_L105_b k5 (fX5_cutWords_L105 k5 g) M (nI k) (nI f) = _
      unfold fX5_cutWords_L105_b
      rw [h0, if_neg (nI_ge (by omega) (by omega)), gd_t (ix_nI (by omega) (by omega)), tn_nI (by omega), b2', isD_at b1', bI_if, nI_1]
      cases hc : isDb (b k)
      · rw [if_neg (by decide), show z - k = (z - (k + 1)) + 1 by omega]
        show _ = fX5_cutWords_L131 k5 M (nI (if isDb (b k) then _ else k)) (nI f)
        rw [hc]; rfl
      · rw [if_pos rfl, run1 (by omega) hc]
        exact ih (k + 1) g (by omega) (by omega)
/-- all words are cut: the table -/
def taT (M : mM) (b : Nat → Nat) (z w vc : Nat) : Prop := w ≤ 200 ∧ plT b z w = z ∧ (∀ j, j < w → plT b z j < z) ∧ (∀ j, j ≤ w → woT M b z vc j) ∧ (5 ≤ vc ∧ vc ≤ 205 ∧ M 34 9 = nI vc ∧ ∀ u, 5 ≤ u → u < vc → ∃ x, x ≤ 9999 ∧ M 42 u = nI x)
theorem cutB {M0 : mM} {b : Nat → Nat} {z : Nat} (hB : byT (M0 43) b z) : ∀ (d k i vc fu : Nat) (M : mM), k + d = z → d < fu → cwT M0 M b z k i vc → ∃ (M' : mM) (w vc' : Nat), fX5_cutWords_L7 fu M (nI k) = some (0, M') ∧ taT M' b z w vc' ∧ (∀ q, q ≠ 33 → q ≠ 34 → q ≠ 42 → q ≠ 44 → q ≠ 45 → q ≠ 46 → M' q = M0 q) ∧ (∀ k, k ≠ 3 → M' 33 k = M0 33 k) ∧ ∀ k, k ≠ 9 → M' 34 k = M0 34 k := by
  have hz := hB.1
  intro d
  induction d using Nat.strongRecOn with
  | ind d ih =>
    intro k i vc fu M hk hf hC
    obtain ⟨g, rfl⟩ : ∃ j, fu = j + 1 := ⟨fu - 1, by omega⟩
    obtain ⟨⟨a1, a2, a3, a4⟩, ⟨b1', b2', b3'⟩, c, dd, e, f1, f2, f3⟩ := id hC
    have hBM : byT (M 43) b z := by rw [a4]; exact hB
    show ∃ (M' : mM) (w vc' : Nat), fX5_cutWords_L7_b (fX5_cutWords_L7 g) M (nI k) = _ ∧ _
    unfold fX5_cutWords_L7_b
    rw [a2]
    by_cases hd : d = 0
    · have ek : k = z := by omega
      subst ek
      have ei : plT b k i = k := by rw [← c, skT_z]
      have n42 : ∀ u, wr (wr (wr (wr M 44 i 40) 45 i (nI k)) 46 i (-3)) 33 3 (nI (i + 1)) 42 u = M 42 u := fun u => by rw [wr_q _ _ (by omega), wr_q _ _ (by omega), wr_q _ _ (by omega), wr_q _ _ (by omega)]
      rw [if_pos (nI_le (by omega) (by omega)), b2_s (addWord_at a1 (by omega) 40 (nI k) (-3))]
      refine ⟨_, i, vc, rfl, ⟨by omega, ei, fun j hj => (dd j hj).1, fun j hj => ?_, b2', by omega, ?_, fun u h1 h2 => ?_⟩, fun q q1 q2 q3 q4 q5 q6 => ?_, fun j hj => ?_, fun j hj => ?_⟩
      · by_cases ej : j = i
        · subst ej
          have ec : cdT b k (plT b k j) = 40 := by rw [ei]; unfold cdT; rw [if_neg (by omega)]
          refine ⟨?_, ?_, ?_⟩
          · rw [ec, wr_q _ _ (by omega), wr_q _ _ (by omega), wr_q _ _ (by omega), wr_s]; rfl
          · rw [ei, wr_q _ _ (by omega), wr_q _ _ (by omega), wr_s]
          · rw [ec, wr_q _ _ (by omega), wr_s]
            exact Or.inr (Or.inr ⟨by omega, by omega, rfl⟩)
        · refine woT_keep (dd j (by omega)).2 ?_ ?_ ?_ (Nat.le_refl vc) (fun u _ => n42 u)
          · rw [wr_q _ _ (by omega), wr_q _ _ (by omega), wr_q _ _ (by omega), wr_k _ ej]
          · rw [wr_q _ _ (by omega), wr_q _ _ (by omega), wr_k _ ej, wr_q _ _ (by omega)]
          · rw [wr_q _ _ (by omega), wr_k _ ej, wr_q _ _ (by omega), wr_q _ _ (by omega)]
      · rw [wr_q _ _ (by omega), wr_q _ _ (by omega), wr_q _ _ (by omega), wr_q _ _ (by omega)]; exact a3
      · rw [n42]; exact e u h1 h2
      · rw [wr_q _ _ q1, wr_q _ _ q6, wr_q _ _ q5, wr_q _ _ q4]; exact f1 q q1 q2 q3 q4 q5 q6
      · rw [wr_k _ hj, wr_q _ _ (by omega), wr_q _ _ (by omega), wr_q _ _ (by omega)]; exact f2 j hj
      · rw [wr_q _ _ (by omega), wr_q _ _ (by omega), wr_q _ _ (by omega), wr_q _ _ (by omega)]; exact f3 j hj
    · have hkz : k < z := by omega
      obtain ⟨y1, y2⟩ := hBM.2 k hkz
      have g2 : ∀ {x : Option (Int32 × mM)}, gd (ix (nI k) 200) x = x := gd_t (ix_nI (by omega) (by omega))
      rw [if_neg (nI_ge hkz (by omega))]
      simp only [g2, tn_nI (show k < 2 ^ 31 by omega), y2, isL_at y1, isD_at y1, bI_if, nI_1]
      by_cases hL : isLb (b k) = true
      · -- a name
        have hS : isSb (b k) = false := by
          have h1 := of_decide_eq_true ((Bool.and_eq_true _ _).mp hL).1
          exact decide_eq_false (by omega)
        have hpk : plT b z i = k := by rw [← c, skT_at b hS]
        have ee : teT b z k = runT isLb b (z - (k + 1)) (k + 1) := by unfold teT; rw [if_pos hkz, if_pos hL, run1 hkz hL]
        have hte := teT_le b hkz
        have hcd : cdT b z k = nmT b k (teT b z k) := by unfold cdT; rw [if_pos hkz, if_pos hL]
        obtain ⟨n1, n2⟩ := nmT_lt b k (teT b z k)
        rw [if_pos hL, (loopRun hBM a2 (fX5_cutWords_L7 g)).1 (z - (k + 1)) (k + 1) 5000 (by omega) (by omega), ← ee]
        unfold fX5_cutWords_L57
        rw [b1_s (nameAt_at hBM (by omega) hte.2)]
        by_cases hF : fX11_isIn (nI (nmT b k (teT b z k))) 10 14 = 0
        · have nF : ¬ (10 ≤ nmT b k (teT b z k) ∧ nmT b k (teT b z k) ≤ 14) := fun q => by
            rw [show fX11_isIn (nI (nmT b k (teT b z k))) 10 14 = 1 from isIn_t (a := 10) (b := 14) q.1 q.2 (by omega)] at hF
            exact absurd hF (by decide)
          rw [if_pos hF, b2_s (addWord_at a1 (by omega) _ _ _)]
          have hC' := cwT_add hC hpk hkz rfl (by rw [hcd]; exact n2) (-3) (Or.inr ⟨by rw [hcd]; exact nF, rfl⟩)
          rw [hcd] at hC'
          exact ih (z - teT b z k) (by omega) (teT b z k) (i + 1) vc g _ (by omega) (by omega) hC'
        · obtain ⟨u, u1, u2, u3⟩ := isIn_yes (a := 10) (b := 14) (by omega) (by omega) hF
          have eu : nmT b k (teT b z k) = u := (nI_eq (by omega) (by omega)).mp u3
          rw [if_neg hF, b2_s (addWord_at a1 (by omega) _ _ _)]
          have hC' := cwT_add hC hpk hkz rfl (by rw [hcd]; exact n2) (nI (nmT b k (teT b z k)) - 10) (Or.inl ⟨by rw [hcd]; omega, by rw [hcd]; omega, by rw [hcd]; exact pk_sub (b := 10) (by omega)⟩)
          rw [hcd] at hC'
          exact ih (z - teT b z k) (by omega) (teT b z k) (i + 1) vc g _ (by omega) (by omega) hC'
      · rw [if_neg hL]
        have hL' : isLb (b k) = false := Bool.eq_false_iff.mpr hL
        by_cases hD : isDb (b k) = true
        · -- a NUMBER
          have hS : isSb (b k) = false := by
            have h1 := of_decide_eq_true ((Bool.and_eq_true _ _).mp hD).1
            exact decide_eq_false (by omega)
          have hpk : plT b z i = k := by rw [← c, skT_at b hS]
          have ee : teT b z k = runT isDb b (z - (k + 1)) (k + 1) := by unfold teT; rw [if_pos hkz, if_neg hL, if_pos hD, run1 hkz hD]
          have hte := teT_le b hkz
          have hcd : cdT b z k = if teT b z k - k ≤ 4 then 30 else 41 := by unfold cdT; rw [if_pos hkz, if_neg hL, if_pos hD]
          rw [if_pos hD, (loopRun hBM a2 (fX5_cutWords_L7 g)).2 (z - (k + 1)) (k + 1) 5000 (by omega) (by omega), ← ee]
          unfold fX5_cutWords_L131 fX5_addNumber
          rw [show nI (teT b z k) - nI k = nI (teT b z k - k) from pk_sub (by omega)]
          by_cases h4 : teT b z k - k ≤ 4
          · rw [if_pos h4] at hcd
            have hdig := dig_in hkz hL' hD
            have hnb := nbT_lt hkz hL' hD h4
            have hN := numC (f := k) hBM hte.2 a3 (by omega) a1 (by omega) (teT b z k - k) k 0 5000 (by omega) (by omega) hdig
            rw [if_pos (show nI (teT b z k - k) ≤ 4 from nI_le (b := 4) h4 (by omega)), b2_s (show fX5_addNumber_L22 5000 M (nI k) (nI (teT b z k)) 0 (nI k) = _ from hN)]
            rw [show nuT b (teT b z k - k) k 0 = nbT b z k from rfl]
            have n42 : ∀ u, u ≠ vc → wr (wr (wr (wr (wr (wr M 42 vc (nI (nbT b z k))) 34 9 (nI (vc + 1))) 44 i 30) 45 i (nI k)) 46 i (nI vc)) 33 3 (nI (i + 1)) 42 u = M 42 u := fun u hu => by rw [wr_q _ _ (by omega), wr_q _ _ (by omega), wr_q _ _ (by omega), wr_q _ _ (by omega), wr_q _ _ (by omega), wr_k _ hu]
            have n42v : wr (wr (wr (wr (wr (wr M 42 vc (nI (nbT b z k))) 34 9 (nI (vc + 1))) 44 i 30) 45 i (nI k)) 46 i (nI vc)) 33 3 (nI (i + 1)) 42 vc = nI (nbT b z k) := by rw [wr_q _ _ (by omega), wr_q _ _ (by omega), wr_q _ _ (by omega), wr_q _ _ (by omega), wr_q _ _ (by omega), wr_s]
            refine ih (z - teT b z k) (by omega) (teT b z k) (i + 1) (vc + 1) g _ (by omega) (by omega) ⟨⟨wr_s _ _ _ _, ?_, ?_, ?_⟩, ⟨by omega, by omega, by omega⟩, ?_, fun j hj => ?_, fun u h1 h2 => ?_, fun q q1 q2 q3 q4 q5 q6 => ?_, fun j hj => ?_, fun j hj => ?_⟩
            · rw [wr_k _ (by omega), wr_q _ _ (by omega), wr_q _ _ (by omega), wr_q _ _ (by omega), wr_q _ _ (by omega), wr_q _ _ (by omega)]; exact a2
            · rw [wr_q _ _ (by omega), wr_q _ _ (by omega), wr_q _ _ (by omega), wr_q _ _ (by omega), wr_s]
            · rw [wr_q _ _ (by omega), wr_q _ _ (by omega), wr_q _ _ (by omega), wr_q _ _ (by omega), wr_q _ _ (by omega), wr_q _ _ (by omega)]; exact a4
            · show _ = skT b z (teT b z (plT b z i))
              rw [hpk]
            · by_cases ej : j = i
              · subst ej
                refine ⟨by rw [hpk]; exact hkz, ?_, ?_, ?_⟩
                · rw [hpk, hcd, wr_q _ _ (by omega), wr_q _ _ (by omega), wr_q _ _ (by omega), wr_s]; rfl
                · rw [hpk, wr_q _ _ (by omega), wr_q _ _ (by omega), wr_s]
                · rw [hpk, hcd, wr_q _ _ (by omega), wr_s]
                  exact Or.inr (Or.inl ⟨rfl, hnb, vc, by omega, by omega, rfl, n42v⟩)
              · obtain ⟨d1, d2⟩ := dd j (by omega)
                refine ⟨d1, woT_keep d2 ?_ ?_ ?_ (by omega) (fun u hu => n42 u (by omega))⟩
                · rw [wr_q _ _ (by omega), wr_q _ _ (by omega), wr_q _ _ (by omega), wr_k _ ej, wr_q _ _ (by omega), wr_q _ _ (by omega)]
                · rw [wr_q _ _ (by omega), wr_q _ _ (by omega), wr_k _ ej, wr_q _ _ (by omega), wr_q _ _ (by omega), wr_q _ _ (by omega)]
                · rw [wr_q _ _ (by omega), wr_k _ ej, wr_q _ _ (by omega), wr_q _ _ (by omega), wr_q _ _ (by omega), wr_q _ _ (by omega)]
            · by_cases eu : u = vc
              · rw [eu]; exact ⟨_, hnb, n42v⟩
              · rw [n42 u eu]; exact e u h1 (by omega)
            · rw [wr_q _ _ q1, wr_q _ _ q6, wr_q _ _ q5, wr_q _ _ q4, wr_q _ _ q2, wr_q _ _ q3]; exact f1 q q1 q2 q3 q4 q5 q6
            · rw [wr_k _ hj, wr_q _ _ (by omega), wr_q _ _ (by omega), wr_q _ _ (by omega), wr_q _ _ (by omega), wr_q _ _ (by omega)]; exact f2 j hj
            · rw [wr_q _ _ (by omega), wr_q _ _ (by omega), wr_q _ _ (by omega), wr_q _ _ (by omega), wr_k _ hj, wr_q _ _ (by omega)]; exact f3 j hj
          · rw [if_neg h4] at hcd
            have hA := addWord_at a1 (show i ≤ 200 by omega) (nI (cdT b z k)) (nI k) (-3)
            rw [hcd] at hA
            rw [if_neg (show ¬ nI (teT b z k - k) ≤ 4 from nI_ge (a := 4) (by omega) (by omega)), b2_s (show fX5_addWord M 41 (nI k) (-3) = _ from hA), b2_s rfl]
            have hC' := cwT_add hC hpk hkz rfl (by rw [hcd]; omega) (-3) (Or.inr ⟨by rw [hcd]; omega, rfl⟩)
            rw [hcd] at hC'
            exact ih (z - teT b z k) (by omega) (teT b z k) (i + 1) vc g _ (by omega) (by omega) hC'
        · rw [if_neg hD]
          by_cases hS : b k = 32
          · have hS' : isSb (b k) = true := decide_eq_true hS
            rw [if_pos (by rw [hS]; rfl)]
            exact ih (z - (k + 1)) (by omega) (k + 1) i vc g M (by omega) (by omega) ⟨⟨a1, a2, a3, a4⟩, ⟨by omega, b2', b3'⟩, by rw [← skT_sp b hkz hS']; exact c, dd, e, f1, f2, f3⟩
          · have hS' : isSb (b k) = false := decide_eq_false hS
            have hpk : plT b z i = k := by rw [← c, skT_at b hS']
            have ee : teT b z k = k + 1 := by unfold teT; rw [if_pos hkz, if_neg hL, if_neg hD]
            have hcd : cdT b z k = sgT (b k) := by unfold cdT; rw [if_pos hkz, if_neg hL, if_neg hD]
            have hs30 : sgT (b k) ≠ 30 ∧ ¬ (10 ≤ sgT (b k) ∧ sgT (b k) ≤ 14) := by
              unfold sgT
              repeat' split
              all_goals omega
            rw [if_neg (show ¬ nI (b k) = 32 from fun q => hS ((nI_eq (b := 32) (by omega) (by omega)).mp q)), signOf_at (b k) y1, b2_s (addWord_at a1 (by omega) _ _ _)]
            have hC' := cwT_add hC hpk hkz rfl (by rw [hcd]; exact hs30.1) (-3) (Or.inr ⟨by rw [hcd]; exact hs30.2, rfl⟩)
            rw [hcd, ee] at hC'
            exact ih (z - (k + 1)) (by omega) (k + 1) (i + 1) vc g _ (by omega) (by omega) hC'
