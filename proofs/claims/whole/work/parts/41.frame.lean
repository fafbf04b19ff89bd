/-! WHAT STAYS: SUM's own cells; the parts of the relation -/
def eqX (X X' : mM) : Prop := X' 0 0 = X 0 0 ∧ (∀ q, 1 ≤ q → q ≤ 14 → X' q = X q) ∧ ∀ k, 5 ≤ k → X' 15 k = X 15 k
theorem valS_eq {X X' : mM} (h : eqX X X') (f : Nat → Int32) (v : Int32) : valS X' f v = valS X f v := by
  unfold valS
  by_cases hv : v.toNatClampNeg < 5
  · rw [if_pos hv, if_pos hv]
  · rw [if_neg hv, if_neg hv, h.2.2 _ (by omega)]
theorem stS_eq {X X' : mM} (h : eqX X X') (f : Nat → Int32) (a : Nat) (s : List Bool) : stS X' f a s = stS X f a s := by
  unfold stS
  rw [valS_eq h, valS_eq h, h.2.1 12 (by omega) (by omega), h.2.1 13 (by omega) (by omega), h.2.1 14 (by omega) (by omega)]
theorem runS_eq {X X' : mM} (h : eqX X X') (f : Nat → Int32) : ∀ (d a : Nat) (s : List Bool), runS X' f a d s = runS X f a d s := by
  intro d
  induction d with
  | zero => intro a s; rfl
  | succ d ih => intro a s; show runS X' f (a + 1) d (stS X' f a s) = runS X f (a + 1) d (stS X f a s); rw [stS_eq h, ih]
theorem condS_eq {X X' : mM} (h : eqX X X') (f : Nat → Int32) (r : Nat) : condS X' f r = condS X f r := by
  unfold condS fromS
  rw [h.2.1 11 (by omega) (by omega), runS_eq h]
theorem weighS_eq {X X' : mM} (h : eqX X X') (f : Nat → Int32) (k : Nat) (w : Int32) : ∀ m r, weighS X' f k w m r = weighS X f k w m r := by
  intro m
  induction m with
  | zero => intro r; rfl
  | succ m ih =>
    intro r
    unfold weighS
    rw [h.2.1 8 (by omega) (by omega), h.2.1 9 (by omega) (by omega), h.2.1 10 (by omega) (by omega), condS_eq h, ih]
theorem powS_eq {X X' : mM} (h : eqX X X') (hh cnt : Int32) (p : Nat) : powS X' hh cnt p = powS X hh cnt p := by
  have hf : factS X' hh cnt p = factS X hh cnt p := by
    funext j
    unfold factS
    rw [h.2.1 2 (by omega) (by omega), h.2.1 3 (by omega) (by omega)]
  unfold powS
  rw [hf, h.2.1 1 (by omega) (by omega), h.2.1 3 (by omega) (by omega), h.2.1 7 (by omega) (by omega), weighS_eq h]
theorem sumS_eq {X X' : mM} (h : eqX X X') (hr set : Nat) : ∀ p, sumS X' hr set p = sumS X hr set p := by
  intro p
  induction p with
  | zero => rfl
  | succ p ih =>
    unfold sumS
    rw [ih, powS_eq h, h.2.1 2 (by omega) (by omega)]
theorem SUM_eq {X X' : mM} (h : eqX X X') (hr set : Nat) : SUM X' hr set = SUM X hr set := by
  unfold SUM
  rw [h.1, sumS_eq h]
theorem encV_eq {X X' : mM} (h : ∀ q, q ≤ 15 → X' q = X q) (v : Nat) : encV X' v = encV X v := by unfold encV; rw [h 15 (by omega)]
theorem encS_eq {X X' : mM} (h : ∀ q, q ≤ 15 → X' q = X q) (j : Nat) : encS X' j = encS X j := by
  unfold encS
  rw [encV_eq h, encV_eq h, h 12 (by omega), h 13 (by omega), h 14 (by omega)]
theorem encL_eq {X X' : mM} (h : ∀ q, q ≤ 15 → X' q = X q) : ∀ d a, encL X' a d = encL X a d := by
  intro d
  induction d with
  | zero => intro a; rfl
  | succ d ih => intro a; show encS X' a ++ encL X' (a + 1) d = encS X a ++ encL X (a + 1) d; rw [encS_eq h, ih]
theorem okL_eq {X X' : mM} (h : ∀ q, q ≤ 15 → X' q = X q) (vc : Nat) : ∀ d a k, okL X' vc a d k = okL X vc a d k := by
  intro d
  induction d with
  | zero => intro a k; rfl
  | succ d ih =>
    intro a k
    unfold okL
    rw [ih, ih, ih, h 12 (by omega), h 13 (by omega), h 14 (by omega)]
theorem Rp_eq {X X' : mM} {t : Nat → Int32} (h : ∀ q, q ≤ 15 → X' q = X q) (hp : Rp X t) : Rp X' t := by
  obtain ⟨⟨n, aw, hh, no, li, la, h1⟩, ⟨rp, h2⟩, rc, st, vc, se, fr, to, h3⟩ := hp
  refine ⟨⟨n, aw, hh, no, li, la, ?_⟩, ⟨rp, ?_⟩, rc, st, vc, se, fr, to, ?_⟩
  · unfold Rv Rvo at h1 ⊢
    rw [h 0 (by omega), h 1 (by omega), h 2 (by omega), h 3 (by omega), h 4 (by omega)]
    exact h1
  · unfold Rr at h2 ⊢
    rw [h 0 (by omega), h 5 (by omega), h 6 (by omega)]
    exact h2
  · simp only [okL_eq h, encL_eq h]
    rw [h 7 (by omega), h 8 (by omega), h 9 (by omega), h 10 (by omega), h 11 (by omega), h 15 (by omega)]
    exact h3
def keepC (M M' : mM) : Prop := M' 0 = M 0 ∧ (∀ q, 17 ≤ q → q ≤ 62 → M' q = M q) ∧ M' 67 = M 67
def keepR (T T' : mM) : Prop := (T' 0 2 = T 0 2 ∧ T' 0 5 = T 0 5 ∧ T' 0 20 = T 0 20 ∧ T' 0 29 = T 0 29) ∧ T' 2 = T 2 ∧ T' 4 = T 4 ∧ ∀ q, 9 ≤ q → T' q = T q
theorem Rel.now {M T M' T' : mM} (hR : Rel M T) (h1 : Rp (nowC M') (T' 1)) (hs : Rs M') (hc : keepC M M') (hr : keepR T T') : Rel M' T' := by
  obtain ⟨-, -, k, t, w, h, a⟩ := hR
  obtain ⟨c0, c1, c2⟩ := hc
  obtain ⟨⟨r0, r1, r2, r3⟩, r4, r5, r6⟩ := hr
  refine ⟨h1, hs, ?_, ?_, ?_, ?_, ?_⟩
  · have e : ∀ q, q ≤ 15 → keptC M' q = keptC M q := fun q hq => c1 (17 + q) (by omega) (by omega)
    unfold Rk
    rw [c0, r0, r4]
    rcases k with k | ⟨k1, k2, k3⟩
    · exact Or.inl k
    · exact Or.inr ⟨k1, k2, Rp_eq e k3⟩
  · unfold Rt
    rw [c1 33 (by omega) (by omega), c1 43 (by omega) (by omega), r1, r5]
    exact t
  · unfold Rw
    rw [c0, c2, r2, r6 9 (by omega)]
    exact w
  · unfold Rh
    rw [c1 57 (by omega) (by omega), c1 58 (by omega) (by omega), c1 59 (by omega) (by omega), c1 60 (by omega) (by omega), c1 61 (by omega) (by omega), c1 62 (by omega) (by omega), r6 10 (by omega), r6 11 (by omega), r6 12 (by omega), r6 13 (by omega), r6 14 (by omega), r6 15 (by omega)]
    exact h
  · unfold Ra
    rw [c1 47 (by omega) (by omega), c1 48 (by omega) (by omega), r3, r6 16 (by omega)]
    exact a
theorem Rs.keep {M M' : mM} (h : Rs M) (h63 : M' 63 = M 63) (he : eqX (nowC M) (nowC M')) : Rs M' := by
  intro hr set h1 h2
  rw [h63, SUM_eq he]
  exact h hr set h1 h2
