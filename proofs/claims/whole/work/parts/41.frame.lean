/-! WHAT STAYS: SUM's own cells; the parts of the relation -/
def eqX (X X' : mM) : Prop := X' 0 0 = X 0 0 ∧ (∀ q, 1 ≤ q → q ≤ 14 → q ≠ 5 ∧ q ≠ 6 → X' q = X q) ∧ ∀ k, 5 ≤ k → X' 15 k = X 15 k
theorem valS_eq {X X' : mM} (h : eqX X X') (f : Nat → Int32) (v : Int32) : valS X' f v = valS X f v := by
  unfold valS
  by_cases hv : v.toNatClampNeg < 5
  · rw [if_pos hv, if_pos hv]
  · rw [if_neg hv, if_neg hv, h.2.2 _ (by omega)]
theorem stS_eq {X X' : mM} (h : eqX X X') (f : Nat → Int32) (a : Nat) (s : List Bool) : stS X' f a s = stS X f a s := by
  unfold stS
  rw [valS_eq h, valS_eq h, h.2.1 12 (by omega) (by omega) (by omega), h.2.1 13 (by omega) (by omega) (by omega), h.2.1 14 (by omega) (by omega) (by omega)]
theorem runS_eq {X X' : mM} (h : eqX X X') (f : Nat → Int32) : ∀ (d a : Nat) (s : List Bool), runS X' f a d s = runS X f a d s := by
  intro d
  induction d with
  | zero => intro a s; rfl
  | succ d ih => intro a s; show runS X' f (a + 1) d (stS X' f a s) = runS X f (a + 1) d (stS X f a s); rw [stS_eq h, ih]
theorem condS_eq {X X' : mM} (h : eqX X X') (f : Nat → Int32) (r : Nat) : condS X' f r = condS X f r := by
  unfold condS fromS
  rw [h.2.1 11 (by omega) (by omega) (by omega), runS_eq h]
theorem weighS_eq {X X' : mM} (h : eqX X X') (f : Nat → Int32) (k : Nat) (w : Int32) : ∀ m r, weighS X' f k w m r = weighS X f k w m r := by
  intro m
  induction m with
  | zero => intro r; rfl
  | succ m ih =>
    intro r
    unfold weighS
    rw [h.2.1 8 (by omega) (by omega) (by omega), h.2.1 9 (by omega) (by omega) (by omega), h.2.1 10 (by omega) (by omega) (by omega), condS_eq h, ih]
theorem powS_eq {X X' : mM} (h : eqX X X') (hh cnt : Int32) (p : Nat) : powS X' hh cnt p = powS X hh cnt p := by
  have hf : factS X' hh cnt p = factS X hh cnt p := by
    funext j
    unfold factS
    rw [h.2.1 2 (by omega) (by omega) (by omega), h.2.1 3 (by omega) (by omega) (by omega)]
  unfold powS
  rw [hf, h.2.1 1 (by omega) (by omega) (by omega), h.2.1 3 (by omega) (by omega) (by omega), h.2.1 7 (by omega) (by omega) (by omega), weighS_eq h]
theorem sumS_eq {X X' : mM} (h : eqX X X') (hr set : Nat) : ∀ p, sumS X' hr set p = sumS X hr set p := by
  intro p
  induction p with
  | zero => rfl
  | succ p ih =>
    unfold sumS
    rw [ih, powS_eq h, h.2.1 2 (by omega) (by omega) (by omega)]
theorem SUM_eq {X X' : mM} (h : eqX X X') (hr set : Nat) : SUM X' hr set = SUM X hr set := by
  unfold SUM
  rw [h.1, sumS_eq h]
/-- the rules of a copy -/
theorem Rl_cpy {X X' : mM} {t t' : Nat → Int32} (hl : Rl X t) (h7 : X' 7 0 = X 7 0 ∧ X' 7 5 = X 7 5 ∧ X' 7 9 = X 7 9) (h8 : ∀ r, r < 8 → X' 8 r = X 8 r ∧ X' 9 r = X 9 r ∧ X' 10 r = X 10 r ∧ X' 11 r = X 11 r) (h12 : ∀ j, j < (X 7 5).toNatClampNeg → X' 12 j = X 12 j ∧ X' 13 j = X 13 j ∧ X' 14 j = X 14 j) (h15 : ∀ v, 5 ≤ v → v < (X 7 9).toNatClampNeg → X' 15 v = X 15 v) (ht : ∀ k, k = 7 ∨ 55 ≤ k → k < 295 → t' k = t k) : Rl X' t' := by
  obtain ⟨rc, st, vc, se, fr, to, e1, e2, e3, e4, e5, e6, e7, e8, e9, e10, e11⟩ := hl
  rw [e6, nI_clamp (by omega)] at h12
  rw [e7, nI_clamp (by omega)] at h15
  have hok : ∀ d a k, a + d ≤ st → okL X' vc a d k = okL X vc a d k := by
    intro d
    induction d with
    | zero => intro a k _; rfl
    | succ d ih =>
      intro a k ha
      obtain ⟨u1, u2, u3⟩ := h12 a (by omega)
      unfold okL
      rw [ih (a + 1) (k + 1) (by omega), ih (a + 1) k (by omega), ih (a + 1) (k - 1) (by omega), u1, u2, u3]
  have hix : ∀ v : Int32, ix v vc = true → v.toNatClampNeg < vc := fun v h => by
    simp only [ix, Bool.and_eq_true, decide_eq_true_eq] at h
    exact h.2
  have hen : ∀ v : Nat, v < vc → encV X' v = encV X v := fun v h => by
    unfold encV
    by_cases z : v < 5
    · rw [if_pos z, if_pos z]
    · rw [if_neg z, if_neg z, h15 v (by omega) h]
  have hel : ∀ d a k m, a + d ≤ st → okL X vc a d k = some m → encL X' a d = encL X a d := by
    intro d
    induction d with
    | zero => intro a k m _ _; rfl
    | succ d ih =>
      intro a k m ha hk
      obtain ⟨u1, u2, u3⟩ := h12 a (by omega)
      unfold okL at hk
      split at hk
      · next g =>
        have es : encS X' a = encS X a := by
          unfold encS
          rw [u1, u2, u3, hen _ (hix _ g.1), hen _ (hix _ g.2)]
        have et : encL X' (a + 1) d = encL X (a + 1) d := by
          split at hk
          · split at hk
            · exact ih _ _ _ (by omega) hk
            · exact absurd hk (by simp)
          · split at hk
            · split at hk
              · exact ih _ _ _ (by omega) hk
              · exact absurd hk (by simp)
            · split at hk
              · split at hk
                · exact ih _ _ _ (by omega) hk
                · exact absurd hk (by simp)
              · exact absurd hk (by simp)
        show encS X' a ++ encL X' (a + 1) d = encS X a ++ encL X (a + 1) d
        rw [es, et]
      · exact absurd hk (by simp)
  refine ⟨rc, st, vc, se, fr, to, e1, e2, e3, e4, h7.1.trans e5, h7.2.1.trans e6, h7.2.2.trans e7, (ht 7 (Or.inl rfl) (by omega)).trans e8, e9, fun v h1 h2 => ?_, fun r hr => ?_⟩
  · rw [h15 v h1 h2]; exact e10 v h1 h2
  · obtain ⟨k, d, b, y1, y2, y3, y4, y5, y6, y7, y8, y9, y10, y11, y12, y13, y14, y15, y16, y17, y18⟩ := e11 r hr
    obtain ⟨u1, u2, u3, u4⟩ := h8 r (by omega)
    refine ⟨k, d, b, y1, y2, y3, u1.trans y4, u2.trans y5, u3.trans y6, ?_, ?_, ?_, u4.trans y10, y11, y12, ?_, ?_, y15, y16, ?_, ?_⟩
    · rw [ht _ (by omega) (by omega)]; exact y7
    · rw [ht _ (by omega) (by omega)]; exact y8
    · rw [ht _ (by omega) (by omega)]; exact y9
    · rw [ht _ (by omega) (by omega)]; exact y13
    · rw [ht _ (by omega) (by omega)]; exact y14
    · rw [hok _ _ _ (by omega)]; exact y17
    · have e : encL X' (se r) (se (r + 1) - se r) = encL X (se r) (se (r + 1) - se r) := by
        rcases y17 with z | z
        · exact hel _ _ _ _ (by omega) z
        · rw [z, Nat.sub_self]; rfl
      rw [e, ← y18]
      apply List.map_congr_left
      intro i hi
      rw [List.mem_range] at hi
      rw [ht _ (by omega) (by omega)]
theorem Rl_eq {X X' : mM} {t t' : Nat → Int32} (h : ∀ q, 7 ≤ q → q ≤ 15 → X' q = X q) (ht : ∀ k, k = 7 ∨ 55 ≤ k → k < 295 → t' k = t k) (hl : Rl X t) : Rl X' t' :=
  Rl_cpy hl (by rw [h 7 (by omega) (by omega)]; exact ⟨rfl, rfl, rfl⟩) (fun r _ => by rw [h 8 (by omega) (by omega), h 9 (by omega) (by omega), h 10 (by omega) (by omega), h 11 (by omega) (by omega)]; exact ⟨rfl, rfl, rfl, rfl⟩) (fun j _ => by rw [h 12 (by omega) (by omega), h 13 (by omega) (by omega), h 14 (by omega) (by omega)]; exact ⟨rfl, rfl, rfl⟩) (fun v _ _ => by rw [h 15 (by omega) (by omega)]) ht
theorem Rp_eq {X X' : mM} {t : Nat → Int32} (h : ∀ q, q ≤ 15 → X' q = X q) (hp : Rp X t) : Rp X' t := by
  obtain ⟨⟨n, aw, hh, no, li, la, h1⟩, ⟨rp, h2⟩, h3⟩ := hp
  refine ⟨⟨n, aw, hh, no, li, la, ?_⟩, ⟨rp, ?_⟩, Rl_eq (fun q _ h2 => h q h2) (fun _ _ _ => rfl) h3⟩
  · unfold Rv Rvo at h1 ⊢
    rw [h 0 (by omega), h 1 (by omega), h 2 (by omega), h 3 (by omega), h 4 (by omega)]
    exact h1
  · unfold Rr at h2 ⊢
    rw [h 0 (by omega), h 5 (by omega), h 6 (by omega)]
    exact h2
def keepC (M M' : mM) : Prop := M' 0 = M 0 ∧ (∀ q, 17 ≤ q → q ≤ 62 → M' q = M q) ∧ M' 67 = M 67
def keepR (T T' : mM) : Prop := (T' 0 2 = T 0 2 ∧ T' 0 5 = T 0 5 ∧ T' 0 20 = T 0 20 ∧ T' 0 29 = T 0 29) ∧ T' 2 = T 2 ∧ T' 4 = T 4 ∧ ∀ q, 9 ≤ q → T' q = T q
theorem Rel.now {M T M' T' : mM} (hR : Rel M T) (h1 : Rp (nowC M') (T' 1)) (hs : Rs M') (hc : keepC M M') (hr : keepR T T') : Rel M' T' := by
  obtain ⟨-, -, k, t, w, h, a⟩ := hR
  obtain ⟨c0, c1, c2⟩ := hc
  obtain ⟨⟨r0, r1, r2, r3⟩, r4, r5, r6⟩ := hr
  refine ⟨h1, hs, ?_, ?_, ?_, ?_, ?_⟩
  · have e : ∀ q, q ≤ 15 → keptC M' q = keptC M q := fun q hq => c1 (17 + q) (by omega) (by omega)
    unfold Rk
    rw [c0, r0, r4]
    rcases k with k | ⟨k1, k2, k3⟩
    · exact Or.inl k
    · exact Or.inr ⟨k1, k2, Rp_eq e k3⟩
  · unfold Rt
    rw [c1 33 (by omega) (by omega), c1 43 (by omega) (by omega), r1, r5]
    exact t
  · unfold Rw
    rw [c0, c2, r2, r6 9 (by omega)]
    exact w
  · unfold Rh
    rw [c1 57 (by omega) (by omega), c1 58 (by omega) (by omega), c1 59 (by omega) (by omega), c1 60 (by omega) (by omega), c1 61 (by omega) (by omega), c1 62 (by omega) (by omega), r6 10 (by omega), r6 11 (by omega), r6 12 (by omega), r6 13 (by omega), r6 14 (by omega), r6 15 (by omega)]
    exact h
  · unfold Ra
    rw [c1 47 (by omega) (by omega), c1 48 (by omega) (by omega), r3, r6 16 (by omega)]
    exact a
theorem Rs.keep {M M' : mM} (h : Rs M) (h63 : M' 63 = M 63) (he : eqX (nowC M) (nowC M')) : Rs M' := by
  intro hr set h1 h2
  rw [h63, SUM_eq he]
  exact h hr set h1 h2
