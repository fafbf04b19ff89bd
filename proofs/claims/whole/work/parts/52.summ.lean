/-! what a VOTER weighs and SUM, by the model -/
/-- the model's row at an HOUR, a set of those awake and a LIMIT -/
def Vx (X : mM) (t : Nat → Int32) (n aw h li : Nat) : Prop := (n ≤ 7 ∧ aw < 2 ^ n ∧ h < 24 ∧ li ≤ 99) ∧ X 0 0 = nI n ∧ (t 0 = nI n ∧ t 1 = nI h ∧ t 3 = nI li) ∧ (∀ p, p < n → Rvo X t aw p) ∧ Rl X t
theorem Vx.vs {X : mM} {t : Nat → Int32} {n aw h li : Nat} (hV : Vx X t n aw h li) : Vs X n := by
  obtain ⟨a, b, c, hv, hl⟩ := hV
  refine ⟨a.1, b, fun p hp => ?_⟩
  obtain ⟨k, w, g, c', x1, x2, -⟩ := hv p hp
  exact ⟨k, w, x1.1, x1.2.1, x1.2.2.1, x2.1, x2.2.1⟩
theorem Rp_Vx {X : mM} {t : Nat → Int32} (hp : Rp X t) : ∃ n aw h no li la : Nat, Rv X t n aw h no li la ∧ Vx X t n aw h li := by
  obtain ⟨⟨n, aw, h, no, li, la, hV⟩, -, hl⟩ := hp
  obtain ⟨a, b, c, hv⟩ := id hV
  exact ⟨n, aw, h, no, li, la, hV, ⟨a.1, a.2.1, a.2.2.1, a.2.2.2.2.1⟩, b.1, ⟨c.1, c.2.1, c.2.2.2.1⟩, hv, hl⟩
set_option maxRecDepth 100000 in
theorem cnt_n : ∀ n, n < 8 → ∀ a, a < 128 → a < 2 ^ n → cntS n a = cntS 7 a := by decide +kernel
theorem awakeL : ∀ (d p n aw fuel : Nat) (T : mM), p + d = n → n ≤ 7 → aw < 2 ^ n → T 1 0 = nI n → (∀ p, p < n → T 1 (12 + 5 * p) = nI (aw / 2 ^ p % 2)) → d < fuel → fX12_awake_L4 fuel T (nI (cntS p aw)) (nI p) = some (nI (cntS n aw)) := by
  intro d
  induction d with
  | zero =>
    intro p n aw fuel T h hn ha h0 hb hf
    obtain ⟨k, rfl⟩ : ∃ k, fuel = k + 1 := ⟨fuel - 1, by omega⟩
    show fX12_awake_L4_b (fX12_awake_L4 k) T (nI (cntS p aw)) (nI p) = _
    unfold fX12_awake_L4_b
    rw [g0N, c0N, h0, if_pos (nI_le (by omega) (by omega))]
    have : p = n := by omega
    subst this
    rfl
  | succ d ih =>
    intro p n aw fuel T h hn ha h0 hb hf
    obtain ⟨k, rfl⟩ : ∃ k, fuel = k + 1 := ⟨fuel - 1, by omega⟩
    show fX12_awake_L4_b (fX12_awake_L4 k) T (nI (cntS p aw)) (nI p) = _
    unfold fX12_awake_L4_b
    rw [g0N, c0N, h0, if_neg (nI_ge (by omega) (by omega)), b1_s (its4 T (by omega)), show 8 + 5 * p + 4 = 12 + 5 * p by omega, hb p (by omega), nI_add, nI_1]
    exact ih (p + 1) n aw k T (by omega) hn ha h0 hb (by omega)
theorem bit_of {X : mM} {t : Nat → Int32} {aw p : Nat} (h : Rvo X t aw p) : t (12 + 5 * p) = nI (aw / 2 ^ p % 2) := by
  obtain ⟨k, w, g, c, x1, x2, z1, z2, z3, z4, z5⟩ := h
  exact z5
theorem awake_at {X T : mM} {n aw h li : Nat} (hV : Vx X (T 1) n aw h li) : fX12_awake T = some (nI (cntS 7 aw)) := by
  obtain ⟨a, b, c, hv, hl⟩ := hV
  have := awakeL n 0 n aw 5000 T (by omega) a.1 a.2.1 c.1 (fun p hp => bit_of (hv p hp)) (by omega)
  unfold fX12_awake
  rw [cnt_n n (by omega) aw (pow_le7 a.1 a.2.1) a.2.1] at this
  exact this
theorem fact_at {X T : mM} {n aw h li p : Nat} (hV : Vx X (T 1) n aw h li) (hp : p < n) {j : Nat} (hj : j < 5) : fX12_fact T (nI j) (nI p) = some (factS X (nI h) (nI (cntS 7 aw)) p j) := by
  obtain ⟨a, b, c, hv, hl⟩ := id hV
  obtain ⟨k, w, g, c', x1, x2, z1, z2, z3, z4, z5⟩ := hv p hp
  unfold fX12_fact
  rcases (by omega : j = 0 ∨ j = 1 ∨ j = 2 ∨ j = 3 ∨ j = 4) with rfl | rfl | rfl | rfl | rfl
  · rw [if_pos (show nI 0 = 0 from rfl), g1N, c1N, c.2.1]; rfl
  · rw [if_neg (show ¬ nI 1 = 0 by decide), if_pos (show nI 1 = 1 from rfl), b1_s (its1 T (by omega)), show 8 + 5 * p + 1 = 9 + 5 * p by omega, z2]
    exact congrArg some x2.2.1.symm
  · rw [if_neg (show ¬ nI 2 = 0 by decide), if_neg (show ¬ nI 2 = 1 by decide), if_pos (show nI 2 = 2 from rfl), b1_s (its2 T (by omega)), show 8 + 5 * p + 2 = 10 + 5 * p by omega, z3]
    exact congrArg some x2.2.2.1.symm
  · rw [if_neg (show ¬ nI 3 = 0 by decide), if_neg (show ¬ nI 3 = 1 by decide), if_neg (show ¬ nI 3 = 2 by decide), if_pos (show nI 3 = 3 from rfl), b1_s (awake_at hV)]; rfl
  · rw [if_neg (show ¬ nI 4 = 0 by decide), if_neg (show ¬ nI 4 = 1 by decide), if_neg (show ¬ nI 4 = 2 by decide), if_neg (show ¬ nI 4 = 3 by decide)]; rfl
/-- signs behind one another from a place on -/
def Seg (t : Nat → Int32) (j : Nat) : List Int32 → Prop
  | [] => True
  | v :: l => t (95 + j) = v ∧ Seg t (j + 1) l
theorem Seg_app (t : Nat → Int32) : ∀ (l1 l2 : List Int32) (j : Nat), Seg t j (l1 ++ l2) → Seg t j l1 ∧ Seg t (j + l1.length) l2 := by
  intro l1
  induction l1 with
  | nil => intro l2 j h; exact ⟨trivial, h⟩
  | cons v l ih =>
    intro l2 j h
    obtain ⟨h1, h2⟩ := ih l2 (j + 1) h.2
    refine ⟨⟨h.1, h1⟩, ?_⟩
    show Seg t (j + (l.length + 1)) l2
    rw [show j + (l.length + 1) = j + 1 + l.length by omega]
    exact h2
theorem Seg_of (t : Nat → Int32) : ∀ (L : List Int32) (m j : Nat), (List.range m).map (fun i => t (95 + j + i)) = L → Seg t j L ∧ L.length = m := by
  intro L
  induction L with
  | nil =>
    intro m j h
    have := congrArg List.length h
    rw [List.length_map, List.length_range] at this
    exact ⟨trivial, this.symm⟩
  | cons v l ih =>
    intro m j h
    cases m with
    | zero => exact absurd h (by simp)
    | succ m =>
      rw [List.range_succ_eq_map, List.map_cons, List.map_map] at h
      obtain ⟨h1, h2⟩ := List.cons.inj h
      obtain ⟨g1, g2⟩ := ih m (j + 1) (by rw [← h2]; apply List.map_congr_left; intro i _; show t (95 + (j + 1) + i) = t (95 + j + (i + 1)); congr 1; omega)
      exact ⟨⟨h1, g1⟩, by show l.length + 1 = m + 1; omega⟩
def bI (b : Bool) : Int32 := if b then 1 else 0
theorem bI01 (b : Bool) : bI b = 0 ∨ bI b = 1 := by
  cases b
  · exact Or.inl rfl
  · exact Or.inr rfl
/-- truths as the model keeps them -/
def Stk (T : mM) : List Bool → Prop
  | [] => True
  | b :: u => T 3 u.length = bI b ∧ Stk T u
theorem Stk_keep {T T' : mM} : ∀ s : List Bool, (∀ i, i < s.length → T' 3 i = T 3 i) → Stk T s → Stk T' s := by
  intro s
  induction s with
  | nil => intro _ _; trivial
  | cons b u ih =>
    intro h g
    exact ⟨(h u.length (by show u.length < u.length + 1; omega)).trans g.1, ih (fun i hi => h i (by show i < u.length + 1; omega)) g.2⟩
theorem neg_v : ∀ v, v < 5 → ¬ ((-1 : Int32) - nI v ≤ -11) ∧ (-1 : Int32) - nI v < 0 ∧ (-1 : Int32) - (-1 - nI v) = nI v := by decide +kernel
theorem signix (j : Nat) : (95 : Int32) + nI j = nI (95 + j) := nI_add 95 j
/-- a value is put on the stack -/
theorem mpush {X T : mM} {f : Nat → Int32} {n aw h li p vc to k j fuel : Nat} (hV : Vx X (T 1) n aw h li) (hp : p < n) (hf : f = factS X (nI h) (nI (cntS 7 aw)) p) (hz : ∀ v, 5 ≤ v → v < vc → ∃ z, z ≤ 9999 ∧ X 15 v = nI z) (hto : to ≤ 200) (hj : j < to) (hk : k < 200) (v : Int32) (hv : ix v vc = true) (ht : T 1 (95 + j) = encV X v.toNatClampNeg) :
    fX12_holds_L6 (fuel + 1) T (nI to) (nI p) (nI k) (nI j) = fX12_holds_L6 fuel (wr T 3 k (valS X f v)) (nI to) (nI p) (nI (k + 1)) (nI (j + 1)) := by
  show fX12_holds_L6_b (fX12_holds_L6 fuel) T (nI to) (nI p) (nI k) (nI j) = _
  unfold fX12_holds_L6_b
  have hlt := ix_ub hv
  rw [if_neg (nI_ge hj (by omega)), signix, gx (by omega), tn_nI (by omega), ht]
  unfold encV valS
  by_cases h5 : v.toNatClampNeg < 5
  · obtain ⟨q1, q2, q3⟩ := neg_v _ h5
    rw [if_pos h5, if_pos h5, if_neg q1, if_pos q2, q3, b1_s (fact_at hV hp h5), gd_t (ix_nI hk (by omega)), tn_nI (by omega), nI_1, nI_1, hf]
  · obtain ⟨z, hz1, hz2⟩ := hz _ (by omega) hlt
    have nle : ¬ nI z ≤ -11 := fun q => by
      have h1 := Int32.le_iff_toInt_le.mp q
      rw [nI_toInt (by omega)] at h1
      have : (-11 : Int32).toInt = -11 := rfl
      omega
    rw [if_neg h5, if_neg h5, hz2, if_neg nle, if_neg (nI_pos (by omega)), gd_t (ix_nI hk (by omega)), tn_nI (by omega), nI_1, nI_1]
/-- a sign that takes two -/
theorem mjoin {T : mM} {p to k j fuel : Nat} (sg r : Int32) (hto : to ≤ 200) (hj : j < to) (hk : k + 1 < 200) (ht : T 1 (95 + j) = sg) (hs : sg ≤ -11) (hs' : ¬ sg = -14) (hr : fX12_isSo sg (T 3 k) (T 3 (k + 1)) = r) (hr' : r = 0 ∨ r = 1) :
    fX12_holds_L6 (fuel + 1) T (nI to) (nI p) (nI (k + 2)) (nI j) = fX12_holds_L6 fuel (wr T 3 k r) (nI to) (nI p) (nI (k + 1)) (nI (j + 1)) := by
  show fX12_holds_L6_b (fX12_holds_L6 fuel) T (nI to) (nI p) (nI (k + 2)) (nI j) = _
  unfold fX12_holds_L6_b
  rw [if_neg (nI_ge hj (by omega)), signix, gx (by omega), tn_nI (by omega), ht, if_pos hs, if_neg hs', show nI (k + 2) + (-1) = nI (k + 1) from pk_m1 (k + 1), nI_pred, gd_t (ix_nI (by omega) (by omega)), gd_t (ix_nI hk (by omega)), tn_nI (by omega), tn_nI (by omega), hr, gd_t (ix_nI (by omega) (by omega)), gd_t (ix_nI (by omega) (by omega)), nI_1]
  rcases hr' with rfl | rfl
  · rw [if_pos rfl]
  · rw [if_neg (by decide)]
theorem mnot {T : mM} {p to k j fuel : Nat} (hto : to ≤ 200) (hj : j < to) (hk : k < 200) (ht : T 1 (95 + j) = -14) :
    fX12_holds_L6 (fuel + 1) T (nI to) (nI p) (nI (k + 1)) (nI j) = fX12_holds_L6 fuel (wr T 3 k (1 - T 3 k)) (nI to) (nI p) (nI (k + 1)) (nI (j + 1)) := by
  show fX12_holds_L6_b (fX12_holds_L6 fuel) T (nI to) (nI p) (nI (k + 1)) (nI j) = _
  unfold fX12_holds_L6_b
  rw [if_neg (nI_ge hj (by omega)), signix, gx (by omega), tn_nI (by omega), ht, if_pos (by decide), if_pos rfl, nI_pred, gd_t (ix_nI hk (by omega)), gd_t (ix_nI hk (by omega)), tn_nI (by omega), nI_1]
theorem encS_len {X : mM} {a : Nat} (h : X 12 a = 31 ∨ X 12 a = 32 ∨ X 12 a = 33) : ∃ sg : Int32, encS X a = [encV X (X 13 a).toNatClampNeg, encV X (X 14 a).toNatClampNeg, sg] ∧ sg ≤ -11 ∧ ¬ sg = -14 ∧ ∀ x y : Int32, ∀ f s, stS X f a s = (decide (fX12_isSo sg (valS X f (X 13 a)) (valS X f (X 14 a)) = 1)) :: s := by
  rcases h with h | h | h
  · refine ⟨-11, by unfold encS; rw [if_pos h], by decide, by decide, fun x y f s => ?_⟩
    unfold stS
    rw [if_pos h]
    congr 1
    show decide (valS X f (X 13 a) < valS X f (X 14 a)) = decide ((if valS X f (X 14 a) ≤ valS X f (X 13 a) then (0 : Int32) else 1) = 1)
    by_cases g : valS X f (X 14 a) ≤ valS X f (X 13 a)
    · rw [if_pos g, decide_eq_false (Int32.not_lt.mpr g)]; rfl
    · rw [if_neg g, decide_eq_true (Int32.not_le.mp g)]; rfl
  · refine ⟨-12, by unfold encS; rw [if_neg (by rw [h]; decide), if_pos h], by decide, by decide, fun x y f s => ?_⟩
    unfold stS
    rw [if_neg (by rw [h]; decide), if_pos h]
    congr 1
    show decide (valS X f (X 13 a) = valS X f (X 14 a)) = decide ((if valS X f (X 13 a) = valS X f (X 14 a) then (1 : Int32) else 0) = 1)
    by_cases g : valS X f (X 13 a) = valS X f (X 14 a)
    · rw [if_pos g, decide_eq_true g]; rfl
    · rw [if_neg g, decide_eq_false g]; rfl
  · refine ⟨-13, by unfold encS; rw [if_neg (by rw [h]; decide), if_neg (by rw [h]; decide), if_pos h], by decide, by decide, fun x y f s => ?_⟩
    unfold stS
    rw [if_neg (by rw [h]; decide), if_neg (by rw [h]; decide), if_pos h]
    congr 1
    show decide (valS X f (X 14 a) < valS X f (X 13 a)) = decide ((if valS X f (X 13 a) ≤ valS X f (X 14 a) then (0 : Int32) else 1) = 1)
    by_cases g : valS X f (X 13 a) ≤ valS X f (X 14 a)
    · rw [if_pos g, decide_eq_false (Int32.not_lt.mpr g)]; rfl
    · rw [if_neg g, decide_eq_true (Int32.not_le.mp g)]; rfl
theorem isSo01 (sg x y : Int32) : fX12_isSo sg x y = 0 ∨ fX12_isSo sg x y = 1 := by
  unfold fX12_isSo
  repeat' split
  all_goals first | exact Or.inl rfl | exact Or.inr rfl
theorem isSo_dec (sg x y : Int32) : bI (decide (fX12_isSo sg x y = 1)) = fX12_isSo sg x y := by
  rcases isSo01 sg x y with h | h
  · rw [h]; rfl
  · rw [h]; rfl
theorem mholds {X : mM} {f : Nat → Int32} {n aw h li p vc to m : Nat} (hp : p < n) (hf : f = factS X (nI h) (nI (cntS 7 aw)) p) (hz : ∀ v, 5 ≤ v → v < vc → ∃ z, z ≤ 9999 ∧ X 15 v = nI z) (hto : to ≤ 200) (hm : m ≤ 1) :
    ∀ (d a : Nat) (s : List Bool) (j fuel : Nat) (T : mM), Vx X (T 1) n aw h li → okL X vc a d s.length = some m → s.length ≤ 20 → Seg (T 1) j (encL X a d) → j + (encL X a d).length = to → Stk T s → 3 * d < fuel →
    ∃ T', fX12_holds_L6 fuel T (nI to) (nI p) (nI s.length) (nI j) = some (if (runS X f a d s).headD true then 1 else 0, T') ∧ ∀ q, q ≠ 3 → T' q = T q := by
  intro d
  induction d with
  | zero =>
    intro a s j fuel T hV ho hs hg hj hk hfu
    obtain ⟨k, rfl⟩ : ∃ k, fuel = k + 1 := ⟨fuel - 1, by omega⟩
    have hj' : j = to := hj
    have hl : s.length = m := Option.some.inj ho
    refine ⟨T, ?_, fun _ _ => rfl⟩
    show fX12_holds_L6_b (fX12_holds_L6 k) T (nI to) (nI p) (nI s.length) (nI j) = some (if s.headD true then 1 else 0, T)
    unfold fX12_holds_L6_b
    rw [if_pos (nI_le (by omega) (by omega))]
    cases s with
    | nil => rfl
    | cons b u =>
      have hu : u = [] := by
        cases u with
        | nil => rfl
        | cons c w => exact absurd hl (by show ¬ w.length + 1 + 1 = m; omega)
      subst hu
      have h0 : T 3 0 = bI b := hk.1
      rw [if_neg (show ¬ nI [b].length = 0 from nI_ne0 (n := 1) (by omega) (by omega)), gd_t (show ix 0 200 = true from rfl), c0N, h0]
      cases b <;> rfl
  | succ d ih =>
    intro a s j fuel T hV ho hs hg hj hk hfu
    obtain ⟨i1, i2, ho⟩ := okL_step ho
    have hg' := Seg_app (T 1) (encS X a) (encL X (a + 1) d) j hg
    have hlen : (encL X a (d + 1)).length = (encS X a).length + (encL X (a + 1) d).length := by show (encS X a ++ encL X (a + 1) d).length = _; rw [List.length_append]
    rw [hlen] at hj
    show ∃ T', fX12_holds_L6 fuel T (nI to) (nI p) (nI s.length) (nI j) = some (if (runS X f (a + 1) d (stS X f a s)).headD true then 1 else 0, T') ∧ _
    rcases ho with ⟨c, k20, ho⟩ | ⟨c, k1, ho⟩ | ⟨c, k2, ho⟩
    · obtain ⟨sg, e1, e2, e3, e4⟩ := encS_len c
      rw [e1] at hg' hj
      have hj3 : j + 3 + (encL X (a + 1) d).length = to := by
        have : ([encV X (X 13 a).toNatClampNeg, encV X (X 14 a).toNatClampNeg, sg] : List Int32).length = 3 := rfl
        omega
      obtain ⟨⟨g1, g2, g3, -⟩, g4⟩ := hg'
      obtain ⟨k, rfl⟩ : ∃ k, fuel = k + 1 + 1 + 1 := ⟨fuel - 3, by omega⟩
      rw [mpush (k := s.length) hV hp hf hz hto (by omega) (by omega) (X 13 a) i1 g1]
      have hV1 : Vx X ((wr T 3 s.length (valS X f (X 13 a))) 1) n aw h li := by rw [wr_q _ _ (by omega)]; exact hV
      rw [mpush (k := s.length + 1) hV1 hp hf hz hto (by omega) (by omega) (X 14 a) i2 (by rw [wr_q _ _ (by omega)]; exact g2)]
      have r1 : wr (wr T 3 s.length (valS X f (X 13 a))) 3 (s.length + 1) (valS X f (X 14 a)) 3 s.length = valS X f (X 13 a) := by rw [wr_k _ (by omega), wr_s]
      have r2 : wr (wr T 3 s.length (valS X f (X 13 a))) 3 (s.length + 1) (valS X f (X 14 a)) 3 (s.length + 1) = valS X f (X 14 a) := wr_s _ _ _ _
      rw [show nI (s.length + 1 + 1) = nI (s.length + 2) from rfl, mjoin (k := s.length) sg (fX12_isSo sg (valS X f (X 13 a)) (valS X f (X 14 a))) hto (by omega) (by omega) (by rw [wr_q _ _ (by omega), wr_q _ _ (by omega)]; exact g3) e2 e3 (by rw [r1, r2]) (isSo01 _ _ _)]
      rw [e4 0 0 f s]
      have e1' : ∀ v1 v2 v3 : Int32, wr (wr (wr T 3 s.length v1) 3 (s.length + 1) v2) 3 s.length v3 1 = T 1 := fun v1 v2 v3 => by rw [wr_q _ _ (by omega), wr_q _ _ (by omega), wr_q _ _ (by omega)]
      obtain ⟨T', t1, t2⟩ := ih (a + 1) (decide (fX12_isSo sg (valS X f (X 13 a)) (valS X f (X 14 a)) = 1) :: s) (j + 1 + 1 + 1) k (wr (wr (wr T 3 s.length (valS X f (X 13 a))) 3 (s.length + 1) (valS X f (X 14 a))) 3 s.length (fX12_isSo sg (valS X f (X 13 a)) (valS X f (X 14 a)))) (by rw [e1']; exact hV) ho (by show s.length + 1 ≤ 20; omega) (by rw [e1']; exact g4) (by omega) ⟨by rw [wr_s, isSo_dec], Stk_keep s (fun i hi => by rw [wr_k _ (by omega), wr_k _ (by omega), wr_k _ (by omega)]) hk⟩ (by omega)
      refine ⟨T', t1, fun q hq => ?_⟩
      rw [t2 q hq, wr_q _ _ hq, wr_q _ _ hq, wr_q _ _ hq]
    · obtain ⟨b, u, rfl⟩ : ∃ b u, s = b :: u := by
        cases s with
        | nil => exact absurd k1 (by decide)
        | cons b u => exact ⟨b, u, rfl⟩
      have e1 : encS X a = [-14] := by
        unfold encS
        rw [if_neg (by rw [c]; decide), if_neg (by rw [c]; decide), if_neg (by rw [c]; decide), if_pos c]
      rw [e1] at hg' hj
      have hj1 : j + 1 + (encL X (a + 1) d).length = to := by
        have : ([-14] : List Int32).length = 1 := rfl
        omega
      obtain ⟨⟨g1, -⟩, g4⟩ := hg'
      obtain ⟨k, rfl⟩ : ∃ k, fuel = k + 1 := ⟨fuel - 1, by omega⟩
      have hs' : u.length + 1 ≤ 20 := hs
      rw [show nI (b :: u).length = nI (u.length + 1) from rfl, mnot hto (by omega) (by omega) g1]
      have st : stS X f a (b :: u) = (!b) :: u := by
        unfold stS
        rw [if_neg (by rw [c]; decide), if_neg (by rw [c]; decide), if_neg (by rw [c]; decide), if_pos c]
      rw [st]
      obtain ⟨T', t1, t2⟩ := ih (a + 1) ((!b) :: u) (j + 1) k (wr T 3 u.length (1 - T 3 u.length)) (by rw [wr_q _ _ (by omega)]; exact hV) ho hs (by rw [wr_q _ _ (by omega)]; exact g4) (by omega) ⟨by rw [wr_s, hk.1]; cases b <;> rfl, Stk_keep u (fun i hi => by rw [wr_k _ (by omega)]) hk.2⟩ (by omega)
      exact ⟨T', t1, fun q hq => by rw [t2 q hq, wr_q _ _ hq]⟩
    · obtain ⟨b, c2, u, rfl⟩ : ∃ b c2 u, s = b :: c2 :: u := by
        cases s with
        | nil => exact absurd k2 (by decide)
        | cons b u =>
          cases u with
          | nil => exact absurd k2 (show ¬ 2 ≤ 1 by decide)
          | cons c2 u => exact ⟨b, c2, u, rfl⟩
      have hs' : u.length + 1 + 1 ≤ 20 := hs
      have key : ∀ (sg : Int32) (b' : Bool), encS X a = [sg] → sg ≤ -11 → ¬ sg = -14 → stS X f a (b :: c2 :: u) = b' :: u → fX12_isSo sg (bI c2) (bI b) = bI b' → ∃ T', fX12_holds_L6 fuel T (nI to) (nI p) (nI (b :: c2 :: u).length) (nI j) = some (if (runS X f (a + 1) d (stS X f a (b :: c2 :: u))).headD true then 1 else 0, T') ∧ ∀ q, q ≠ 3 → T' q = T q := by
        intro sg b' e1 e2 e3 st hr
        rw [e1] at hg' hj
        have hj1 : j + 1 + (encL X (a + 1) d).length = to := by
          have : ([sg] : List Int32).length = 1 := rfl
          omega
        obtain ⟨⟨g1, -⟩, g4⟩ := hg'
        obtain ⟨k, rfl⟩ : ∃ k, fuel = k + 1 := ⟨fuel - 1, by omega⟩
        have k1 : T 3 (u.length + 1) = bI b := hk.1
        have k2 : T 3 u.length = bI c2 := hk.2.1
        rw [show nI (b :: c2 :: u).length = nI (u.length + 2) from rfl, mjoin sg (bI b') hto (by omega) (by omega) g1 e2 e3 (by rw [k1, k2]; exact hr) (bI01 b'), st]
        obtain ⟨T', t1, t2⟩ := ih (a + 1) (b' :: u) (j + 1) k (wr T 3 u.length (bI b')) (by rw [wr_q _ _ (by omega)]; exact hV) ho (by show u.length + 1 ≤ 20; omega) (by rw [wr_q _ _ (by omega)]; exact g4) (by omega) ⟨wr_s _ _ _ _, Stk_keep u (fun i hi => by rw [wr_k _ (by omega)]) hk.2.2⟩ (by omega)
        exact ⟨T', t1, fun q hq => by rw [t2 q hq, wr_q _ _ hq]⟩
      rcases c with c | c
      · refine key (-15) (c2 && b) ?_ (by decide) (by decide) ?_ (by cases b <;> cases c2 <;> decide)
        · unfold encS
          rw [if_neg (by rw [c]; decide), if_neg (by rw [c]; decide), if_neg (by rw [c]; decide), if_neg (by rw [c]; decide), if_pos c]
        · unfold stS
          rw [if_neg (by rw [c]; decide), if_neg (by rw [c]; decide), if_neg (by rw [c]; decide), if_neg (by rw [c]; decide), if_pos c]
      · refine key (-16) (c2 || b) ?_ (by decide) (by decide) ?_ (by cases b <;> cases c2 <;> decide)
        · unfold encS
          rw [if_neg (by rw [c]; decide), if_neg (by rw [c]; decide), if_neg (by rw [c]; decide), if_neg (by rw [c]; decide), if_neg (by rw [c]; decide)]
        · unfold stS
          rw [if_neg (by rw [c]; decide), if_neg (by rw [c]; decide), if_neg (by rw [c]; decide), if_neg (by rw [c]; decide), if_neg (by rw [c]; decide)]
theorem holdsM_at {X T : mM} {n aw h li p r rc : Nat} (hV : Vx X (T 1) n aw h li) (hp : p < n) (hrc : X 7 0 = nI rc) (hr : r < rc) (h8 : rc ≤ 8) :
    ∃ T', fX12_holds T (T 1 (58 + 5 * r)) (T 1 (59 + 5 * r)) (nI p) = some (if condS X (factS X (nI h) (nI (cntS 7 aw)) p) r then 1 else 0, T') ∧ ∀ q, q ≠ 3 → T' q = T q := by
  obtain ⟨a, b, c, hv, hl⟩ := id hV
  obtain ⟨rc', st, vc, se, fr, to, e1, e2, e3, e4, e5, e6, e7, e8, e9, e10, e11⟩ := hl
  have er : rc' = rc := (nI_eq (by omega) (by omega)).mp (e5.symm.trans hrc)
  subst er
  obtain ⟨k, d, b', y1, y2, y3, y4, y5, y6, y7, y8, y9, y10, y11, y12, y13, y14, y15, y16, y17, y18⟩ := e11 r hr
  have hfrom : fromS X r = se r := by
    unfold fromS
    by_cases h0 : r = 0
    · rw [if_pos h0, h0]; exact e9.symm
    · rw [if_neg h0]
      obtain ⟨k', d', b', z1, z2, z3, z4, z5, z6, z7, z8, z9, z10, z11, z12, z13, -⟩ := e11 (r - 1) (by omega)
      rw [z10, show r - 1 + 1 = r by omega]
      exact nI_clamp (by omega)
  have hend : (X 11 r).toNatClampNeg = se (r + 1) := by rw [y10]; exact nI_clamp (by omega)
  obtain ⟨s1, s2⟩ := Seg_of (T 1) _ (to r - fr r) (fr r) y18
  have hm : ∃ m, m ≤ 1 ∧ okL X vc (se r) (se (r + 1) - se r) ([] : List Bool).length = some m := by
    rcases y17 with z | z
    · exact ⟨1, by omega, z⟩
    · refine ⟨0, by omega, ?_⟩
      rw [z, Nat.sub_self]; rfl
  obtain ⟨m, m1, m2⟩ := hm
  obtain ⟨T', t1, t2⟩ := mholds hp rfl e10 y16 m1 (se (r + 1) - se r) (se r) [] (fr r) 5000 T hV m2 (by decide) s1 (by omega) trivial (by omega)
  refine ⟨T', ?_, t2⟩
  unfold fX12_holds condS
  rw [y13, y14, hfrom, hend]
  exact t1
theorem under_m : ∀ k, k < 6 → ∀ o, o < 6 → fX12_isUnder (fun _ _ => 0) (nI k) (nI o) = if underS k o then 1 else 0 := by decide +kernel
theorem ruleix (r : Nat) : (55 : Int32) + 5 * nI r = nI (55 + 5 * r) := by
  rw [show (5 : Int32) * nI r = nI (5 * r) from pk_mul 5 r, show (55 : Int32) + nI (5 * r) = nI (55 + 5 * r) from nI_add 55 _]
theorem weighM {X : mM} {n aw h li p rc k : Nat} (hp : p < n) (hrc : X 7 0 = nI rc) (h8 : rc ≤ 8) (hk : X 1 p = nI k) (hk6 : k < 6) (w : Int32) :
    ∀ (m r fuel : Nat) (T : mM), Vx X (T 1) n aw h li → r + m = rc → m < fuel → ∃ T', fX12_weighs_L9 fuel T (nI p) w (nI r) = some (weighS X (factS X (nI h) (nI (cntS 7 aw)) p) k w m r, T') ∧ ∀ q, q ≠ 3 → T' q = T q := by
  intro m
  induction m with
  | zero =>
    intro r fuel T hV hr hfu
    obtain ⟨j, rfl⟩ : ∃ j, fuel = j + 1 := ⟨fuel - 1, by omega⟩
    obtain ⟨a, b, c, hv, rc', st, vc, se, fr, to, e1, e2, e3, e4, e5, e6, e7, e8, -⟩ := id hV
    refine ⟨T, ?_, fun _ _ => rfl⟩
    show fX12_weighs_L9_b (fX12_weighs_L9 j) T (nI p) w (nI r) = _
    unfold fX12_weighs_L9_b
    rw [g7N, c7N, e8, ← e5, hrc, if_pos (nI_le (by omega) (by omega))]
    rfl
  | succ m ih =>
    intro r fuel T hV hr hfu
    obtain ⟨j, rfl⟩ : ∃ j, fuel = j + 1 := ⟨fuel - 1, by omega⟩
    obtain ⟨a, b, c, hv, rc', st, vc, se, fr, to, e1, e2, e3, e4, e5, e6, e7, e8, e9, e10, e11⟩ := id hV
    have er : rc' = rc := (nI_eq (by omega) (by omega)).mp (e5.symm.trans hrc)
    subst er
    obtain ⟨k', w', g', c', x1, x2, z1, z2, z3, z4, z5⟩ := hv p hp
    have ek : k' = k := (nI_eq (by omega) (by omega)).mp (x2.1.symm.trans hk)
    subst ek
    obtain ⟨o, d, b', y1, y2, y3, y4, y5, y6, y7, y8, y9, -⟩ := e11 r (by omega)
    show ∃ T', fX12_weighs_L9_b (fX12_weighs_L9 j) T (nI p) w (nI r) = some (if underS k' (X 8 r).toNatClampNeg && condS X (factS X (nI h) (nI (cntS 7 aw)) p) r then (if X 9 r = 24 then w + X 10 r else if X 9 r = 25 then jmax 0 (w - X 10 r) else 0) else weighS X (factS X (nI h) (nI (cntS 7 aw)) p) k' w m (r + 1), T') ∧ _
    unfold fX12_weighs_L9_b
    have i1 : nI (55 + 5 * r) + 1 = nI (56 + 5 * r) := by rw [nI_1]; congr 1; omega
    have i2 : nI (55 + 5 * r) + 2 = nI (57 + 5 * r) := by rw [show nI (55 + 5 * r) + 2 = nI (55 + 5 * r + 2) from nI_add _ 2]; congr 1; omega
    have i3 : nI (55 + 5 * r) + 3 = nI (58 + 5 * r) := by rw [show nI (55 + 5 * r) + 3 = nI (55 + 5 * r + 3) from nI_add _ 3]; congr 1; omega
    have i4 : nI (55 + 5 * r) + 4 = nI (59 + 5 * r) := by rw [show nI (55 + 5 * r) + 4 = nI (55 + 5 * r + 4) from nI_add _ 4]; congr 1; omega
    rw [g7N, c7N, e8, if_neg (nI_ge (by omega) (by omega)), b1_s (its0 T (by omega)), z1, ruleix, gx (by omega), tn_nI (by omega), y7, show fX12_isUnder T (nI k') (nI o) = if underS k' o then 1 else 0 from under_m k' hk6 o (by omega), i3, i4, gx (by omega), gx (by omega), tn_nI (by omega), tn_nI (by omega), nI_1, y4, nI_clamp (by omega)]
    obtain ⟨T', t1, t2⟩ := holdsM_at hV hp e5 (show r < rc' by omega) e1
    cases hu : underS k' o
    · simp only [Bool.false_eq_true, if_false, if_true, Bool.false_and]
      exact ih (r + 1) j T hV (by omega) (by omega)
    · simp only [if_true, Bool.true_and]
      rw [if_neg (show ¬ (1 : Int32) = 0 by decide), b2_s t1]
      have hV' : Vx X (T' 1) n aw h li := by rw [t2 1 (by omega)]; exact hV
      cases hc : condS X (factS X (nI h) (nI (cntS 7 aw)) p) r
      · simp only [Bool.false_eq_true, if_false, if_true]
        obtain ⟨T2, u1, u2⟩ := ih (r + 1) j T' hV' (by omega) (by omega)
        exact ⟨T2, u1, fun q hq => (u2 q hq).trans (t2 q hq)⟩
      · simp only [if_true]
        refine ⟨T', ?_, t2⟩
        rw [if_neg (show ¬ (1 : Int32) = 0 by decide), i1, gx (by omega), tn_nI (by omega), t2 1 (by omega), y8, i2, gx (by omega), tn_nI (by omega), y9, gx (by omega), gx (by omega), y5, y6]
        rcases (by omega : d = 0 ∨ d = 1 ∨ d = 2) with rfl | rfl | rfl
        · rw [if_pos (show nI 0 = 0 from rfl), if_pos (show nI (24 + 0) = 24 from rfl)]
        · rw [if_neg (show ¬ nI 1 = 0 by decide), if_pos (show nI 1 = 1 from rfl), if_neg (show ¬ nI (24 + 1) = 24 by decide), if_pos (show nI (24 + 1) = 25 from rfl)]
        · rw [if_neg (show ¬ nI 2 = 0 by decide), if_neg (show ¬ nI 2 = 1 by decide), if_neg (show ¬ nI (24 + 2) = 24 by decide), if_neg (show ¬ nI (24 + 2) = 25 by decide)]
/-- POWER by the model -/
theorem powerOf_at {X T : mM} {n aw h li p : Nat} (hV : Vx X (T 1) n aw h li) (hp : p < n) : ∃ T', fX12_powerOf T (nI p) = some (powS X (nI h) (nI (cntS 7 aw)) p, T') ∧ ∀ q, q ≠ 3 → T' q = T q := by
  obtain ⟨a, b, c, hv, rc, st, vc, se, fr, to, e1, e2, e3, e4, e5, -⟩ := id hV
  obtain ⟨k, w, g, c', x1, x2, z1, z2, z3, z4, z5⟩ := hv p hp
  obtain ⟨T', t1, t2⟩ := weighM hp e5 e1 x2.1 (by omega) (X 3 p) rc 0 5000 T hV (by omega) (by omega)
  refine ⟨T', ?_, t2⟩
  have hP : powS X (nI h) (nI (cntS 7 aw)) p = (let w := weighS X (factS X (nI h) (nI (cntS 7 aw)) p) k (X 3 p) rc 0; if nI k = 2 then (if 12 ≤ nI h then w + 2 else w) else if nI k = 3 then 3 * (if 12 ≤ nI h then w + 2 else w) else if nI k = 4 then w / 2 else if nI k = 5 then (if nI h < 6 then 0 else w / 2) else w) := by
    unfold powS
    rw [x2.1, nI_clamp (by omega), e5, nI_clamp (by omega)]
  rw [hP]
  have hW : fX12_weighs T (nI p) = some (weighS X (factS X (nI h) (nI (cntS 7 aw)) p) k (X 3 p) rc 0, T') := by
    unfold fX12_weighs
    rw [b1_s (its2 T (by omega)), show 8 + 5 * p + 2 = 10 + 5 * p by omega, z3, ← x2.2.2.1]
    exact t1
  unfold fX12_powerOf
  rw [b2_s hW, g1N, c1N, t2 1 (by omega), c.2.1]
  have L : ∀ v w : Int32, fX12_powerOf_L24 T' (nI p) w v = some (if nI k = 2 then v else if nI k = 3 then 3 * v else if nI k = 4 then w / 2 else if nI k = 5 then (if nI h < 6 then 0 else w / 2) else w, T') := fun v w => by
    unfold fX12_powerOf_L24
    rw [b1_s (its0 T' (by omega)), g1N, c1N, t2 1 (by omega), c.2.1, z1]
    by_cases k2 : nI k = 2
    · rw [if_pos k2, if_pos k2]
    rw [if_neg k2, if_neg k2]
    by_cases k3 : nI k = 3
    · rw [if_pos k3, if_pos k3]
    rw [if_neg k3, if_neg k3]
    by_cases k4 : nI k = 4
    · rw [if_pos k4, if_pos k4]
    rw [if_neg k4, if_neg k4]
    by_cases k5 : nI k = 5
    · rw [if_pos k5, if_pos k5]
      by_cases g : 6 ≤ nI h
      · rw [if_pos g, if_neg (Int32.not_lt.mpr g)]
      · rw [if_neg g, if_pos (Int32.not_le.mp g)]
    rw [if_neg k5, if_neg k5]
  rw [L, L]
  by_cases g : 12 ≤ nI h
  · rw [if_pos g]
    show _ = some (if nI k = 2 then (if 12 ≤ nI h then _ else _) else if nI k = 3 then 3 * (if 12 ≤ nI h then _ else _) else _, T')
    rw [if_pos g]
  · rw [if_neg g]
    show _ = some (if nI k = 2 then (if 12 ≤ nI h then _ else _) else if nI k = 3 then 3 * (if 12 ≤ nI h then _ else _) else _, T')
    rw [if_neg g]
set_option maxRecDepth 100000 in
theorem ar_eq : ∀ w, w < 24 → ∀ h, h < 24 → fX12_around (nI w - nI h) = nI ((w + 24 - h) % 24) := by decide +kernel
theorem voteOf_at {X T : mM} {n aw h li p : Nat} (hV : Vx X (T 1) n aw h li) (hp : p < n) : fX12_voteOf T (nI p) = some (voteS (X 2 p).toNatClampNeg h) := by
  obtain ⟨a, b, c, hv, hl⟩ := hV
  obtain ⟨k, w, g, c', x1, x2, z1, z2, z3, z4, z5⟩ := hv p hp
  unfold fX12_voteOf
  rw [b1_s (its1 T (by omega)), show 8 + 5 * p + 1 = 9 + 5 * p by omega, z2, g1N, c1N, c.2.1, ar_eq w x1.2.2.1 h a.2.2.1, vote_cases _ (Nat.mod_lt _ (by omega)), x2.2.1, nI_clamp (by omega)]
  rfl
theorem sumM {X : mM} {n aw h li : Nat} : ∀ (d p fuel : Nat) (T : mM), Vx X (T 1) n aw h li → p + d = n → d < fuel → ∃ T', fX12_sumNow_L4 fuel T (sumS X h aw p) (nI p) = some (SUM X h aw, T') ∧ ∀ q, q ≠ 3 → T' q = T q := by
  intro d
  induction d with
  | zero =>
    intro p fuel T hV hp hfu
    obtain ⟨k, rfl⟩ : ∃ k, fuel = k + 1 := ⟨fuel - 1, by omega⟩
    obtain ⟨a, b, c, hv, hl⟩ := id hV
    have hpn : p = n := by omega
    have hS : SUM X h aw = sumS X h aw p := by unfold SUM; rw [b, nI_clamp (by omega), hpn]
    refine ⟨T, ?_, fun _ _ => rfl⟩
    show fX12_sumNow_L4_b (fX12_sumNow_L4 k) T (sumS X h aw p) (nI p) = _
    unfold fX12_sumNow_L4_b
    rw [g0N, c0N, c.1, if_pos (nI_le (by omega) (by omega)), hS]
  | succ d ih =>
    intro p fuel T hV hp hfu
    obtain ⟨k, rfl⟩ : ∃ k, fuel = k + 1 := ⟨fuel - 1, by omega⟩
    obtain ⟨a, b, c, hv, hl⟩ := id hV
    have eS : sumS X h aw (p + 1) = if aw / 2 ^ p % 2 = 1 then sumS X h aw p + voteS (X 2 p).toNatClampNeg h * powS X (nI h) (nI (cntS 7 aw)) p else sumS X h aw p := rfl
    show ∃ T', fX12_sumNow_L4_b (fX12_sumNow_L4 k) T (sumS X h aw p) (nI p) = some (SUM X h aw, T') ∧ _
    unfold fX12_sumNow_L4_b
    obtain ⟨T1, t1, t2⟩ := powerOf_at hV (show p < n by omega)
    rw [g0N, c0N, c.1, if_neg (nI_ge (by omega) (by omega)), b1_s (its4 T (by omega)), show 8 + 5 * p + 4 = 12 + 5 * p by omega, bit_of (hv p (by omega)), b1_s (voteOf_at hV (by omega)), b2_s t1, nI_1, Int32.add_zero]
    by_cases hb : aw / 2 ^ p % 2 = 1
    · rw [if_pos (by rw [hb]; rfl)]
      rw [if_pos hb] at eS
      rw [← eS]
      obtain ⟨T2, u1, u2⟩ := ih (p + 1) k T1 (by rw [t2 1 (by omega)]; exact hV) (by omega) (by omega)
      exact ⟨T2, u1, fun q hq => (u2 q hq).trans (t2 q hq)⟩
    · have hb0 : aw / 2 ^ p % 2 = 0 := by omega
      rw [if_neg (by rw [hb0]; decide)]
      rw [if_neg hb] at eS
      rw [← eS]
      exact ih (p + 1) k T hV (by omega) (by omega)
/-- SUM by the model -/
theorem sumNow_at {X T : mM} {n aw h li : Nat} (hV : Vx X (T 1) n aw h li) : ∃ T', fX12_sumNow T = some (SUM X h aw, T') ∧ ∀ q, q ≠ 3 → T' q = T q :=
  sumM n 0 5000 T hV (by omega) (by have := hV.1.1; omega)
/-- what a call leaves alone in both memories -/
theorem Rel.eqK {M T M' T' : mM} (hR : Rel M T) (h : eqK M M') (hs : Rs M') (ht : ∀ q, q ≠ 3 → T' q = T q) : Rel M' T' := by
  refine hR.now ?_ hs ⟨h.1 0 (by omega) (by omega), fun q h1 h2 => h.1 q (by omega) (by omega), h.1 67 (by omega) (by omega)⟩ ⟨by rw [ht 0 (by omega)]; exact ⟨rfl, rfl, rfl, rfl⟩, ht 2 (by omega), ht 4 (by omega), fun q hq => ht q (by omega)⟩
  rw [ht 1 (by omega)]
  obtain ⟨⟨n, aw, hh, no, li, la, h1⟩, ⟨rp, h2⟩, h3⟩ := hR.1
  have e : ∀ q, q ≤ 14 → nowC M' q = nowC M q := fun q hq => h.1 (1 + q) (by omega) (by omega)
  refine ⟨⟨n, aw, hh, no, li, la, ?_⟩, ⟨rp, ?_⟩, h.L h3⟩
  · unfold Rv Rvo at h1 ⊢
    rw [e 0 (by omega), e 1 (by omega), e 2 (by omega), e 3 (by omega), e 4 (by omega)]
    exact h1
  · unfold Rr at h2 ⊢
    rw [e 0 (by omega), e 5 (by omega), e 6 (by omega)]
    exact h2
theorem pm_sum {M T : mM} (hR : Rel M T) : ∃ (r : Int32) (M' : mM) (T' : mM), fX11_sum M = some (r, M') ∧ fX12_sum T = some (r, T') ∧ Rel M' T' := by
  obtain ⟨n, aw, h, no, li, la, hV, hX⟩ := Rp_Vx hR.1
  obtain ⟨M', m1, m2, m3⟩ := sumAt_at hR.2.1 hX.2.2.2.2 hX.vs hX.1.2.2.1 (pow_le7 hX.1.1 hX.1.2.1)
  obtain ⟨T', t1, t2⟩ := sumNow_at hX
  refine ⟨SUM (nowC M) h aw, M', T', ?_, ?_, hR.eqK m2 m3 t2⟩
  · unfold fX11_sum
    rw [show M 1 6 = nI h from hV.2.1.2.2.1, show M 1 5 = nI aw from hV.2.1.2.1, b2_s m1]
  · unfold fX12_sum
    rw [b2_s t1]
theorem pm_voterOf {M T : mM} (hR : Rel M T) (a0 : Int32) (a1 : Int32) : ∃ (r : Int32) (M' : mM) (T' : mM), fX11_voterOf M a0 a1 = some (r, M') ∧ fX12_voterOf T a0 a1 = some (r, T') ∧ Rel M' T' := by
  obtain ⟨n, aw, h, no, li, la, hV, hX⟩ := Rp_Vx hR.1
  obtain ⟨a, b, c, hv⟩ := id hV
  have n2 : M 1 0 = nI n := b.1
  have a128 := pow_le7 a.1 a.2.1
  unfold fX11_voterOf fX12_voterOf
  rw [b1_s (voter_eq (M := M) n2 c.1 a.1 a0)]
  by_cases h1 : fX11_isVoter M a0 = 0
  · exact ⟨-1, M, T, by rw [if_pos h1], by rw [if_pos h1], hR⟩
  rw [if_neg h1, if_neg h1, show fX12_in (Int32.toInt64 a1) 0 6 = fX11_isIn a1 0 6 from in_eq a1 0 6]
  obtain ⟨p, hp, rfl⟩ := voter_yes n2 h1
  obtain ⟨k, w, g, c', x1, x2, z1, z2, z3, z4, z5⟩ := hv p hp
  have g7 : ∀ {x : Option (Int32 × mM)}, gd (ix (nI p) 7) x = x := gd_t (ix_nI (by omega) (by omega))
  simp only [g7, tn_nI (show p < 2 ^ 31 by omega)]
  by_cases h2 : fX11_isIn a1 0 6 = 0
  · have : ∀ j : Nat, j ≤ 6 → ¬ a1 = nI j := fun j hj e => by
      rw [e, show fX11_isIn (nI j) 0 6 = 1 from isIn_t (a := 0) (b := 6) (by omega) hj (by omega)] at h2
      exact absurd h2 (by decide)
    refine ⟨-1, M, T, ?_, by rw [if_pos h2], hR⟩
    rw [if_neg (show ¬ a1 = 0 from this 0 (by omega)), if_neg (show ¬ a1 = 1 from this 1 (by omega)), if_neg (show ¬ a1 = 2 from this 2 (by omega)), if_neg (show ¬ a1 = 3 from this 3 (by omega)), if_neg (show ¬ a1 = 4 from this 4 (by omega)), if_neg (show ¬ a1 = 5 from this 5 (by omega)), if_neg (show ¬ a1 = 6 from this 6 (by omega))]
  · rw [if_neg h2]
    obtain ⟨j, -, hj, rfl⟩ := isIn_yes (a := 0) (b := 6) (by omega) (by omega) h2
    rcases (by omega : j = 0 ∨ j = 1 ∨ j = 2 ∨ j = 3 ∨ j = 4 ∨ j = 5 ∨ j = 6) with rfl | rfl | rfl | rfl | rfl | rfl | rfl
    · refine ⟨nI k, M, T, ?_, ?_, hR⟩
      · rw [if_pos (show nI 0 = 0 from rfl), show M 2 p = nI k from x2.1]
      · rw [if_neg (show ¬ 5 ≤ nI 0 by decide), b1_s (show fX12_its T (nI p) (nI 0) = _ from its0 T (by omega)), z1]
    · refine ⟨nI w, M, T, ?_, ?_, hR⟩
      · rw [if_neg (show ¬ nI 1 = 0 by decide), if_pos (show nI 1 = 1 from rfl), show M 3 p = nI w from x2.2.1]
      · rw [if_neg (show ¬ 5 ≤ nI 1 by decide), b1_s (show fX12_its T (nI p) (nI 1) = _ from its1 T (by omega)), show 8 + 5 * p + 1 = 9 + 5 * p by omega, z2]
    · refine ⟨nI g, M, T, ?_, ?_, hR⟩
      · rw [if_neg (show ¬ nI 2 = 0 by decide), if_neg (show ¬ nI 2 = 1 by decide), if_pos (show nI 2 = 2 from rfl), show M 4 p = nI g from x2.2.2.1]
      · rw [if_neg (show ¬ 5 ≤ nI 2 by decide), b1_s (show fX12_its T (nI p) (nI 2) = _ from its2 T (by omega)), show 8 + 5 * p + 2 = 10 + 5 * p by omega, z3]
    · refine ⟨nI c', M, T, ?_, ?_, hR⟩
      · rw [if_neg (show ¬ nI 3 = 0 by decide), if_neg (show ¬ nI 3 = 1 by decide), if_neg (show ¬ nI 3 = 2 by decide), if_pos (show nI 3 = 3 from rfl), show M 5 p = nI c' from x2.2.2.2]
      · rw [if_neg (show ¬ 5 ≤ nI 3 by decide), b1_s (show fX12_its T (nI p) (nI 3) = _ from its3 T (by omega)), show 8 + 5 * p + 3 = 11 + 5 * p by omega, z4]
    · refine ⟨nI (aw / 2 ^ p % 2), M, T, ?_, ?_, hR⟩
      · rw [if_neg (show ¬ nI 4 = 0 by decide), if_neg (show ¬ nI 4 = 1 by decide), if_neg (show ¬ nI 4 = 2 by decide), if_neg (show ¬ nI 4 = 3 by decide), if_pos (show nI 4 = 4 from rfl), isAwake_at (by omega) a128 b.2.1]
        rcases Nat.mod_two_eq_zero_or_one (aw / 2 ^ p) with z | z
        · rw [z]; rfl
        · rw [z]; rfl
      · rw [if_neg (show ¬ 5 ≤ nI 4 by decide), b1_s (show fX12_its T (nI p) (nI 4) = _ from its4 T (by omega)), show 8 + 5 * p + 4 = 12 + 5 * p by omega, z5]
    · refine ⟨voteS (nowC M 2 p).toNatClampNeg h + 1, M, T, ?_, ?_, hR⟩
      · rw [if_neg (show ¬ nI 5 = 0 by decide), if_neg (show ¬ nI 5 = 1 by decide), if_neg (show ¬ nI 5 = 2 by decide), if_neg (show ¬ nI 5 = 3 by decide), if_neg (show ¬ nI 5 = 4 by decide), if_pos (show nI 5 = 5 from rfl), show M 1 6 = nI h from b.2.2.1, b1_s (voteAt_at hX.vs hp a.2.2.1)]
      · rw [if_pos (show 5 ≤ nI 5 by decide), if_pos (show nI 5 = 5 from rfl), b1_s (voteOf_at hX hp)]
    · obtain ⟨T', t1, t2⟩ := powerOf_at hX hp
      refine ⟨powS (nowC M) (nI h) (nI (cntS 7 aw)) p, PF M p (nI h) (nI (cntS 7 aw)), T', ?_, ?_, hR.eqK (PF_eqK _ _ _ _) ?_ t2⟩
      · rw [if_neg (show ¬ nI 6 = 0 by decide), if_neg (show ¬ nI 6 = 1 by decide), if_neg (show ¬ nI 6 = 2 by decide), if_neg (show ¬ nI 6 = 3 by decide), if_neg (show ¬ nI 6 = 4 by decide), if_neg (show ¬ nI 6 = 5 by decide), if_pos (show nI 6 = 6 from rfl), show M 1 6 = nI h from b.2.2.1, show M 1 5 = nI aw from b.2.1, bit_cnt aw a128, b2_s (powerAt_at hX.2.2.2.2 hX.vs hp _ _)]
      · rw [if_pos (show 5 ≤ nI 6 by decide), if_neg (show ¬ nI 6 = 5 by decide), b2_s t1]
      · exact hR.2.1.keep (PF_63 _ _ _ _) (PF_eqK _ _ _ _).X
