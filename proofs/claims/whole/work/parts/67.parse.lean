/-! both parse alike -/
abbrev drC (M : mM) : mM := fun q => M (27 + q)
/-- what a look at a condition leaves alone, in both -/
def frM (st : Nat) (M M' : mM) : Prop := (∀ q, q ≠ 33 → q ≠ 34 → q ≠ 39 → q ≠ 40 → q ≠ 41 → M' q = M q) ∧ (∀ k, k ≠ 7 → M' 33 k = M 33 k) ∧ (∀ k, k ≠ 5 → M' 34 k = M 34 k) ∧ ∀ j, j < st → M' 39 j = M 39 j ∧ M' 40 j = M 40 j ∧ M' 41 j = M 41 j
def frT (sg : Nat) (T T' : mM) : Prop := (∀ q, q ≠ 0 → q ≠ 5 → T' q = T q) ∧ (∀ k, k ≠ 7 → k ≠ 8 → k ≠ 9 → k ≠ 11 → T' 0 k = T 0 k) ∧ ∀ k, k < 95 + sg → T' 5 k = T 5 k
theorem frM.refl (st : Nat) (M : mM) : frM st M M := ⟨fun _ _ _ _ _ _ => rfl, fun _ _ => rfl, fun _ _ => rfl, fun _ _ => ⟨rfl, rfl, rfl⟩⟩
theorem frM.trans {st st' : Nat} {A B C : mM} (h : frM st A B) (g : frM st' B C) (hs : st ≤ st') : frM st A C := ⟨fun q a b c d e => (g.1 q a b c d e).trans (h.1 q a b c d e), fun k hk => (g.2.1 k hk).trans (h.2.1 k hk), fun k hk => (g.2.2.1 k hk).trans (h.2.2.1 k hk), fun j hj => by
  obtain ⟨g1, g2, g3⟩ := g.2.2.2 j (by omega)
  obtain ⟨h1, h2, h3⟩ := h.2.2.2 j hj
  exact ⟨g1.trans h1, g2.trans h2, g3.trans h3⟩⟩
theorem frT.refl (sg : Nat) (T : mM) : frT sg T T := ⟨fun _ _ _ => rfl, fun _ _ _ _ _ => rfl, fun _ _ => rfl⟩
theorem frT.trans {sg sg' : Nat} {A B C : mM} (h : frT sg A B) (g : frT sg' B C) (hs : sg ≤ sg') : frT sg A C := ⟨fun q a b => (g.1 q a b).trans (h.1 q a b), fun k a b c d => (g.2.1 k a b c d).trans (h.2.1 k a b c d), fun k hk => (g.2.2 k (by omega)).trans (h.2.2 k hk)⟩
theorem frM_at (st : Nat) (M : mM) (v : Int32) : frM st M (wr M 33 7 v) := ⟨fun q a _ _ _ _ => wr_q _ _ a, fun k hk => wr_k _ hk, fun k _ => congrFun (wr_q _ _ (by omega)) k, fun j _ => ⟨congrFun (wr_q _ _ (by omega)) j, congrFun (wr_q _ _ (by omega)) j, congrFun (wr_q _ _ (by omega)) j⟩⟩
theorem ftT.fr {T T' : mM} (h : ftT T T') (sg : Nat) : frT sg T T' := ⟨fun q a _ => h.1 q a, fun k _ b c _ => h.2 k b c, fun k _ => congrFun (h.1 5 (by omega)) k⟩
theorem frT_w (sg : Nat) (T : mM) (v : Int32) : frT sg T (wr T 0 11 v) := ⟨fun q a _ => wr_q _ _ a, fun k _ _ _ d => wr_k _ d, fun k _ => congrFun (wr_q _ _ (by omega)) k⟩
theorem taT_fr {st : Nat} {M M' : mM} {b : Nat → Nat} {z w vc : Nat} (h : taT M b z w vc) (g : frM st M M') : taT M' b z w vc := by
  obtain ⟨a1, a2, a3, a4, a5, a6, a7, a8⟩ := h
  have e : ∀ q, q = 42 ∨ q = 44 ∨ q = 45 ∨ q = 46 → M' q = M q := fun q hq => g.1 q (by omega) (by omega) (by omega) (by omega) (by omega)
  refine ⟨a1, a2, a3, fun j hj => woT_keep (a4 j hj) (congrFun (e 44 (by omega)) j) (congrFun (e 45 (by omega)) j) (congrFun (e 46 (by omega)) j) (Nat.le_refl vc) (fun u _ => congrFun (e 42 (by omega)) u), a5, a6, (g.2.2.1 9 (by omega)).trans a7, fun u h1 h2 => ?_⟩
  rw [e 42 (by omega)]
  exact a8 u h1 h2
theorem okL_cong {X X' : mM} {vc : Nat} : ∀ (d a k : Nat), (∀ j, a ≤ j → j < a + d → X' 12 j = X 12 j ∧ X' 13 j = X 13 j ∧ X' 14 j = X 14 j) → okL X' vc a d k = okL X vc a d k := by
  intro d
  induction d with
  | zero => intro a k _; rfl
  | succ d ih =>
    intro a k h
    obtain ⟨h1, h2, h3⟩ := h a (by omega) (by omega)
    have g : ∀ j, a + 1 ≤ j → j < a + 1 + d → X' 12 j = X 12 j ∧ X' 13 j = X 13 j ∧ X' 14 j = X 14 j := fun j a1 a2 => h j (by omega) (by omega)
    unfold okL
    rw [h1, h2, h3, ih (a + 1) (k + 1) g, ih (a + 1) k g, ih (a + 1) (k - 1) g]
theorem encL_cong {X X' : mM} (h15 : X' 15 = X 15) : ∀ (d a : Nat), (∀ j, a ≤ j → j < a + d → X' 12 j = X 12 j ∧ X' 13 j = X 13 j ∧ X' 14 j = X 14 j) → encL X' a d = encL X a d := by
  intro d
  induction d with
  | zero => intro a _; rfl
  | succ d ih =>
    intro a h
    obtain ⟨h1, h2, h3⟩ := h a (by omega) (by omega)
    show encS X' a ++ encL X' (a + 1) d = encS X a ++ encL X (a + 1) d
    rw [ih (a + 1) (fun j a1 a2 => h j (by omega) (by omega))]
    congr 1
    unfold encS encV
    rw [h1, h2, h3, h15]
theorem fr_row {st : Nat} {M M' : mM} (g : frM st M M') {a d : Nat} (h : a + d ≤ st) : ∀ j, a ≤ j → j < a + d → drC M' 12 j = drC M 12 j ∧ drC M' 13 j = drC M 13 j ∧ drC M' 14 j = drC M 14 j := fun j _ h2 => g.2.2.2 j (by omega)
theorem okL_fr {st : Nat} {M M' : mM} (g : frM st M M') {vc a d k : Nat} (h : a + d ≤ st) : okL (drC M') vc a d k = okL (drC M) vc a d k := okL_cong d a k (fr_row g h)
theorem encL_fr {st : Nat} {M M' : mM} (g : frM st M M') {a d : Nat} (h : a + d ≤ st) : encL (drC M') a d = encL (drC M) a d := encL_cong (g.1 42 (by omega) (by omega) (by omega) (by omega) (by omega)) d a (fr_row g h)
theorem okL_app {X : mM} {vc d2 : Nat} : ∀ (d1 a k m : Nat), okL X vc a d1 k = some m → okL X vc a (d1 + d2) k = okL X vc (a + d1) d2 m := by
  intro d1
  induction d1 with
  | zero => intro a k m h; rw [Nat.zero_add, Nat.add_zero, Option.some.inj h]
  | succ d1 ih =>
    intro a k m h
    obtain ⟨i1, i2, h'⟩ := okL_step h
    rw [Nat.add_right_comm]
    show okL X vc a (d1 + d2 + 1) k = _
    rw [show a + (d1 + 1) = a + 1 + d1 by omega]
    generalize hR : okL X vc (a + 1 + d1) d2 m = R
    unfold okL
    rw [if_pos ⟨i1, i2⟩]
    rcases h' with ⟨c, k20, ho⟩ | ⟨c, k1, ho⟩ | ⟨c, k2, ho⟩
    · rw [if_pos c, if_pos k20, ← hR]; exact ih _ _ _ ho
    · rw [if_neg (by rw [c]; decide), if_pos c, if_pos k1, ← hR]; exact ih _ _ _ ho
    · rw [if_neg (by rcases c with c | c <;> rw [c] <;> decide), if_neg (by rcases c with c | c <;> rw [c] <;> decide), if_pos c, if_pos k2, ← hR]; exact ih _ _ _ ho
theorem encL_app {X : mM} {d2 : Nat} : ∀ (d1 a : Nat), encL X a (d1 + d2) = encL X a d1 ++ encL X (a + d1) d2 := by
  intro d1
  induction d1 with
  | zero => intro a; rw [Nat.zero_add, Nat.add_zero]; rfl
  | succ d1 ih =>
    intro a
    rw [Nat.add_right_comm]
    show encS X a ++ encL X (a + 1) (d1 + d2) = (encS X a ++ encL X (a + 1) d1) ++ encL X (a + (d1 + 1)) d2
    rw [ih, List.append_assoc, show a + 1 + d1 = a + (d1 + 1) by omega]
theorem Seg_join {t : Nat → Int32} : ∀ (l1 l2 : List Int32) (j : Nat), Seg t j l1 → Seg t (j + l1.length) l2 → Seg t j (l1 ++ l2) := by
  intro l1
  induction l1 with
  | nil => intro l2 j _ h; exact h
  | cons v l ih =>
    intro l2 j h1 h2
    refine ⟨h1.1, ih l2 (j + 1) h1.2 ?_⟩
    have e : j + (v :: l).length = j + 1 + l.length := by show j + (l.length + 1) = _; omega
    rw [e] at h2
    exact h2
theorem Seg_cong {t t' : Nat → Int32} : ∀ (l : List Int32) (j : Nat), (∀ k, 95 + j ≤ k → k < 95 + j + l.length → t' k = t k) → Seg t j l → Seg t' j l := by
  intro l
  induction l with
  | nil => intro j _ _; trivial
  | cons v l ih =>
    intro j h g
    refine ⟨(h (95 + j) (by omega) (by show _ < 95 + j + (l.length + 1); omega)).trans g.1, ih (j + 1) (fun k h1 h2 => h k (by omega) (by show _ < 95 + j + (l.length + 1); omega)) g.2⟩
/-- a model gone wrong: it changes nothing any more -/
def wnT (T : mM) (b : Nat → Nat) (z : Nat) : Prop := tpT T b z ∧ T 0 11 = 1 ∧ ∃ f e : Nat, T 0 8 = nI f ∧ T 0 9 = nI e ∧ f ≤ e ∧ e ≤ z
theorem wnT.ne {T : mM} {b : Nat → Nat} {z : Nat} (h : wnT T b z) : ¬ T 0 11 = 0 := by rw [h.2.1]; decide
theorem wnT.sm {T : mM} {b : Nat → Nat} {z : Nat} (h : wnT T b z) : wr T 0 11 1 = T := by
  have := wr_same T 0 11
  rwa [h.2.1] at this
theorem wr0_sm {T : mM} (h : T 0 11 = 0) : wr T 0 11 0 = T := by
  have := wr_same T 0 11
  rwa [h] at this
theorem wn_num {T : mM} {b : Nat → Nat} {z : Nat} (h : wnT T b z) : ∃ v, fX12_numberHere T = some v := by
  obtain ⟨h1, h2, f, e, h8, h9, hf, he⟩ := h
  have hz := h1.1.1
  have key : ∀ (d k fu : Nat) (x : Int32), k + d = e → d < fu → ∃ v, fX12_numberHere_L39 fu T x (nI k) = some v := by
    intro d
    induction d with
    | zero =>
      intro k fu x hk hfu
      obtain ⟨g, rfl⟩ : ∃ j, fu = j + 1 := ⟨fu - 1, by omega⟩
      refine ⟨x, ?_⟩
      show fX12_numberHere_L39_b (fX12_numberHere_L39 g) T x (nI k) = _
      unfold fX12_numberHere_L39_b
      rw [h9, if_pos (nI_le (by omega) (by omega))]
    | succ d ih =>
      intro k fu x hk hfu
      obtain ⟨g, rfl⟩ : ∃ j, fu = j + 1 := ⟨fu - 1, by omega⟩
      show ∃ v, fX12_numberHere_L39_b (fX12_numberHere_L39 g) T x (nI k) = some v
      unfold fX12_numberHere_L39_b
      rw [h9, if_neg (nI_ge (by omega) (by omega)), gd_t (ix_nI (by omega) (by omega)), nI_1]
      by_cases hx : x < 0
      · exact ⟨x, by rw [if_pos hx]⟩
      · rw [if_neg hx]
        exact ih (k + 1) g _ (by omega) (by omega)
  unfold fX12_numberHere fX12_numberHere_L32 fX12_numberHere_L33
  rw [h8, h9, b1_s (digit_at h1 (show f < 2 ^ 31 by omega)), bI_if]
  obtain ⟨v1, e1⟩ := key (e - f) f 5000 (-1) (by omega) (by omega)
  obtain ⟨v2, e2⟩ := key (e - f) f 5000 0 (by omega) (by omega)
  rw [e1, e2]
  split
  · split
    · exact ⟨_, rfl⟩
    · exact ⟨_, rfl⟩
  · exact ⟨_, rfl⟩
theorem wn_number {T : mM} {b : Nat → Nat} {z : Nat} (h : wnT T b z) (most : Int32) : ∃ v, fX12_number T most = some (v, T) := by
  obtain ⟨v, hv⟩ := wn_num h
  refine ⟨v, ?_⟩
  unfold fX12_number fX12_number_L24 fX12_number_L29
  rw [b1_s hv, if_neg h.ne, gd_t (show isB 1 = true from rfl), h.sm, if_neg h.ne]
theorem wn_puts {T : mM} {b : Nat → Nat} {z : Nat} (h : wnT T b z) (v : Int32) : fX12_puts T v = some (0, T) := by
  unfold fX12_puts
  rw [if_neg h.ne]
theorem wn_word {T : mM} {b : Nat → Nat} {z : Nat} (h : wnT T b z) (s : Nat) : fX12_isWord T s = some 0 := isWord_no h.ne
theorem wn_value {T : mM} {b : Nat → Nat} {z : Nat} (h : wnT T b z) : fX12_value T = some (0, T) := by
  have e : fX12_factHere T = some (-1) := by
    unfold fX12_factHere fX12_factHere_L40
    rw [b1_s (wn_word h 6), b1_s (wn_word h 7), b1_s (wn_word h 8), b1_s (wn_word h 9), b1_s (wn_word h 10), if_pos rfl, if_pos rfl, if_pos rfl, if_pos (by decide), if_pos rfl, if_pos rfl]
  obtain ⟨v, hv⟩ := wn_number h 9999
  unfold fX12_value
  rw [b1_s e, if_pos (by decide), b2_s hv, b2_s (wn_puts h v)]
theorem wn_63 {T : mM} {b : Nat → Nat} {z : Nat} (h : wnT T b z) (x : Int32) : fX12_test_L63 T x 1 = some (0, T) := by
  unfold fX12_test_L63
  rw [gd_t (show isB 1 = true from rfl), h.sm, if_neg h.ne, b2_s (wn_value h), b2_s (wn_puts h x)]
theorem wn_test {T : mM} {b : Nat → Nat} {z : Nat} (h : wnT T b z) : fX12_test T = some (0, T) := by
  unfold fX12_test fX12_test_L34 fX12_test_L58
  rw [b2_s (wn_value h), b1_s (wn_word h 20), b1_s (wn_word h 21), if_pos rfl, if_pos rfl, if_neg h.ne]
  exact wn_63 h _
theorem wn_takes {T : mM} {b : Nat → Nat} {z : Nat} (h : wnT T b z) (s : Nat) : fX12_takes T s = some (0, T) := by
  unfold fX12_takes
  rw [b1_s (wn_word h s), if_pos rfl]
theorem wn_wants {T : mM} {b : Nat → Nat} {z : Nat} (h : wnT T b z) (s : Nat) : fX12_wants T s = some (0, T) := by
  unfold fX12_wants fX12_wants_L16
  rw [if_neg h.ne, h.sm, if_neg h.ne]
theorem wn_one {T : mM} {b : Nat → Nat} {z : Nat} (h : wnT T b z) (rec : mM → Option (Int32 × mM)) : fX12_one rec T = some (0, T) := by
  unfold fX12_one
  show fX12_one_L2_b rec (fX12_one_L2 rec 4999) T 0 = _
  unfold fX12_one_L2_b fX12_one_L37
  rw [b2_s (wn_takes h 14), if_pos rfl, b1_s (wn_word h 18), if_pos rfl, b2_s (wn_test h), if_neg (by decide)]
theorem wn_all {T : mM} {b : Nat → Nat} {z : Nat} (h : wnT T b z) (rec : mM → Option (Int32 × mM)) : fX12_all rec T = some (0, T) := by
  unfold fX12_all
  rw [b2_s (wn_one h rec)]
  show fX12_all_L4_b rec (fX12_all_L4 rec 4999) T = _
  unfold fX12_all_L4_b
  rw [b2_s (wn_takes h 12), if_pos rfl]
theorem wn_any {T : mM} {b : Nat → Nat} {z : Nat} (h : wnT T b z) {d : Nat} (hd : 0 < d) : fX12_any d T = some (0, T) := by
  obtain ⟨d, rfl⟩ : ∃ j, d = j + 1 := ⟨d - 1, by omega⟩
  show fX12_any_b (fX12_any d) T = _
  unfold fX12_any_b
  rw [b2_s (wn_all h _)]
  show fX12_any_L4_b (fX12_any d) (fX12_any_L4 (fX12_any d) 4999) T = _
  unfold fX12_any_L4_b
  rw [b2_s (wn_takes h 13), if_pos rfl]
theorem atT.wn {T : mM} {b : Nat → Nat} {z i : Nat} (h : atT T b z i) : wnT (wr T 0 11 1) b z ∧ wr T 0 11 1 0 8 = nI (plT b z i) := by
  obtain ⟨h1, h2, h3, h4⟩ := h
  have hl := te_le b z i
  have e8 : wr T 0 11 1 0 8 = nI (plT b z i) := by rw [wr_k _ (by omega)]; exact h3
  refine ⟨⟨⟨by rw [wr_q _ _ (by omega)]; exact h1.1, by rw [wr_k _ (by omega)]; exact h1.2⟩, wr_s _ _ _ _, plT b z i, teT b z (plT b z i), e8, ?_, hl.1, hl.2⟩, e8⟩
  rw [wr_k _ (by omega)]; exact h4
-- words that are wanted, NUMBERS, FACTS
theorem wants_at {T : mM} {b : Nat → Nat} {z i s : Nat} (h : atT T b z i) (hs : s < 24) : (wdT b z i = codeT s → ∃ T', fX12_wants T s = some (0, T') ∧ ftT T T' ∧ atT T' b z (i + 1)) ∧ (¬ wdT b z i = codeT s → fX12_wants T s = some (0, wr T 0 11 1)) := by
  unfold fX12_wants fX12_wants_L16
  rw [if_pos h.2.1, b1_s (isWord_at h hs), bI_if, wr0_sm h.2.1, if_pos h.2.1, wr_s, if_neg (show ¬ (1 : Int32) = 0 by decide)]
  refine ⟨fun e => ?_, fun e => ?_⟩
  · obtain ⟨T', t1, t2, t3⟩ := next_i h
    refine ⟨T', ?_, t2, t3⟩
    rw [if_pos (decide_eq_true e), b2_s t1]
  · rw [if_neg (by rw [decide_eq_false e]; decide)]
theorem number_at {T : mM} {b : Nat → Nat} {z i most : Nat} (h : atT T b z i) (hm : most < 2 ^ 31) (hn : wdT b z i = 30 → nbT b z (plT b z i) ≤ 9999) : (wdT b z i = 30 ∧ nbT b z (plT b z i) ≤ most → ∃ T', fX12_number T (nI most) = some (nI (nbT b z (plT b z i)), T') ∧ ftT T T' ∧ atT T' b z (i + 1)) ∧ (¬ (wdT b z i = 30 ∧ nbT b z (plT b z i) ≤ most) → ∃ v, fX12_number T (nI most) = some (v, wr T 0 11 1)) := by
  unfold fX12_number fX12_number_L24 fX12_number_L29
  rw [b1_s (numM h), if_pos h.2.1, gd_t (show isB 1 = true from rfl), gd_t (show isB 0 = true from rfl), wr0_sm h.2.1, wr_s, if_neg (show ¬ (1 : Int32) = 0 by decide), if_pos h.2.1]
  refine ⟨fun e => ?_, fun e => ?_⟩
  · obtain ⟨T', t1, t2, t3⟩ := next_i h
    refine ⟨T', ?_, t2, t3⟩
    rw [if_pos e.1, show fX12_in (Int32.toInt64 (nI (nbT b z (plT b z i)))) 0 (Int32.toInt64 (nI most)) = 1 from (in_eq _ 0 _).trans (isIn_t (a := 0) (b := most) (by omega) e.2 hm), if_neg (by decide), b2_s t1]
  · refine ⟨if wdT b z i = 30 then nI (nbT b z (plT b z i)) else -1, ?_⟩
    rw [if_pos]
    rw [show fX12_in (Int32.toInt64 (if wdT b z i = 30 then nI (nbT b z (plT b z i)) else -1)) 0 (Int32.toInt64 (nI most)) = _ from in_eq _ 0 _, isIn_eq, if_neg]
    intro q
    by_cases g : wdT b z i = 30
    · rw [if_pos g] at q
      have := hn g
      exact e ⟨g, (nI_leI (by omega) hm).mp q.2⟩
    · rw [if_neg g] at q
      exact absurd q.1 (by decide)
theorem fact_h {T : mM} {b : Nat → Nat} {z i : Nat} (h : atT T b z i) : fX12_factHere T = some (if 10 ≤ wdT b z i ∧ wdT b z i ≤ 14 then nI (wdT b z i - 10) else -1) := by
  have w6 : fX12_isWord T 6 = some (bI (decide (wdT b z i = 10))) := isWord_at h (by omega)
  have w7 : fX12_isWord T 7 = some (bI (decide (wdT b z i = 11))) := isWord_at h (by omega)
  have w8 : fX12_isWord T 8 = some (bI (decide (wdT b z i = 12))) := isWord_at h (by omega)
  have w9 : fX12_isWord T 9 = some (bI (decide (wdT b z i = 13))) := isWord_at h (by omega)
  have w10 : fX12_isWord T 10 = some (bI (decide (wdT b z i = 14))) := isWord_at h (by omega)
  unfold fX12_factHere fX12_factHere_L40
  rw [b1_s w6, b1_s w7, b1_s w8, b1_s w9, b1_s w10]
  simp only [bI_if, decide_eq_true_eq]
  generalize wdT b z i = c
  by_cases h1 : c = 10
  · rw [if_pos h1, h1]; rfl
  rw [if_neg h1]
  by_cases h2 : c = 11
  · rw [if_pos h2, h2]; rfl
  rw [if_neg h2]
  by_cases h3 : c = 12
  · rw [if_pos h3, h3]; rfl
  rw [if_neg h3, if_pos (by decide)]
  by_cases h4 : c = 13
  · rw [if_pos h4, h4]; rfl
  rw [if_neg h4]
  by_cases h5 : c = 14
  · rw [if_pos h5, h5]; rfl
  rw [if_neg h5, if_neg (show ¬ (10 ≤ c ∧ c ≤ 14) by omega)]
theorem puts_at {T : mM} {sg : Nat} (h11 : T 0 11 = 0) (h7 : T 0 7 = nI sg) (hs : sg < 200) (v : Int32) : fX12_puts T v = some (0, wr (wr T 5 (95 + sg) v) 0 7 (nI (sg + 1))) := by
  unfold fX12_puts
  rw [if_pos h11, h7, signix, gx (by omega), tn_nI (by omega), wr_q _ _ (show (0 : Nat) ≠ 5 by omega), h7, nI_1]
/-- behind a sign that is put -/
theorem put_st {T : mM} {b : Nat → Nat} {z i sg : Nat} (h : atT T b z i) (v : Int32) : atT (wr (wr T 5 (95 + sg) v) 0 7 (nI (sg + 1))) b z i ∧ wr (wr T 5 (95 + sg) v) 0 7 (nI (sg + 1)) 0 7 = nI (sg + 1) ∧ wr (wr T 5 (95 + sg) v) 0 7 (nI (sg + 1)) 5 (95 + sg) = v ∧ frT sg T (wr (wr T 5 (95 + sg) v) 0 7 (nI (sg + 1))) := by
  obtain ⟨⟨h1, h1'⟩, h2, h3, h4⟩ := h
  have e : ∀ k, k ≠ 7 → wr (wr T 5 (95 + sg) v) 0 7 (nI (sg + 1)) 0 k = T 0 k := fun k hk => by rw [wr_k _ hk, wr_q _ _ (by omega)]
  refine ⟨⟨⟨by rw [wr_q _ _ (by omega), wr_q _ _ (by omega)]; exact h1, (e 5 (by omega)).trans h1'⟩, (e 11 (by omega)).trans h2, (e 8 (by omega)).trans h3, (e 9 (by omega)).trans h4⟩, wr_s _ _ _ _, ?_, fun q a c => ?_, fun k a _ _ _ => e k a, fun k hk => ?_⟩
  · rw [wr_q _ _ (by omega), wr_s]
  · rw [wr_q _ _ a, wr_q _ _ c]
  · rw [wr_q _ _ (by omega), wr_k _ (by omega)]
theorem wd_40 {M : mM} {b : Nat → Nat} {z w vc i : Nat} (h : taT M b z w vc) (hi : i ≤ w) (hc : ¬ wdT b z i = 40) : i < w := by
  rcases Nat.lt_or_ge i w with g | g
  · exact g
  · exact absurd (by
      unfold wdT cdT
      rw [show i = w by omega, h.2.1, if_neg (by omega)]) hc
theorem wd_w {M : mM} {b : Nat → Nat} {z w vc : Nat} (h : taT M b z w vc) : wdT b z w = 40 := by
  unfold wdT cdT
  rw [h.2.1, if_neg (by omega)]
theorem val_at {M : mM} {b : Nat → Nat} {z w vc i : Nat} (h : taT M b z w vc) (hi : i ≤ w) :
    (∃ v, v < vc ∧ M 46 i = nI v ∧ i < w ∧ ∀ (T : mM) (sg : Nat), atT T b z i → T 0 7 = nI sg → sg < 200 → ∃ T', fX12_value T = some (0, T') ∧ atT T' b z (i + 1) ∧ T' 0 7 = nI (sg + 1) ∧ T' 5 (95 + sg) = encV (drC M) v ∧ frT sg T T') ∨
    (M 46 i = -3 ∧ ∀ T : mM, atT T b z i → fX12_value T = some (0, wr T 0 11 1)) := by
  have hvc := h.2.2.2.2.1
  obtain ⟨w1, w2, w3⟩ := h.2.2.2.1 i hi
  rcases w3 with ⟨c1, c2, c3⟩ | ⟨c1, c2, u, u1, u2, u3, u4⟩ | ⟨c1, c2, c3⟩
  · left
    have c1' : 10 ≤ wdT b z i := c1
    have c2' : wdT b z i ≤ 14 := c2
    refine ⟨wdT b z i - 10, by omega, c3, wd_40 h hi (by omega), fun T sg hA h7 hs => ?_⟩
    obtain ⟨T1, t1, t2, t3⟩ := next_i hA
    have h7' : T1 0 7 = nI sg := (t2.2 7 (by omega) (by omega)).trans h7
    obtain ⟨p1, p2, p3, p4⟩ := put_st (sg := sg) t3 ((-1) - nI (wdT b z i - 10))
    refine ⟨_, ?_, p1, p2, ?_, (t2.fr sg).trans p4 (Nat.le_refl sg)⟩
    · unfold fX12_value
      rw [b1_s (fact_h hA), if_pos (show 10 ≤ wdT b z i ∧ wdT b z i ≤ 14 from ⟨c1', c2'⟩), if_neg (nI_pos (by omega)), b2_s t1, b2_s (puts_at t3.2.1 h7' hs _)]
    · rw [p3]
      unfold encV
      rw [if_pos (by omega)]
  · left
    have c1' : wdT b z i = 30 := c1
    refine ⟨u, u2, u3, wd_40 h hi (by omega), fun T sg hA h7 hs => ?_⟩
    obtain ⟨T1, t1, t2, t3⟩ := (number_at (most := 9999) hA (by omega) (fun _ => c2)).1 ⟨c1', c2⟩
    have h7' : T1 0 7 = nI sg := (t2.2 7 (by omega) (by omega)).trans h7
    obtain ⟨p1, p2, p3, p4⟩ := put_st (sg := sg) t3 (nI (nbT b z (plT b z i)))
    refine ⟨_, ?_, p1, p2, ?_, (t2.fr sg).trans p4 (Nat.le_refl sg)⟩
    · unfold fX12_value
      rw [b1_s (fact_h hA), if_neg (show ¬ (10 ≤ wdT b z i ∧ wdT b z i ≤ 14) by omega), if_pos (by decide), b2_s (show fX12_number T 9999 = _ from t1), b2_s (puts_at t3.2.1 h7' hs _)]
    · rw [p3]
      unfold encV
      rw [if_neg (by omega)]
      exact u4.symm
  · right
    have c1' : ¬ (10 ≤ wdT b z i ∧ wdT b z i ≤ 14) := c1
    have c2' : ¬ wdT b z i = 30 := c2
    refine ⟨c3, fun T hA => ?_⟩
    obtain ⟨v, hv⟩ := (number_at (most := 9999) hA (by omega) (fun q => absurd q c2')).2 (fun q => c2' q.1)
    unfold fX12_value
    rw [b1_s (fact_h hA), if_neg c1', if_pos (by decide), b2_s (show fX12_number T 9999 = _ from hv), b2_s (wn_puts hA.wn.1 v)]
-- the shape of a look at a condition
def gdX (b : Nat → Nat) (z w vc i st sg K : Nat) (M T M' T' : mM) (i' st' sg' : Nat) : Prop := (i < i' ∧ i' ≤ w ∧ st ≤ st' ∧ sg ≤ sg' ∧ st' + i ≤ st + i' ∧ sg' + i ≤ sg + i') ∧ (M' 33 7 = nI i' ∧ M' 34 5 = nI st') ∧ (atT T' b z i' ∧ T' 0 7 = nI sg') ∧ (∀ k, k ≤ K → okL (drC M') vc st (st' - st) k = some (k + 1)) ∧ Seg (T' 5) sg (encL (drC M') st (st' - st)) ∧ sg + (encL (drC M') st (st' - st)).length = sg' ∧ frM st M M' ∧ frT sg T T'
def gdP (b : Nat → Nat) (z w vc i st sg K : Nat) (M T M' T' : mM) : Prop := ∃ i' st' sg' : Nat, gdX b z w vc i st sg K M T M' T' i' st' sg'
def bdP (b : Nat → Nat) (z w i st sg : Nat) (M T M' T' : mM) : Prop := ∃ i' st' : Nat, (i ≤ i' ∧ i' ≤ w ∧ st ≤ st' ∧ st' ≤ 200) ∧ (M' 33 7 = nI i' ∧ M' 34 5 = nI st') ∧ (T' 0 8 = nI (plT b z i') ∧ wnT T' b z) ∧ frM st M M' ∧ frT sg T T'
def inP (b : Nat → Nat) (z w vc i st sg o : Nat) (M T : mM) : Prop := taT M b z w vc ∧ (M 33 7 = nI i ∧ M 34 5 = nI st) ∧ (atT T b z i ∧ T 0 7 = nI sg ∧ T 0 10 = nI o) ∧ (i ≤ w ∧ st ≤ i ∧ sg ≤ i)
def PAR (cls mod : mM → Option (Int32 × mM)) (b : Nat → Nat) (z w vc o K : Nat) : Prop := ∀ (M T : mM) (i st sg : Nat), inP b z w vc i st sg o M T → ∃ (r : Bool) (M' T' : mM), cls M = some (bI r, M') ∧ mod T = some (0, T') ∧ (r = true → gdP b z w vc i st sg K M T M' T') ∧ (r = false → bdP b z w i st sg M T M' T')
theorem goPast_at {M : mM} {b : Nat → Nat} {z w vc i c : Nat} (h : taT M b z w vc) (h7 : M 33 7 = nI i) (hi : i ≤ w) (hc : c < 40) : fX5_goPast M (nI c) = if wdT b z i = c then some (1, wr M 33 7 (nI (i + 1))) else some (0, M) := by
  have hw := h.1
  obtain ⟨w1, w2, w3⟩ := h.2.2.2.1 i hi
  have hl := cdT_lt b z (plT b z i)
  unfold fX5_goPast
  rw [h7, gd_t (ix_nI (by omega) (by omega)), tn_nI (by omega), w1, nI_1, show cdT b z (plT b z i) = wdT b z i from rfl]
  have hl' : wdT b z i < 42 := hl
  by_cases e : wdT b z i = c
  · rw [if_pos e, if_pos (by rw [e]), if_neg (show ¬ nI c = 40 from fun q => by have := (nI_eq (b := 40) (by omega) (by omega)).mp q; omega)]
  · rw [if_neg e, if_neg (fun q => e ((nI_eq (by omega) (by omega)).mp q))]
def asM (M : mM) (st : Nat) (x l r : Int32) : mM := wr (wr (wr (wr M 39 st x) 40 st l) 41 st r) 34 5 (nI (st + 1))
theorem addStep_at {M : mM} {st : Nat} (h5 : M 34 5 = nI st) (hs : st < 200) (x l r : Int32) : fX6_addStep_q34 M x l r = some (0, asM M st x l r) := by
  have g : ∀ {y : Option (Int32 × mM)}, gd (ix (nI st) 200) y = y := gd_t (ix_nI hs (by omega))
  unfold fX6_addStep_q34 asM
  rw [h5, if_neg (show ¬ (200 : Int32) ≤ nI st from nI_ge (b := 200) hs (by omega))]
  simp only [wr_q _ _ (show (34 : Nat) ≠ 39 by omega), wr_q _ _ (show (34 : Nat) ≠ 40 by omega), wr_q _ _ (show (34 : Nat) ≠ 41 by omega), h5, g, tn_nI (show st < 2 ^ 31 by omega), nI_1]
theorem addStep_any {M : mM} {st : Nat} (h5 : M 34 5 = nI st) (hs : st ≤ 200) (x l r : Int32) : ∃ M' st', fX6_addStep_q34 M x l r = some (0, M') ∧ st ≤ st' ∧ st' ≤ 200 ∧ M' 34 5 = nI st' ∧ M' 33 7 = M 33 7 ∧ frM st M M' := by
  by_cases e : st = 200
  · refine ⟨M, st, ?_, Nat.le_refl st, hs, h5, rfl, frM.refl st M⟩
    unfold fX6_addStep_q34
    rw [h5, if_pos (show (200 : Int32) ≤ nI st from nI_le (a := 200) (by omega) (by omega))]
  · refine ⟨asM M st x l r, st + 1, addStep_at h5 (by omega) x l r, by omega, by omega, wr_s _ _ _ _, ?_, ?_⟩
    · unfold asM
      rw [wr_q _ _ (by omega), wr_q _ _ (by omega), wr_q _ _ (by omega), wr_q _ _ (by omega)]
    · unfold asM
      exact ⟨fun q a b c d e => by rw [wr_q _ _ b, wr_q _ _ e, wr_q _ _ d, wr_q _ _ c], fun k _ => by rw [wr_q _ _ (by omega), wr_q _ _ (by omega), wr_q _ _ (by omega), wr_q _ _ (by omega)], fun k hk => by rw [wr_k _ hk, wr_q _ _ (by omega), wr_q _ _ (by omega), wr_q _ _ (by omega)], fun j hj => ⟨by rw [wr_q _ _ (by omega), wr_q _ _ (by omega), wr_q _ _ (by omega), wr_k _ (by omega)], by rw [wr_q _ _ (by omega), wr_q _ _ (by omega), wr_k _ (by omega), wr_q _ _ (by omega)], by rw [wr_q _ _ (by omega), wr_k _ (by omega), wr_q _ _ (by omega), wr_q _ _ (by omega)]⟩⟩
theorem asM_at (M : mM) (st : Nat) (x l r : Int32) : (drC (asM M st x l r) 12 st = x ∧ drC (asM M st x l r) 13 st = l ∧ drC (asM M st x l r) 14 st = r) ∧ drC (asM M st x l r) 15 = M 42 ∧ asM M st x l r 34 5 = nI (st + 1) ∧ asM M st x l r 33 7 = M 33 7 ∧ frM st M (asM M st x l r) := by
  refine ⟨⟨?_, ?_, ?_⟩, ?_, wr_s _ _ _ _, ?_, ?_⟩
  · show asM M st x l r 39 st = x
    unfold asM
    rw [wr_q _ _ (by omega), wr_q _ _ (by omega), wr_q _ _ (by omega), wr_s]
  · show asM M st x l r 40 st = l
    unfold asM
    rw [wr_q _ _ (by omega), wr_q _ _ (by omega), wr_s]
  · show asM M st x l r 41 st = r
    unfold asM
    rw [wr_q _ _ (by omega), wr_s]
  · show asM M st x l r 42 = M 42
    unfold asM
    rw [wr_q _ _ (by omega), wr_q _ _ (by omega), wr_q _ _ (by omega), wr_q _ _ (by omega)]
  · unfold asM
    rw [wr_q _ _ (by omega), wr_q _ _ (by omega), wr_q _ _ (by omega), wr_q _ _ (by omega)]
  · unfold asM
    exact ⟨fun q a b c d e => by rw [wr_q _ _ b, wr_q _ _ e, wr_q _ _ d, wr_q _ _ c], fun k _ => by rw [wr_q _ _ (by omega), wr_q _ _ (by omega), wr_q _ _ (by omega), wr_q _ _ (by omega)], fun k hk => by rw [wr_k _ hk, wr_q _ _ (by omega), wr_q _ _ (by omega), wr_q _ _ (by omega)], fun j hj => ⟨by rw [wr_q _ _ (by omega), wr_q _ _ (by omega), wr_q _ _ (by omega), wr_k _ (by omega)], by rw [wr_q _ _ (by omega), wr_q _ _ (by omega), wr_k _ (by omega), wr_q _ _ (by omega)], by rw [wr_q _ _ (by omega), wr_k _ (by omega), wr_q _ _ (by omega), wr_q _ _ (by omega)]⟩⟩
/-- a step joined to those ahead of it, in both (NOT, AND, OR) -/
theorem join_at {b : Nat → Nat} {z w vc i i0 st sg K : Nat} {M T M' T' : mM} (hin : taT M b z w vc) {i' st' sg' : Nat} (hb : i0 < i ∧ i ≤ i' ∧ i' ≤ w ∧ st ≤ st' ∧ sg ≤ sg' ∧ st' + i ≤ st + i' ∧ sg' + i ≤ sg + i') (hst : st ≤ i0 ∧ sg ≤ i0) (h7 : M' 33 7 = nI i') (h5 : M' 34 5 = nI st') (hA : atT T' b z i') (t7 : T' 0 7 = nI sg') (jd : Nat)
    (hok : ∀ k, k ≤ K → okL (drC M') vc st (st' - st) k = some (k + 1 + jd)) (hseg : Seg (T' 5) sg (encL (drC M') st (st' - st))) (hlen : sg + (encL (drC M') st (st' - st)).length = sg') (hM : frM st M M') (hT : frT sg T T') (x sn : Int32) (hx : (jd = 0 ∧ x = 23 ∧ sn = -14) ∨ (jd = 1 ∧ x = 21 ∧ sn = -15) ∨ (jd = 1 ∧ x = 22 ∧ sn = -16)) :
    fX6_addStep_q34 M' x 0 0 = some (0, asM M' st' x 0 0) ∧ fX12_puts T' sn = some (0, wr (wr T' 5 (95 + sg') sn) 0 7 (nI (sg' + 1))) ∧ gdX b z w vc i0 st sg K M T (asM M' st' x 0 0) (wr (wr T' 5 (95 + sg') sn) 0 7 (nI (sg' + 1))) i' (st' + 1) (sg' + 1) := by
  have hw := hin.1
  have hvc := hin.2.2.2.2.1
  have hvc2 := hin.2.2.2.2.2.1
  obtain ⟨⟨a1, a2, a3⟩, a4, a5, a6, a7⟩ := asM_at M' st' x 0 0
  obtain ⟨p1, p2, p3, p4⟩ := put_st (sg := sg') hA sn
  have e1 : st' + 1 - st = (st' - st) + 1 := by omega
  have e2 : st + (st' - st) = st' := by omega
  have eS : encS (drC (asM M' st' x 0 0)) st' = [sn] := by
    unfold encS
    rcases hx with ⟨-, rfl, rfl⟩ | ⟨-, rfl, rfl⟩ | ⟨-, rfl, rfl⟩
    · rw [a1, if_neg (by decide), if_neg (by decide), if_neg (by decide), if_pos rfl]
    · rw [a1, if_neg (by decide), if_neg (by decide), if_neg (by decide), if_neg (by decide), if_pos rfl]
    · rw [a1, if_neg (by decide), if_neg (by decide), if_neg (by decide), if_neg (by decide), if_neg (by decide)]
  have eE : encL (drC (asM M' st' x 0 0)) st (st' + 1 - st) = encL (drC M') st (st' - st) ++ [sn] := by
    rw [e1, encL_app, e2, encL_fr a7 (by omega)]
    congr 1
    show encS _ _ ++ [] = _
    rw [List.append_nil]
    exact eS
  refine ⟨addStep_at h5 (by omega) x 0 0, puts_at hA.2.1 t7 (by omega) sn, by omega, ⟨a6.trans h7, a5⟩, ⟨p1, p2⟩, fun k hk => ?_, ?_, ?_, hM.trans a7 (by omega), hT.trans p4 (by omega)⟩
  · rw [e1, okL_app (st' - st) st k (k + 1 + jd) (by rw [okL_fr a7 (by omega)]; exact hok k hk), e2]
    unfold okL
    rw [a2, a3, if_pos ⟨ix_nI (j := 0) (by omega) (by omega), ix_nI (j := 0) (by omega) (by omega)⟩, a1]
    rcases hx with ⟨rfl, rfl, -⟩ | ⟨rfl, rfl, -⟩ | ⟨rfl, rfl, -⟩
    · rw [if_neg (by decide), if_pos rfl, if_pos (by omega)]; rfl
    · rw [if_neg (by decide), if_neg (by decide), if_pos (Or.inl rfl), if_pos (by omega)]; rfl
    · rw [if_neg (by decide), if_neg (by decide), if_pos (Or.inr rfl), if_pos (by omega)]; rfl
  · rw [eE]
    refine Seg_join _ _ _ (Seg_cong _ _ (fun k h1 h2 => p4.2.2 k (by omega)) hseg) ?_
    rw [hlen]
    exact ⟨p3, trivial⟩
  · rw [eE, List.length_append]
    show sg + (_ + 1) = sg' + 1
    omega
