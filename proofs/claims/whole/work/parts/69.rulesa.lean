/-! RULES: both read them alike -/
/-- what a rule leaves alone, in both -/
def fwM (M M' : mM) : Prop := (∀ q, q < 33 ∨ 41 < q → M' q = M q) ∧ (∀ k, k ≠ 7 → M' 33 k = M 33 k) ∧ M' 34 9 = M 34 9
def fwT (T T' : mM) : Prop := (∀ q, q ≠ 0 → q ≠ 5 → T' q = T q) ∧ ∀ k, k ≠ 7 → k ≠ 8 → k ≠ 9 → k ≠ 11 → T' 0 k = T 0 k
theorem fwM.refl (M : mM) : fwM M M := ⟨fun _ _ => rfl, fun _ _ => rfl, rfl⟩
theorem fwM.trans {A B C : mM} (h : fwM A B) (g : fwM B C) : fwM A C := ⟨fun q a => (g.1 q a).trans (h.1 q a), fun k a => (g.2.1 k a).trans (h.2.1 k a), g.2.2.trans h.2.2⟩
theorem fwT.refl (T : mM) : fwT T T := ⟨fun _ _ _ => rfl, fun _ _ _ _ _ => rfl⟩
theorem fwT.trans {A B C : mM} (h : fwT A B) (g : fwT B C) : fwT A C := ⟨fun q a b => (g.1 q a b).trans (h.1 q a b), fun k a b c d => (g.2 k a b c d).trans (h.2 k a b c d)⟩
theorem frM.fw {st : Nat} {M M' : mM} (h : frM st M M') : fwM M M' := ⟨fun q a => h.1 q (by omega) (by omega) (by omega) (by omega) (by omega), h.2.1, h.2.2.1 9 (by omega)⟩
theorem frT.fw {sg : Nat} {T T' : mM} (h : frT sg T T') : fwT T T' := ⟨h.1, h.2.1⟩
theorem ftT.fw {T T' : mM} (h : ftT T T') : fwT T T' := (h.fr 0).fw
theorem fwM_at (M : mM) (v : Int32) : fwM M (wr M 33 7 v) := (frM_at 0 M v).fw
theorem fwT_5 (T : mM) (k : Nat) (v : Int32) : fwT T (wr T 5 k v) := ⟨fun q _ b => wr_q _ _ b, fun j _ _ _ _ => congrFun (wr_q _ _ (by omega)) j⟩
theorem fwT_w (T : mM) (v : Int32) : fwT T (wr T 0 11 v) := (frT_w 0 T v).fw
theorem taT_fw {M M' : mM} {b : Nat → Nat} {z w vc : Nat} (h : taT M b z w vc) (g : fwM M M') : taT M' b z w vc := by
  obtain ⟨a1, a2, a3, a4, a5, a6, a7, a8⟩ := h
  have e : ∀ q, q = 42 ∨ q = 44 ∨ q = 45 ∨ q = 46 → M' q = M q := fun q hq => g.1 q (by omega)
  refine ⟨a1, a2, a3, fun j hj => woT_keep (a4 j hj) (congrFun (e 44 (by omega)) j) (congrFun (e 45 (by omega)) j) (congrFun (e 46 (by omega)) j) (Nat.le_refl vc) (fun u _ => congrFun (e 42 (by omega)) u), a5, a6, g.2.2.trans a7, fun u h1 h2 => ?_⟩
  rw [e 42 (by omega)]
  exact a8 u h1 h2
theorem at_5 {T : mM} {b : Nat → Nat} {z i : Nat} (h : atT T b z i) (k : Nat) (v : Int32) : atT (wr T 5 k v) b z i := by
  obtain ⟨⟨h1, h1'⟩, h2, h3, h4⟩ := h
  have e : ∀ j, wr T 5 k v 0 j = T 0 j := fun j => congrFun (wr_q _ _ (by omega)) j
  exact ⟨⟨by rw [wr_q _ _ (by omega)]; exact h1, (e 5).trans h1'⟩, (e 11).trans h2, (e 8).trans h3, (e 9).trans h4⟩
theorem wn_5 {T : mM} {b : Nat → Nat} {z : Nat} (h : wnT T b z) (k : Nat) (v : Int32) : wnT (wr T 5 k v) b z := by
  obtain ⟨⟨h1, h1'⟩, h2, f, e, h8, h9, hf⟩ := h
  have g : ∀ j, wr T 5 k v 0 j = T 0 j := fun j => congrFun (wr_q _ _ (by omega)) j
  exact ⟨⟨by rw [wr_q _ _ (by omega)]; exact h1, (g 5).trans h1'⟩, (g 11).trans h2, f, e, (g 8).trans h8, (g 9).trans h9, hf⟩
/-- one rule of the drafts -/
def ruV (X : mM) (t : Nat → Int32) (vc r s0 s1 f0 f1 : Nat) : Prop := ∃ k d b : Nat, (k ≤ 5 ∧ d ≤ 2 ∧ b ≤ 99) ∧ (X 8 r = nI k ∧ X 9 r = nI (24 + d) ∧ X 10 r = nI b ∧ X 11 r = nI s1) ∧ (t (55 + 5 * r) = nI k ∧ t (56 + 5 * r) = nI d ∧ t (57 + 5 * r) = nI b ∧ t (58 + 5 * r) = nI f0 ∧ t (59 + 5 * r) = nI f1) ∧ (s0 ≤ s1 ∧ f0 ≤ f1) ∧ (okL X vc s0 (s1 - s0) 0 = some 1 ∨ s1 = s0) ∧ Seg t f0 (encL X s0 (s1 - s0)) ∧ f0 + (encL X s0 (s1 - s0)).length = f1
theorem ruV.keep {X X' : mM} {t t' : Nat → Int32} {vc r s0 s1 f0 f1 : Nat} (h : ruV X t vc r s0 s1 f0 f1) (h8 : X' 8 r = X 8 r ∧ X' 9 r = X 9 r ∧ X' 10 r = X 10 r ∧ X' 11 r = X 11 r) (h12 : ∀ j, j < s1 → X' 12 j = X 12 j ∧ X' 13 j = X 13 j ∧ X' 14 j = X 14 j) (h15 : X' 15 = X 15) (ht : ∀ j, 55 + 5 * r ≤ j → j ≤ 59 + 5 * r → t' j = t j) (hs : ∀ j, 95 + f0 ≤ j → j < 95 + f1 → t' j = t j) : ruV X' t' vc r s0 s1 f0 f1 := by
  obtain ⟨k, d, b, a, ⟨c1, c2, c3, c4⟩, ⟨e1, e2, e3, e4, e5⟩, f, g, i, j⟩ := h
  have eo : okL X' vc s0 (s1 - s0) 0 = okL X vc s0 (s1 - s0) 0 := okL_cong _ _ _ (fun j _ h2 => h12 j (by omega))
  have ee : encL X' s0 (s1 - s0) = encL X s0 (s1 - s0) := encL_cong h15 _ _ (fun j _ h2 => h12 j (by omega))
  refine ⟨k, d, b, a, ⟨h8.1.trans c1, h8.2.1.trans c2, h8.2.2.1.trans c3, h8.2.2.2.trans c4⟩, ⟨(ht _ (by omega) (by omega)).trans e1, (ht _ (by omega) (by omega)).trans e2, (ht _ (by omega) (by omega)).trans e3, (ht _ (by omega) (by omega)).trans e4, (ht _ (by omega) (by omega)).trans e5⟩, f, by rw [eo]; exact g, ?_, by rw [ee]; exact j⟩
  rw [ee]
  exact Seg_cong _ _ (fun k h1 h2 => hs k h1 (by omega)) i
def drR (M T : mM) (vc rc st sg : Nat) : Prop := ∃ se fr to : Nat → Nat, (rc ≤ 8 ∧ M 34 0 = nI rc ∧ T 5 7 = nI rc) ∧ se 0 = 0 ∧ se rc = st ∧ ∀ r, r < rc → ruV (drC M) (T 5) vc r (se r) (se (r + 1)) (fr r) (to r) ∧ se (r + 1) ≤ st ∧ to r ≤ sg
/-- where both stand between rules -/
def rsP (b : Nat → Nat) (z w vc i st sg rc : Nat) (M T : mM) : Prop := inP b z w vc i st sg 0 M T ∧ drR M T vc rc st sg
def rfP (b : Nat → Nat) (z w : Nat) (M' T' : mM) : Prop := ∃ i', i' ≤ w ∧ M' 33 7 = nI i' ∧ T' 0 8 = nI (plT b z i') ∧ T' 0 11 = 1
theorem kind_h {T : mM} {b : Nat → Nat} {z i : Nat} (h : atT T b z i) : fX12_kindHere T = some (if wdT b z i ≤ 5 then nI (wdT b z i) else -1) := by
  have w0 : fX12_isWord T 0 = some (bI (decide (wdT b z i = 0))) := isWord_at h (by omega)
  have w1 : fX12_isWord T 1 = some (bI (decide (wdT b z i = 1))) := isWord_at h (by omega)
  have w2 : fX12_isWord T 2 = some (bI (decide (wdT b z i = 2))) := isWord_at h (by omega)
  have w3 : fX12_isWord T 3 = some (bI (decide (wdT b z i = 3))) := isWord_at h (by omega)
  have w4 : fX12_isWord T 4 = some (bI (decide (wdT b z i = 4))) := isWord_at h (by omega)
  have w5 : fX12_isWord T 5 = some (bI (decide (wdT b z i = 5))) := isWord_at h (by omega)
  unfold fX12_kindHere fX12_kindHere_L40
  rw [b1_s w0, b1_s w1, b1_s w2, b1_s w3, b1_s w4, b1_s w5]
  simp only [bI_if, decide_eq_true_eq]
  generalize wdT b z i = c
  by_cases h0 : c = 0
  · rw [if_pos h0, h0]; rfl
  rw [if_neg h0]
  by_cases h1 : c = 1
  · rw [if_pos h1, h1]; rfl
  rw [if_neg h1]
  by_cases h2 : c = 2
  · rw [if_pos h2, h2]; rfl
  rw [if_neg h2, if_pos (by decide)]
  by_cases h3 : c = 3
  · rw [if_pos h3, h3]; rfl
  rw [if_neg h3]
  by_cases h4 : c = 4
  · rw [if_pos h4, h4]; rfl
  rw [if_neg h4]
  by_cases h5 : c = 5
  · rw [if_pos h5, h5]; rfl
  rw [if_neg h5, if_neg (show ¬ c ≤ 5 by omega)]
/-- a model gone wrong ends its rule -/
theorem wn_87 {T : mM} {b : Nat → Nat} {z a : Nat} (h : wnT T b z) (ha : a + 4 < 295) : ∃ T', fX12_rule_L87 T (nI a) = some (0, T') ∧ wnT T' b z ∧ T' 0 8 = T 0 8 ∧ fwT T T' := by
  have i4 : nI a + 4 = nI (a + 4) := nI_add a 4
  have i1 : nI a + 1 = nI (a + 1) := nI_1 a
  have i2 : nI a + 2 = nI (a + 2) := nI_2 a
  have W1 := wn_5 h (a + 4) (T 0 7)
  have W2 := wn_5 W1 (a + 1) 2
  have W3 := wn_5 W2 (a + 2) 0
  have W4 := wn_5 W3 7 (wr (wr (wr T 5 (a + 4) (T 0 7)) 5 (a + 1) 2) 5 (a + 2) 0 5 7 + 1)
  refine ⟨_, ?_, W4, ?_, (((fwT_5 T _ _).trans (fwT_5 _ _ _)).trans (fwT_5 _ _ _)).trans (fwT_5 _ _ _)⟩
  · unfold fX12_rule_L87 fX12_rule_L128 fX12_rule_L154 fX12_rule_L188
    simp only [i4, i1, i2, gx (show a + 4 < 295 by omega), gx (show a + 1 < 295 by omega), gx (show a + 2 < 295 by omega), tn_nI (show a + 4 < 2 ^ 31 by omega), tn_nI (show a + 1 < 2 ^ 31 by omega), tn_nI (show a + 2 < 2 ^ 31 by omega)]
    rw [b1_s (wn_word W1 15), if_pos rfl, b1_s (wn_word W1 16), if_pos rfl, if_neg (by decide), if_neg (by decide), b2_s (wn_wants W1 17), if_pos (by decide), b2_s (wn_wants W3 23), g7N, g7N, c7N]
  · rw [wr_q _ _ (by omega), wr_q _ _ (by omega), wr_q _ _ (by omega), wr_q _ _ (by omega)]
def adR (M : mM) (rc st : Nat) (k d b : Int32) : mM := wr (wr (wr (wr (wr M 35 rc k) 36 rc d) 37 rc b) 38 rc (nI st)) 34 0 (nI (rc + 1))
theorem addRule_at {M : mM} {rc st : Nat} (h0 : M 34 0 = nI rc) (hr : rc < 8) (h5 : M 34 5 = nI st) (k d b : Int32) : fX6_addRule_q34 M k d b = some (0, adR M rc st k d b) := by
  have g : ∀ {y : Option (Int32 × mM)}, gd (ix (nI rc) 8) y = y := gd_t (ix_nI hr (by omega))
  unfold fX6_addRule_q34 adR
  rw [h0, if_neg (show ¬ (8 : Int32) ≤ nI rc from nI_ge (b := 8) hr (by omega))]
  simp only [wr_q _ _ (show (34 : Nat) ≠ 35 by omega), wr_q _ _ (show (34 : Nat) ≠ 36 by omega), wr_q _ _ (show (34 : Nat) ≠ 37 by omega), wr_q _ _ (show (34 : Nat) ≠ 38 by omega), h0, h5, g, tn_nI (show rc < 2 ^ 31 by omega), nI_1]
theorem adR_at (M : mM) (rc st : Nat) (k d b : Int32) : (drC (adR M rc st k d b) 8 rc = k ∧ drC (adR M rc st k d b) 9 rc = d ∧ drC (adR M rc st k d b) 10 rc = b ∧ drC (adR M rc st k d b) 11 rc = nI st) ∧ (∀ r, r ≠ rc → drC (adR M rc st k d b) 8 r = drC M 8 r ∧ drC (adR M rc st k d b) 9 r = drC M 9 r ∧ drC (adR M rc st k d b) 10 r = drC M 10 r ∧ drC (adR M rc st k d b) 11 r = drC M 11 r) ∧ (∀ q, 12 ≤ q → drC (adR M rc st k d b) q = drC M q) ∧ adR M rc st k d b 34 0 = nI (rc + 1) ∧ adR M rc st k d b 34 5 = M 34 5 ∧ adR M rc st k d b 33 = M 33 ∧ fwM M (adR M rc st k d b) := by
  refine ⟨⟨?_, ?_, ?_, ?_⟩, fun r hr => ⟨?_, ?_, ?_, ?_⟩, fun q hq => ?_, wr_s _ _ _ _, ?_, ?_, fun q hq => ?_, fun j _ => ?_, ?_⟩
  · show adR M rc st k d b 35 rc = k
    unfold adR
    rw [wr_q _ _ (by omega), wr_q _ _ (by omega), wr_q _ _ (by omega), wr_q _ _ (by omega), wr_s]
  · show adR M rc st k d b 36 rc = d
    unfold adR
    rw [wr_q _ _ (by omega), wr_q _ _ (by omega), wr_q _ _ (by omega), wr_s]
  · show adR M rc st k d b 37 rc = b
    unfold adR
    rw [wr_q _ _ (by omega), wr_q _ _ (by omega), wr_s]
  · show adR M rc st k d b 38 rc = nI st
    unfold adR
    rw [wr_q _ _ (by omega), wr_s]
  · show adR M rc st k d b 35 r = M 35 r
    unfold adR
    rw [wr_q _ _ (by omega), wr_q _ _ (by omega), wr_q _ _ (by omega), wr_q _ _ (by omega), wr_k _ hr]
  · show adR M rc st k d b 36 r = M 36 r
    unfold adR
    rw [wr_q _ _ (by omega), wr_q _ _ (by omega), wr_q _ _ (by omega), wr_k _ hr, wr_q _ _ (by omega)]
  · show adR M rc st k d b 37 r = M 37 r
    unfold adR
    rw [wr_q _ _ (by omega), wr_q _ _ (by omega), wr_k _ hr, wr_q _ _ (by omega), wr_q _ _ (by omega)]
  · show adR M rc st k d b 38 r = M 38 r
    unfold adR
    rw [wr_q _ _ (by omega), wr_k _ hr, wr_q _ _ (by omega), wr_q _ _ (by omega), wr_q _ _ (by omega)]
  · show adR M rc st k d b (27 + q) = M (27 + q)
    unfold adR
    rw [wr_q _ _ (by omega), wr_q _ _ (by omega), wr_q _ _ (by omega), wr_q _ _ (by omega), wr_q _ _ (by omega)]
  · unfold adR
    rw [wr_k _ (by omega), wr_q _ _ (by omega), wr_q _ _ (by omega), wr_q _ _ (by omega), wr_q _ _ (by omega)]
  · unfold adR
    rw [wr_q _ _ (by omega), wr_q _ _ (by omega), wr_q _ _ (by omega), wr_q _ _ (by omega), wr_q _ _ (by omega)]
  · unfold adR
    rw [wr_q _ _ (by omega), wr_q _ _ (by omega), wr_q _ _ (by omega), wr_q _ _ (by omega), wr_q _ _ (by omega)]
  · unfold adR
    rw [wr_q _ _ (by omega), wr_q _ _ (by omega), wr_q _ _ (by omega), wr_q _ _ (by omega), wr_q _ _ (by omega)]
  · unfold adR
    rw [wr_k _ (by omega), wr_q _ _ (by omega), wr_q _ _ (by omega), wr_q _ _ (by omega), wr_q _ _ (by omega)]
/-- the end of a rule: what it does, by how much, and the sign behind it -/
theorem tailB {b : Nat → Nat} {z w vc rc k s0 f0 : Nat} {M T : mM} {i st sg : Nat} (hk : k ≤ 5) (hrc : rc < 8) (hta : taT M b z w vc) (m7 : M 33 7 = nI i) (m5 : M 34 5 = nI st) (hA : atT T b z i) (t7 : T 0 7 = nI sg) (t10 : T 0 10 = 0) (hi : i ≤ w ∧ st ≤ i ∧ sg ≤ i ∧ s0 ≤ st ∧ f0 ≤ sg)
    (se fr to : Nat → Nat) (h0 : M 34 0 = nI rc ∧ T 5 7 = nI rc) (hse : se 0 = 0 ∧ se rc = s0) (hold : ∀ r, r < rc → ruV (drC M) (T 5) vc r (se r) (se (r + 1)) (fr r) (to r) ∧ se (r + 1) ≤ s0 ∧ to r ≤ f0)
    (t55 : T 5 (55 + 5 * rc) = nI k) (t58 : T 5 (58 + 5 * rc) = nI f0) (hok : okL (drC M) vc s0 (st - s0) 0 = some 1 ∨ st = s0) (hseg : Seg (T 5) f0 (encL (drC M) s0 (st - s0))) (hlen : f0 + (encL (drC M) s0 (st - s0)).length = sg) :
    ∃ (r : Bool) (M' T' : mM), fX5_readRule_L50 M (nI k) = some (bI r, M') ∧ fX12_rule_L87 T (nI (55 + 5 * rc)) = some (0, T') ∧ fwM M M' ∧ fwT T T' ∧ (r = true → ∃ i', i < i' ∧ rsP b z w vc i' st sg (rc + 1) M' T') ∧ (r = false → rfP b z w M' T') := by
  have hw := hta.1
  have hvc := hta.2.2.2.2.2.1
  have i4 : nI (55 + 5 * rc) + 4 = nI (59 + 5 * rc) := by rw [show nI (55 + 5 * rc) + 4 = nI (55 + 5 * rc + 4) from nI_add _ 4]; congr 1; omega
  have i1 : nI (55 + 5 * rc) + 1 = nI (56 + 5 * rc) := by rw [nI_1]; congr 1; omega
  have i2 : nI (55 + 5 * rc) + 2 = nI (57 + 5 * rc) := by rw [nI_2]; congr 1; omega
  obtain ⟨x1, -, -⟩ := hta.2.2.2.1 i hi.1
  have x1' : M 44 i = nI (wdT b z i) := x1
  have hc42 : wdT b z i < 42 := cdT_lt b z _
  have gi : ∀ {x : Option (Int32 × mM)}, gd (ix (nI i) 201) x = x := gd_t (ix_nI (by omega) (by omega))
  have q44 : ∀ (v : Int32) (k : Nat), wr M 33 7 v 44 k = M 44 k := fun v k => congrFun (wr_q _ _ (by omega)) k
  have q46 : ∀ (v : Int32) (k : Nat), wr M 33 7 v 46 k = M 46 k := fun v k => congrFun (wr_q _ _ (by omega)) k
  have q42 : ∀ (v : Int32) (k : Nat), wr M 33 7 v 42 k = M 42 k := fun v k => congrFun (wr_q _ _ (by omega)) k
  -- the model: where the condition ends
  have A1 := at_5 hA (59 + 5 * rc) (nI sg)
  have w15 : fX12_isWord (wr T 5 (59 + 5 * rc) (nI sg)) 15 = some (bI (decide (wdT b z i = 24))) := isWord_at A1 (by omega)
  have w16 : fX12_isWord (wr T 5 (59 + 5 * rc) (nI sg)) 16 = some (bI (decide (wdT b z i = 25))) := isWord_at A1 (by omega)
  have HM : fX12_rule_L87 T (nI (55 + 5 * rc)) = if wdT b z i = 24 then fX12_rule_L154 (wr T 5 (59 + 5 * rc) (nI sg)) (nI (55 + 5 * rc)) 0 15 else if wdT b z i = 25 then fX12_rule_L154 (wr T 5 (59 + 5 * rc) (nI sg)) (nI (55 + 5 * rc)) 1 16 else fX12_rule_L154 (wr T 5 (59 + 5 * rc) (nI sg)) (nI (55 + 5 * rc)) 2 17 := by
    unfold fX12_rule_L87 fX12_rule_L128
    rw [i4, gx (by omega), tn_nI (by omega), t7, b1_s w15, b1_s w16]
    simp only [bI_if, decide_eq_true_eq]
    rfl
  by_cases hd : 24 ≤ wdT b z i ∧ wdT b z i ≤ 26
  · have hiw : i < w := wd_40 hta hi.1 (by omega)
    obtain ⟨d, hd2, ed⟩ : ∃ d, d ≤ 2 ∧ wdT b z i = 24 + d := ⟨wdT b z i - 24, by omega, by omega⟩
    have isin : ¬ fX11_isIn (nI (wdT b z i)) 24 26 = 0 := by
      rw [show fX11_isIn (nI (wdT b z i)) 24 26 = 1 from isIn_t (a := 24) (b := 26) hd.1 hd.2 (by omega)]
      decide
    have hcode : codeT (15 + d) = wdT b z i := by
      rw [ed]
      rcases (by omega : d = 0 ∨ d = 1 ∨ d = 2) with rfl | rfl | rfl <;> rfl
    obtain ⟨T2, n1, n2, n3⟩ := (wants_at (s := 15 + d) A1 (by omega)).1 hcode.symm
    have HM2 : fX12_rule_L87 T (nI (55 + 5 * rc)) = fX12_rule_L154 (wr T 5 (59 + 5 * rc) (nI sg)) (nI (55 + 5 * rc)) (nI d) (15 + d) := by
      rw [HM, ed]
      rcases (by omega : d = 0 ∨ d = 1 ∨ d = 2) with rfl | rfl | rfl
      · rw [if_pos rfl]; rfl
      · rw [if_neg (by omega), if_pos rfl]; rfl
      · rw [if_neg (by omega), if_neg (by omega)]; rfl
    have A3 := at_5 n3 (56 + 5 * rc) (nI d)
    -- by how much, once it is told: i2 is the place behind it
    have fin : ∀ (M2 T4 : mM) (by' i2' : Nat), by' ≤ 99 → i < i2' → i2' ≤ w → M2 = wr M 33 7 (nI i2') → atT T4 b z i2' → ftT (wr T2 5 (56 + 5 * rc) (nI d)) T4 → ∃ (r : Bool) (M' T' : mM), fX5_readRule_L150 M2 (nI k) (nI (wdT b z i)) (nI by') = some (bI r, M') ∧ fX12_rule_L188 T4 (nI (57 + 5 * rc)) (nI by') = some (0, T') ∧ fwM M M' ∧ fwT T T' ∧ (r = true → ∃ i', i < i' ∧ rsP b z w vc i' st sg (rc + 1) M' T') ∧ (r = false → rfP b z w M' T') := by
      intro M2 T4 by' i2' hby hi2 hi2w hM2 hA4 hT4
      have m20 : M2 34 0 = nI rc := by rw [hM2, wr_q _ _ (by omega)]; exact h0.1
      have m25 : M2 34 5 = nI st := by rw [hM2, wr_q _ _ (by omega)]; exact m5
      have hM2f : fwM M M2 := by rw [hM2]; exact fwM_at M _
      obtain ⟨⟨a1, a2, a3, a4⟩, a5, a6, a7, a8, a9, a10⟩ := adR_at M2 rc st (nI k) (nI (wdT b z i)) (nI by')
      have hta3 : taT (adR M2 rc st (nI k) (nI (wdT b z i)) (nI by')) b z w vc := taT_fw hta (hM2f.trans a10)
      have m37 : adR M2 rc st (nI k) (nI (wdT b z i)) (nI by') 33 7 = nI i2' := by rw [a9, hM2, wr_s]
      have gp := goPast_at (c := 36) hta3 m37 hi2w (by omega)
      have A5 := at_5 hA4 (57 + 5 * rc) (nI by')
      have H150 : fX5_readRule_L150 M2 (nI k) (nI (wdT b z i)) (nI by') = b2 (fX5_goPast (adR M2 rc st (nI k) (nI (wdT b z i)) (nI by')) 36) fun r25 M27 => some (r25, M27) := by
        unfold fX5_readRule_L150
        rw [b2_s (addRule_at m20 hrc m25 _ _ _)]
      have H188 : fX12_rule_L188 T4 (nI (57 + 5 * rc)) (nI by') = b2 (fX12_wants (wr T4 5 (57 + 5 * rc) (nI by')) 23) fun r42 M44 => some (0, wr M44 5 7 (M44 5 7 + 1)) := by
        unfold fX12_rule_L188
        simp only [gx (show 57 + 5 * rc < 295 by omega), tn_nI (show 57 + 5 * rc < 2 ^ 31 by omega), g7N, c7N]
      rw [H150, H188, show fX5_goPast (adR M2 rc st (nI k) (nI (wdT b z i)) (nI by')) 36 = _ from gp]
      have fT : fwT T (wr T4 5 (57 + 5 * rc) (nI by')) := ((((fwT_5 T (59 + 5 * rc) (nI sg)).trans n2.fw).trans (fwT_5 _ (56 + 5 * rc) (nI d))).trans hT4.fw).trans (fwT_5 _ _ _)
      by_cases e : wdT b z i2' = 36
      · have hi2w' : i2' < w := wd_40 hta3 hi2w (by omega)
        obtain ⟨T5, u1, u2, u3⟩ := (wants_at (s := 23) A5 (by omega)).1 e
        -- the model's row of rules
        have r5 : ∀ j, T5 5 j = if j = 57 + 5 * rc then nI by' else if j = 56 + 5 * rc then nI d else if j = 59 + 5 * rc then nI sg else T 5 j := fun j => by
          rw [u2.1 5 (by omega), wr_at, hT4.1 5 (by omega), wr_at, n2.1 5 (by omega), wr_at]
          simp only [true_and]
        have e57 : T5 5 7 = nI rc := by rw [r5, if_neg (by omega), if_neg (by omega), if_neg (by omega)]; exact h0.2
        have M5e : ∀ q, 12 ≤ q → drC (wr (adR M2 rc st (nI k) (nI (wdT b z i)) (nI by')) 33 7 (nI (i2' + 1))) q = drC M q := fun q hq => by
          show wr _ 33 7 _ (27 + q) = M (27 + q)
          rw [wr_q _ _ (by omega)]
          exact (a6 q hq).trans (by rw [hM2]; exact wr_q _ _ (by omega))
        have M5r : ∀ q r, 8 ≤ q → q ≤ 11 → drC (wr (adR M2 rc st (nI k) (nI (wdT b z i)) (nI by')) 33 7 (nI (i2' + 1))) q r = drC (adR M2 rc st (nI k) (nI (wdT b z i)) (nI by')) q r := fun q r h1 h2 => congrFun (wr_q _ _ (show 27 + q ≠ 33 by omega)) r
        have M2d : ∀ q, 8 ≤ q → drC M2 q = drC M q := fun q hq => by rw [hM2]; exact wr_q _ _ (by omega)
        refine ⟨true, wr (adR M2 rc st (nI k) (nI (wdT b z i)) (nI by')) 33 7 (nI (i2' + 1)), wr T5 5 7 (nI (rc + 1)), ?_, ?_, (hM2f.trans a10).trans (fwM_at _ _), (fT.trans u2.fw).trans (fwT_5 _ _ _), fun _ => ⟨i2' + 1, by omega, ⟨taT_fw hta3 (fwM_at _ _), ⟨wr_s _ _ _ _, ?_⟩, ⟨at_5 u3 7 _, ?_, ?_⟩, by omega, by omega, by omega⟩, fun j => if j = rc + 1 then st else se j, fun j => if j = rc then f0 else fr j, fun j => if j = rc then sg else to j, ⟨by omega, ?_, wr_s _ _ _ _⟩, ?_, if_pos rfl, fun r hr => ?_⟩, fun q => absurd q (by decide)⟩
        · rw [if_pos e, b2_s rfl]; rfl
        · rw [b2_s u1, e57, nI_1]
        · rw [wr_q _ _ (by omega), a8, m25]
        · rw [wr_q _ _ (by omega)]
          have := u2.2 7 (by omega) (by omega)
          rw [this, wr_q _ _ (by omega), hT4.2 7 (by omega) (by omega), wr_q _ _ (by omega), n2.2 7 (by omega) (by omega), wr_q _ _ (by omega)]
          exact t7
        · rw [wr_q _ _ (by omega)]
          have := u2.2 10 (by omega) (by omega)
          rw [this, wr_q _ _ (by omega), hT4.2 10 (by omega) (by omega), wr_q _ _ (by omega), n2.2 10 (by omega) (by omega), wr_q _ _ (by omega)]
          exact t10
        · rw [wr_q _ _ (by omega)]; exact a7
        · show (if 0 = rc + 1 then st else se 0) = 0
          rw [if_neg (by omega)]; exact hse.1
        · have T7 : ∀ j, j ≠ 7 → wr T5 5 7 (nI (rc + 1)) 5 j = T5 5 j := fun j hj => wr_k _ hj
          by_cases er : r = rc
          · subst er
            show ruV _ _ vc r (if r = r + 1 then st else se r) (if r + 1 = r + 1 then st else se (r + 1)) (if r = r then f0 else fr r) (if r = r then sg else to r) ∧ (if r + 1 = r + 1 then st else se (r + 1)) ≤ st ∧ (if r = r then sg else to r) ≤ sg
            rw [if_neg (show ¬ r = r + 1 by omega), if_pos rfl, if_pos rfl, if_pos rfl, hse.2]
            have eo : okL (drC (wr (adR M2 r st (nI k) (nI (wdT b z i)) (nI by')) 33 7 (nI (i2' + 1)))) vc s0 (st - s0) 0 = okL (drC M) vc s0 (st - s0) 0 := okL_cong _ _ _ (fun j _ _ => ⟨congrFun (M5e 12 (by omega)) j, congrFun (M5e 13 (by omega)) j, congrFun (M5e 14 (by omega)) j⟩)
            have ee : encL (drC (wr (adR M2 r st (nI k) (nI (wdT b z i)) (nI by')) 33 7 (nI (i2' + 1)))) s0 (st - s0) = encL (drC M) s0 (st - s0) := encL_cong (M5e 15 (by omega)) _ _ (fun j _ _ => ⟨congrFun (M5e 12 (by omega)) j, congrFun (M5e 13 (by omega)) j, congrFun (M5e 14 (by omega)) j⟩)
            refine ⟨⟨k, d, by', ⟨hk, hd2, hby⟩, ⟨?_, ?_, ?_, ?_⟩, ⟨?_, ?_, ?_, ?_, ?_⟩, ⟨hi.2.2.2.1, by omega⟩, by rw [eo]; exact hok, ?_, by rw [ee]; exact hlen⟩, Nat.le_refl st, Nat.le_refl sg⟩
            · rw [M5r 8 _ (by omega) (by omega)]; exact a1
            · rw [M5r 9 _ (by omega) (by omega), a2, ed]
            · rw [M5r 10 _ (by omega) (by omega)]; exact a3
            · rw [M5r 11 _ (by omega) (by omega)]; exact a4
            · rw [T7 _ (by omega), r5, if_neg (by omega), if_neg (by omega), if_neg (by omega)]; exact t55
            · rw [T7 _ (by omega), r5, if_neg (by omega), if_pos rfl]
            · rw [T7 _ (by omega), r5, if_pos rfl]
            · rw [T7 _ (by omega), r5, if_neg (by omega), if_neg (by omega), if_neg (by omega)]; exact t58
            · rw [T7 _ (by omega), r5, if_neg (by omega), if_neg (by omega), if_pos rfl]
            · rw [ee]
              exact Seg_cong _ _ (fun j h1 h2 => by rw [T7 _ (by omega), r5, if_neg (by omega), if_neg (by omega), if_neg (by omega)]) hseg
          · obtain ⟨o1, o2, o3⟩ := hold r (by omega)
            show ruV _ _ vc r (if r = rc + 1 then st else se r) (if r + 1 = rc + 1 then st else se (r + 1)) (if r = rc then f0 else fr r) (if r = rc then sg else to r) ∧ (if r + 1 = rc + 1 then st else se (r + 1)) ≤ st ∧ (if r = rc then sg else to r) ≤ sg
            rw [if_neg (show ¬ r = rc + 1 by omega), if_neg (show ¬ r + 1 = rc + 1 by omega), if_neg er, if_neg er]
            refine ⟨o1.keep ?_ (fun j _ => ⟨congrFun (M5e 12 (by omega)) j, congrFun (M5e 13 (by omega)) j, congrFun (M5e 14 (by omega)) j⟩) (M5e 15 (by omega)) (fun j h1 h2 => ?_) (fun j h1 h2 => ?_), by omega, by omega⟩
            · obtain ⟨y1, y2, y3, y4⟩ := a5 r er
              rw [M5r 8 _ (by omega) (by omega), M5r 9 _ (by omega) (by omega), M5r 10 _ (by omega) (by omega), M5r 11 _ (by omega) (by omega), y1, y2, y3, y4, M2d 8 (by omega), M2d 9 (by omega), M2d 10 (by omega), M2d 11 (by omega)]
              exact ⟨rfl, rfl, rfl, rfl⟩
            · rw [T7 _ (by omega), r5, if_neg (by omega), if_neg (by omega), if_neg (by omega)]
            · rw [T7 _ (by omega), r5, if_neg (by omega), if_neg (by omega), if_neg (by omega)]
      · have W := A5.wn
        have hno := (wants_at (s := 23) A5 (by omega)).2 e
        have W7 := wn_5 W.1 7 (wr (wr T4 5 (57 + 5 * rc) (nI by')) 0 11 1 5 7 + 1)
        refine ⟨false, _, _, ?_, ?_, hM2f.trans a10, (fT.trans (fwT_w _ 1)).trans (fwT_5 _ 7 _), fun q => absurd q (by decide), fun _ => ⟨i2', hi2w, m37, ?_, W7.2.1⟩⟩
        · rw [if_neg e, b2_s rfl]; rfl
        · rw [b2_s hno]
        · rw [wr_q _ _ (by omega)]; exact W.2
    have HC0 : ∀ (h26 : wdT b z i = 26), fX5_readRule_L50 M (nI k) = fX5_readRule_L150 (wr M 33 7 (nI (i + 1))) (nI k) (nI (wdT b z i)) (nI 0) := fun h26 => by
      unfold fX5_readRule_L50
      simp only [m7, gi, tn_nI (show i < 2 ^ 31 by omega), x1', nI_1]
      rw [if_neg isin, if_pos (by rw [h26]; rfl)]
      rfl
    have H154 : fX12_rule_L87 T (nI (55 + 5 * rc)) = if 2 ≤ nI d then fX12_rule_L188 (wr T2 5 (56 + 5 * rc) (nI d)) (nI (57 + 5 * rc)) 0 else (b2 (fX12_number (wr T2 5 (56 + 5 * rc) (nI d)) 99) fun r37 M39 => (fX12_rule_L188 M39 (nI (57 + 5 * rc)) r37)) := by
      rw [HM2]
      unfold fX12_rule_L154
      rw [b2_s n1, i1, gx (by omega), tn_nI (by omega), i2]
    by_cases d2 : d = 2
    · subst d2
      obtain ⟨r, M', T', c1, c2, c3⟩ := fin (wr M 33 7 (nI (i + 1))) (wr T2 5 (56 + 5 * rc) (nI 2)) 0 (i + 1) (by omega) (by omega) (by omega) rfl A3 (ftT.refl _)
      refine ⟨r, M', T', ?_, ?_, c3⟩
      · rw [HC0 (by omega)]; exact c1
      · rw [H154, if_pos (by decide)]; exact c2
    · have hnd : ¬ (2 : Int32) ≤ nI d := nI_ge (b := 2) (by omega) (by omega)
      have n26 : ¬ nI (wdT b z i) = 26 := fun q => by have := (nI_eq (b := 26) (by omega) (by omega)).mp q; omega
      obtain ⟨y1, -, y3⟩ := hta.2.2.2.1 (i + 1) (by omega)
      have y1' : M 44 (i + 1) = nI (wdT b z (i + 1)) := y1
      have y42 : wdT b z (i + 1) < 42 := cdT_lt b z _
      have gi1 : ∀ {x : Option (Int32 × mM)}, gd (ix (nI (i + 1)) 201) x = x := gd_t (ix_nI (by omega) (by omega))
      have h30n : wdT b z (i + 1) = 30 → nbT b z (plT b z (i + 1)) ≤ 9999 ∧ ∃ u, u < vc ∧ M 46 (i + 1) = nI u ∧ M 42 u = nI (nbT b z (plT b z (i + 1))) := fun e => by
        have e' : cdT b z (plT b z (i + 1)) = 30 := e
        rw [e'] at y3
        rcases y3 with ⟨q1, q2, -⟩ | ⟨-, q2, u, q3, q4, q5, q6⟩ | ⟨-, q2, -⟩
        · omega
        · exact ⟨q2, u, q4, q5, q6⟩
        · exact absurd rfl q2
      have nm := number_at (most := 99) A3 (by omega) (fun e => (h30n e).1)
      have HC1 : fX5_readRule_L50 M (nI k) = if nI (wdT b z (i + 1)) = 30 then gd (ix (M 46 (i + 1)) 205) (fX5_readRule_L127 (wr M 33 7 (nI (i + 1))) (nI k) (nI (wdT b z i)) (M 42 (Int32.toNatClampNeg (M 46 (i + 1))))) else fX5_readRule_L127 (wr M 33 7 (nI (i + 1))) (nI k) (nI (wdT b z i)) (-3) := by
        unfold fX5_readRule_L50
        simp only [m7, gi, gi1, tn_nI (show i < 2 ^ 31 by omega), tn_nI (show i + 1 < 2 ^ 31 by omega), x1', nI_1, wr_s, q44, q46, q42, y1']
        rw [if_neg isin, if_neg n26]
      rw [HC1, H154, if_neg hnd]
      by_cases e : wdT b z (i + 1) = 30 ∧ nbT b z (plT b z (i + 1)) ≤ 99
      · obtain ⟨u1, u, u2, u3, u4⟩ := h30n e.1
        have hi1 : i + 1 < w := wd_40 hta (by omega) (by omega)
        obtain ⟨T4, v1, v2, v3⟩ := nm.1 e
        obtain ⟨r, M', T', c1, c2, c3⟩ := fin (wr M 33 7 (nI (i + 1 + 1))) T4 (nbT b z (plT b z (i + 1))) (i + 1 + 1) e.2 (by omega) (by omega) rfl v3 v2
        refine ⟨r, M', T', ?_, ?_, c3⟩
        · unfold fX5_readRule_L127
          rw [if_pos (by rw [e.1]; rfl), u3, gd_t (ix_nI (by omega) (by omega)), tn_nI (by omega), u4, if_neg (by rw [show fX11_isIn (nI (nbT b z (plT b z (i + 1)))) 0 99 = 1 from isIn_t (a := 0) (b := 99) (by omega) e.2 (by omega)]; decide), wr_s, nI_1, wr_wr]
          exact c1
        · rw [b2_s (show fX12_number (wr T2 5 (56 + 5 * rc) (nI d)) 99 = _ from v1)]; exact c2
      · obtain ⟨v, hv⟩ := nm.2 e
        have W := A3.wn
        have W2 := wn_5 W.1 (57 + 5 * rc) v
        have W3 := wn_5 W2 7 (wr (wr (wr T2 5 (56 + 5 * rc) (nI d)) 0 11 1) 5 (57 + 5 * rc) v 5 7 + 1)
        have fT : fwT T (wr (wr T2 5 (56 + 5 * rc) (nI d)) 0 11 1) := (((fwT_5 T (59 + 5 * rc) (nI sg)).trans n2.fw).trans (fwT_5 _ (56 + 5 * rc) (nI d))).trans (fwT_w _ 1)
        refine ⟨false, wr M 33 7 (nI (i + 1)), _, ?_, ?_, fwM_at M _, (fT.trans (fwT_5 _ (57 + 5 * rc) v)).trans (fwT_5 _ 7 _), fun q => absurd q (by decide), fun _ => ⟨i + 1, by omega, wr_s _ _ _ _, ?_, W3.2.1⟩⟩
        · unfold fX5_readRule_L127
          by_cases e30 : wdT b z (i + 1) = 30
          · obtain ⟨u1, u, u2, u3, u4⟩ := h30n e30
            have n99 : ¬ nbT b z (plT b z (i + 1)) ≤ 99 := fun q => e ⟨e30, q⟩
            have z0 : fX11_isIn (nI (nbT b z (plT b z (i + 1)))) 0 99 = 0 := by
              rw [isIn_eq, if_neg]
              intro q
              exact n99 ((nI_leI (b := 99) (by omega) (by omega)).mp q.2)
            rw [if_pos (by rw [e30]; rfl), u3, gd_t (ix_nI (by omega) (by omega)), tn_nI (by omega), u4, if_pos z0]
            rfl
          · rw [if_neg (show ¬ nI (wdT b z (i + 1)) = 30 from fun q => e30 ((nI_eq (b := 30) (by omega) (by omega)).mp q)), if_pos (by decide)]
            rfl
        · rw [b2_s (show fX12_number (wr T2 5 (56 + 5 * rc) (nI d)) 99 = _ from hv)]
          unfold fX12_rule_L188
          rw [gx (by omega), tn_nI (by omega), b2_s (wn_wants W2 23), g7N, g7N, c7N]
        · rw [wr_q _ _ (by omega), wr_q _ _ (by omega)]; exact W.2
  · -- nothing of what a rule may do
    have isin : fX11_isIn (nI (wdT b z i)) 24 26 = 0 := by
      rw [isIn_eq, if_neg]
      intro q
      exact hd ⟨(nI_leI (a := 24) (by omega) (by omega)).mp q.1, (nI_leI (b := 26) (by omega) (by omega)).mp q.2⟩
    have hno := (wants_at (s := 17) A1 (by omega)).2 (fun q => hd (by
      have : wdT b z i = 26 := q
      omega))
    have W := A1.wn
    have W1 := wn_5 W.1 (56 + 5 * rc) 2
    have W2 := wn_5 W1 (57 + 5 * rc) 0
    have W3 := wn_5 W2 7 (wr (wr (wr (wr T 5 (59 + 5 * rc) (nI sg)) 0 11 1) 5 (56 + 5 * rc) 2) 5 (57 + 5 * rc) 0 5 7 + 1)
    refine ⟨false, M, _, ?_, ?_, fwM.refl M, ((((fwT_5 T (59 + 5 * rc) (nI sg)).trans (fwT_w _ 1)).trans (fwT_5 _ (56 + 5 * rc) 2)).trans (fwT_5 _ (57 + 5 * rc) 0)).trans (fwT_5 _ 7 _), fun q => absurd q (by decide), fun _ => ⟨i, hi.1, m7, ?_, W3.2.1⟩⟩
    · unfold fX5_readRule_L50
      simp only [m7, gi, tn_nI (show i < 2 ^ 31 by omega), x1']
      rw [if_pos isin]
      rfl
    · rw [HM, if_neg (by omega), if_neg (by omega)]
      unfold fX12_rule_L154 fX12_rule_L188
      rw [b2_s hno, i1, gx (by omega), tn_nI (by omega), if_pos (by decide), i2, gx (by omega), tn_nI (by omega), b2_s (wn_wants W2 23), g7N, g7N, c7N]
    · rw [wr_q _ _ (by omega), wr_q _ _ (by omega), wr_q _ _ (by omega)]; exact W.2
