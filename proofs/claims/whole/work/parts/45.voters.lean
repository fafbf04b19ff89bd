/-! SETS of those awake as numbers; calls that change a VOTER -/
def onS (a n : Nat) : Nat := if a / 2 ^ n % 2 = 1 then a else a + 2 ^ n
def offS (a n : Nat) : Nat := if a / 2 ^ n % 2 = 1 then a - 2 ^ n else a
def flipS (a n : Nat) : Nat := if a / 2 ^ n % 2 = 1 then a - 2 ^ n else a + 2 ^ n
set_option maxRecDepth 100000 in
theorem bit_or : ∀ n, n < 7 → ∀ a, a < 128 → (nI a ||| ((1 : Int32) <<< (nI n &&& 31))) = nI (onS a n) := by decide +kernel
set_option maxRecDepth 100000 in
theorem bit_andn : ∀ n, n < 7 → ∀ a, a < 128 → (nI a &&& (((1 : Int32) <<< (nI n &&& 31)) ^^^ (-1))) = nI (offS a n) := by decide +kernel
set_option maxRecDepth 100000 in
theorem bit_xor : ∀ n, n < 7 → ∀ a, a < 128 → (nI a ^^^ ((1 : Int32) <<< (nI n &&& 31))) = nI (flipS a n) := by decide +kernel
set_option maxRecDepth 100000 in
theorem bit_at : ∀ n, n < 7 → ∀ a, a < 128 → ((nI a >>> (nI n &&& 31)) &&& 1) = nI (a / 2 ^ n % 2) := by decide +kernel
set_option maxRecDepth 100000 in
theorem bit_cnt : ∀ a, a < 128 → fJ6_bitCount_0f7a4C (nI a) = nI (cntS 7 a) := by decide +kernel
set_option maxRecDepth 100000 in
theorem on_bit : ∀ n, n < 7 → ∀ a, a < 128 → (∀ p, p < 7 → onS a n / 2 ^ p % 2 = if p = n then 1 else a / 2 ^ p % 2) ∧ (∀ m, m < 8 → n < m → a < 2 ^ m → onS a n < 2 ^ m) := by decide +kernel
set_option maxRecDepth 100000 in
theorem off_bit : ∀ n, n < 7 → ∀ a, a < 128 → (∀ p, p < 7 → offS a n / 2 ^ p % 2 = if p = n then 0 else a / 2 ^ p % 2) ∧ (∀ m, m < 8 → n < m → a < 2 ^ m → offS a n < 2 ^ m) := by decide +kernel
set_option maxRecDepth 100000 in
theorem flip_bit : ∀ n, n < 7 → ∀ a, a < 128 → (∀ p, p < 7 → flipS a n / 2 ^ p % 2 = if p = n then 1 - a / 2 ^ p % 2 else a / 2 ^ p % 2) ∧ (∀ m, m < 8 → n < m → a < 2 ^ m → flipS a n < 2 ^ m) := by decide +kernel
theorem pow_le7 {n aw : Nat} (h : n ≤ 7) (ha : aw < 2 ^ n) : aw < 128 :=
  Nat.lt_of_lt_of_le ha (Nat.pow_le_pow_right (by omega) h)
theorem Rs_cl (M : mM) : Rs (cl63 M) := by
  intro h set h1 h2
  refine Or.inl ?_
  show va_up M 63 _ 63 (h * 128 + set) = _
  rw [va_up_self, if_pos (by omega)]
theorem cl_ne {M : mM} {q : Nat} (h : q ≠ 63) : cl63 M q = M q := va_up_ne _ _ h
theorem Rel.cl {M T M' T' : mM} (hR : Rel M T) (h1 : Rp (nowC M') (T' 1)) (hc : keepC M M') (hr : keepR T T') : Rel (cl63 M') T' :=
  hR.now (Rp_eq (fun q hq => cl_ne (by omega)) h1) (Rs_cl M') ⟨(cl_ne (by omega)).trans hc.1, fun q h1 h2 => (cl_ne (by omega)).trans (hc.2.1 q h1 h2), (cl_ne (by omega)).trans hc.2.2⟩ hr
theorem Rp_vot {X X' : mM} {t t' : Nat → Int32} (hp : Rp X t) (hq : ∀ q, 5 ≤ q → q ≤ 15 → X' q = X q) (h11 : X' 0 11 = X 0 11) (ht : ∀ k, k = 6 ∨ k = 7 ∨ 43 ≤ k → t' k = t k) (hv : ∃ n aw h no li la : Nat, Rv X' t' n aw h no li la) : Rp X' t' := by
  obtain ⟨-, ⟨rp, d1, d2, d3, d4⟩, hl⟩ := hp
  refine ⟨hv, ⟨rp, d1, h11.trans d2, (ht 6 (by omega)).trans d3, fun k hk => ?_⟩, Rl_eq (fun q h1 h2 => hq q (by omega) h2) (fun k h _ => ht k (by omega)) hl⟩
  obtain ⟨a, b, x1, x2, x3, x4, x5, x6⟩ := d4 k hk
  exact ⟨a, b, x1, x2, by rw [hq 5 (by omega) (by omega)]; exact x3, by rw [hq 6 (by omega) (by omega)]; exact x4, by rw [ht _ (by omega)]; exact x5, by rw [ht _ (by omega)]; exact x6⟩
-- the place of what a voter has in the model's row
theorem itsix (p j : Nat) : (8 : Int32) + 5 * nI p + nI j = nI (8 + 5 * p + j) := by
  rw [show (5 : Int32) * nI p = nI (5 * p) from pk_mul 5 p, show (8 : Int32) + nI (5 * p) = nI (8 + 5 * p) from nI_add 8 _, nI_add]
theorem itsix0 (p : Nat) : (8 : Int32) + 5 * nI p = nI (8 + 5 * p) := by
  rw [show (5 : Int32) * nI p = nI (5 * p) from pk_mul 5 p, show (8 : Int32) + nI (5 * p) = nI (8 + 5 * p) from nI_add 8 _]
theorem its_at (T : mM) {p j : Nat} (hp : p < 7) (hj : j < 5) : fX12_its T (nI p) (nI j) = some (T 1 (8 + 5 * p + j)) := by
  unfold fX12_its
  rw [itsix, gx (by omega), tn_nI (by omega)]
theorem sets_at (T : mM) {p j : Nat} (hp : p < 7) (hj : j < 5) (v : Int32) : fX12_sets T (nI p) (nI j) v = some (0, wr T 1 (8 + 5 * p + j) v) := by
  unfold fX12_sets
  rw [itsix, gx (by omega), tn_nI (by omega)]
theorem voter_eq {M T : mM} {n : Nat} (h1 : M 1 0 = nI n) (h2 : T 1 0 = nI n) (hn : n ≤ 7) (v : Int32) : fX12_isVoter T v = some (fX11_isVoter M v) := by
  unfold fX12_isVoter fX11_isVoter
  show some (fX12_in (Int32.toInt64 v) 0 (Int32.toInt64 (T 1 0 - 1))) = _
  rw [h2, in_pred v n (by omega), h1]
theorem voter_yes {M : mM} {n : Nat} (h1 : M 1 0 = nI n) {v : Int32} (h : ¬ fX11_isVoter M v = 0) : ∃ p, p < n ∧ v = nI p := by
  unfold fX11_isVoter at h
  rw [h1] at h
  by_cases g1 : v < 0
  · rw [if_pos g1] at h; exact absurd rfl h
  · rw [if_neg g1] at h
    by_cases g2 : nI n ≤ v
    · rw [if_pos g2] at h; exact absurd rfl h
    · obtain ⟨p, hp, rfl⟩ := nI_of g1
      refine ⟨p, ?_, rfl⟩
      rcases Nat.lt_or_ge p n with z | z
      · exact z
      · exact absurd (nI_le z hp) g2
theorem suits_eq (w v : Int32) : fX12_mayBe w v = fX11_suits w v := by
  unfold fX12_mayBe fX11_suits
  rw [isHour_eq, show fX12_in (Int32.toInt64 v) 1 9 = fX11_isIn v 1 9 from in_eq v 1 9, show fX12_in (Int32.toInt64 v) 0 99 = fX11_isIn v 0 99 from in_eq v 0 99]
  by_cases h1 : w = 1
  · simp only [if_pos h1]
  · simp only [if_neg h1]
    by_cases h2 : w = 2
    · simp only [if_pos h2]
    · simp only [if_neg h2]
      by_cases h3 : w = 3
      · simp only [if_pos h3]
        by_cases h4 : fX11_isIn v 0 99 = 0
        · rw [if_pos h4, h4]
        · rw [if_neg h4]
          rw [isIn_eq] at h4 ⊢
          split
          · rfl
          · next z => rw [if_neg z] at h4; exact absurd rfl h4
      · simp only [if_neg h3]
/-- what a trait may be -/
def okT (j m : Nat) : Prop := (j = 0 ∧ 1 ≤ m ∧ m ≤ 5) ∨ (j = 1 ∧ m < 24) ∨ (j = 2 ∧ 1 ≤ m ∧ m ≤ 9) ∨ (j = 3 ∧ m ≤ 99)
theorem suits_yes {w v : Int32} (h : ¬ fX11_suits w v = 0) : ∃ j m : Nat, 1 ≤ j ∧ okT j m ∧ w = nI j ∧ v = nI m := by
  unfold fX11_suits at h
  by_cases h1 : w = 1
  · rw [if_pos h1] at h
    obtain ⟨m, hm, rfl⟩ := isHour_yes h
    exact ⟨1, m, by omega, Or.inr (Or.inl ⟨rfl, hm⟩), h1, rfl⟩
  · rw [if_neg h1] at h
    by_cases h2 : w = 2
    · rw [if_pos h2] at h
      obtain ⟨m, hm, hm', rfl⟩ := isIn_yes (a := 1) (b := 9) (by omega) (by omega) h
      exact ⟨2, m, by omega, Or.inr (Or.inr (Or.inl ⟨rfl, hm, hm'⟩)), h2, rfl⟩
    · rw [if_neg h2] at h
      by_cases h3 : w = 3
      · rw [if_pos h3] at h
        obtain ⟨m, hm, hm', rfl⟩ := isIn_yes (a := 0) (b := 99) (by omega) (by omega) h
        exact ⟨3, m, by omega, Or.inr (Or.inr (Or.inr ⟨rfl, hm'⟩)), h3, rfl⟩
      · rw [if_neg h3] at h; exact absurd rfl h
/-- a trait of a voter is set, on both sides -/
theorem Rel.trait {M T : mM} (hR : Rel M T) {n p j m : Nat} (hn : M 1 0 = nI n) (h7 : n ≤ 7) (hp : p < n) (ho : okT j m) : Rel (cl63 (wr M (2 + j) p (nI m))) (wr T 1 (8 + 5 * p + j) (nI m)) ∧ T 1 (8 + 5 * p + j) = M (2 + j) p := by
  obtain ⟨⟨n', aw, h, no, li, la, a, b, c, hv⟩, h2, h3⟩ := id hR.1
  have en : n' = n := (nI_eq (by omega) (by omega)).mp (b.1.symm.trans hn)
  subst en
  have hj : j < 4 := by rcases ho with z | z | z | z <;> omega
  have e0 : ∀ q, q ≠ 1 + j → nowC (wr M (2 + j) p (nI m)) q = nowC M q := fun q hq => wr_q _ _ (by omega)
  refine ⟨hR.cl (Rp_vot hR.1 (fun q h1 h2 => e0 q (by omega)) (by rw [e0 0 (by omega)]) (fun k hk => wr_k _ (by omega)) ⟨n', aw, h, no, li, la, a, ?_, ?_, fun p' hp' => ?_⟩) ⟨wr_q _ _ (by omega), fun q _ _ => wr_q _ _ (by omega), wr_q _ _ (by omega)⟩ (keepR_wr1 T _ _), ?_⟩
  · rw [e0 0 (by omega)]; exact b
  · rw [wr_k _ (by omega), wr_k _ (by omega), wr_k _ (by omega), wr_k _ (by omega), wr_k _ (by omega), wr_k _ (by omega), e0 0 (by omega)]; exact c
  · obtain ⟨k, w, g, c', x1, ⟨y1, y2, y3, y4⟩, z1, z2, z3, z4, z5⟩ := hv p' hp'
    rcases ho with ⟨rfl, o⟩ | ⟨rfl, o⟩ | ⟨rfl, o⟩ | ⟨rfl, o⟩
    · refine ⟨if p' = p then m else k, w, g, c', ⟨by split <;> omega, by split <;> omega, x1.2.2⟩, ⟨?_, ?_, ?_, ?_⟩, ?_, ?_, ?_, ?_, ?_⟩
      · show wr M 2 p (nI m) 2 p' = _
        rw [wr_at]; by_cases z : p' = p
        · rw [if_pos ⟨rfl, z⟩, if_pos z]
        · rw [if_neg (fun y => z y.2), if_neg z]; exact y1
      · rw [e0 2 (by omega)]; exact y2
      · rw [e0 3 (by omega)]; exact y3
      · rw [e0 4 (by omega)]; exact y4
      · rw [wr_at]; by_cases z : p' = p
        · rw [if_pos ⟨rfl, by omega⟩, if_pos z]
        · rw [if_neg (fun y => z (by omega)), if_neg z]; exact z1
      · rw [wr_k _ (by omega)]; exact z2
      · rw [wr_k _ (by omega)]; exact z3
      · rw [wr_k _ (by omega)]; exact z4
      · rw [wr_k _ (by omega)]; exact z5
    · refine ⟨k, if p' = p then m else w, g, c', ⟨x1.1, x1.2.1, by split <;> omega, x1.2.2.2⟩, ⟨?_, ?_, ?_, ?_⟩, ?_, ?_, ?_, ?_, ?_⟩
      · rw [e0 1 (by omega)]; exact y1
      · show wr M 3 p (nI m) 3 p' = _
        rw [wr_at]; by_cases z : p' = p
        · rw [if_pos ⟨rfl, z⟩, if_pos z]
        · rw [if_neg (fun y => z y.2), if_neg z]; exact y2
      · rw [e0 3 (by omega)]; exact y3
      · rw [e0 4 (by omega)]; exact y4
      · rw [wr_k _ (by omega)]; exact z1
      · rw [wr_at]; by_cases z : p' = p
        · rw [if_pos ⟨rfl, by omega⟩, if_pos z]
        · rw [if_neg (fun y => z (by omega)), if_neg z]; exact z2
      · rw [wr_k _ (by omega)]; exact z3
      · rw [wr_k _ (by omega)]; exact z4
      · rw [wr_k _ (by omega)]; exact z5
    · refine ⟨k, w, if p' = p then m else g, c', ⟨x1.1, x1.2.1, x1.2.2.1, by split <;> omega, by split <;> omega, x1.2.2.2.2.2⟩, ⟨?_, ?_, ?_, ?_⟩, ?_, ?_, ?_, ?_, ?_⟩
      · rw [e0 1 (by omega)]; exact y1
      · rw [e0 2 (by omega)]; exact y2
      · show wr M 4 p (nI m) 4 p' = _
        rw [wr_at]; by_cases z : p' = p
        · rw [if_pos ⟨rfl, z⟩, if_pos z]
        · rw [if_neg (fun y => z y.2), if_neg z]; exact y3
      · rw [e0 4 (by omega)]; exact y4
      · rw [wr_k _ (by omega)]; exact z1
      · rw [wr_k _ (by omega)]; exact z2
      · rw [wr_at]; by_cases z : p' = p
        · rw [if_pos ⟨rfl, by omega⟩, if_pos z]
        · rw [if_neg (fun y => z (by omega)), if_neg z]; exact z3
      · rw [wr_k _ (by omega)]; exact z4
      · rw [wr_k _ (by omega)]; exact z5
    · refine ⟨k, w, g, if p' = p then m else c', ⟨x1.1, x1.2.1, x1.2.2.1, x1.2.2.2.1, x1.2.2.2.2.1, by split <;> omega⟩, ⟨?_, ?_, ?_, ?_⟩, ?_, ?_, ?_, ?_, ?_⟩
      · rw [e0 1 (by omega)]; exact y1
      · rw [e0 2 (by omega)]; exact y2
      · rw [e0 3 (by omega)]; exact y3
      · show wr M 5 p (nI m) 5 p' = _
        rw [wr_at]; by_cases z : p' = p
        · rw [if_pos ⟨rfl, z⟩, if_pos z]
        · rw [if_neg (fun y => z y.2), if_neg z]; exact y4
      · rw [wr_k _ (by omega)]; exact z1
      · rw [wr_k _ (by omega)]; exact z2
      · rw [wr_k _ (by omega)]; exact z3
      · rw [wr_at]; by_cases z : p' = p
        · rw [if_pos ⟨rfl, by omega⟩, if_pos z]
        · rw [if_neg (fun y => z (by omega)), if_neg z]; exact z4
      · rw [wr_k _ (by omega)]; exact z5
  · obtain ⟨k, w, g, c', x1, ⟨y1, y2, y3, y4⟩, z1, z2, z3, z4, z5⟩ := hv p hp
    rcases ho with ⟨rfl, o⟩ | ⟨rfl, o⟩ | ⟨rfl, o⟩ | ⟨rfl, o⟩
    · exact z1.trans y1.symm
    · exact (show T 1 (8 + 5 * p + 1) = nI w by rw [show 8 + 5 * p + 1 = 9 + 5 * p by omega]; exact z2).trans y2.symm
    · exact (show T 1 (8 + 5 * p + 2) = nI g by rw [show 8 + 5 * p + 2 = 10 + 5 * p by omega]; exact z3).trans y3.symm
    · exact (show T 1 (8 + 5 * p + 3) = nI c' by rw [show 8 + 5 * p + 3 = 11 + 5 * p by omega]; exact z4).trans y4.symm
theorem pm_change {M T : mM} (hR : Rel M T) (a0 : Int32) (a1 : Int32) (a2 : Int32) : ∃ (r : Int32) (M' : mM) (T' : mM), fX11_change M a0 a1 a2 = some (r, M') ∧ fX12_change T a0 a1 a2 = some (r, T') ∧ Rel M' T' := by
  obtain ⟨⟨n, n1, n2, n3⟩, -⟩ := Rp_vals hR.1
  unfold fX11_change fX12_change
  rw [b1_s (voter_eq (M := M) n2 n3 n1 a0), suits_eq]
  by_cases h : fX11_isVoter M a0 = 0
  · exact ⟨-1, M, T, by rw [if_pos h], by rw [if_pos h], hR⟩
  · rw [if_neg h, if_neg h]
    by_cases h' : fX11_suits a1 a2 = 0
    · exact ⟨-1, M, T, by rw [if_pos h'], by rw [if_pos h'], hR⟩
    · rw [if_neg h', if_neg h']
      obtain ⟨p, hp, rfl⟩ := voter_yes n2 h
      obtain ⟨j, m, hj, ho, rfl, rfl⟩ := suits_yes h'
      obtain ⟨r1, r2⟩ := hR.trait n2 n1 hp ho
      refine ⟨M (2 + j) p, _, _, ?_, ?_, r1⟩
      · rcases ho with ⟨rfl, o⟩ | ⟨rfl, o⟩ | ⟨rfl, o⟩ | ⟨rfl, o⟩
        · omega
        · rw [if_pos (show nI 1 = 1 from rfl)]
          unfold fX11_change_L55_2
          rw [gd_t (ix_nI (by omega) (by omega)), gd_t (ix_nI (by omega) (by omega)), tn_nI (by omega), b2_s (p_forgetSums _)]
        · rw [if_neg (by decide), if_pos (show nI 2 = 2 from rfl)]
          unfold fX11_change_L55_1
          rw [gd_t (ix_nI (by omega) (by omega)), gd_t (ix_nI (by omega) (by omega)), tn_nI (by omega), b2_s (p_forgetSums _)]
        · rw [if_neg (by decide), if_neg (by decide)]
          unfold fX11_change_L55
          rw [gd_t (ix_nI (by omega) (by omega)), gd_t (ix_nI (by omega) (by omega)), tn_nI (by omega), b2_s (p_forgetSums _)]
      · have hj4 : j < 4 := by rcases ho with z | z | z | z <;> omega
        rw [itsix, b2_s (becomes_at T (8 + 5 * p + j) (nI m) (by omega)), r2]
theorem pm_remake {M T : mM} (hR : Rel M T) (a0 : Int32) (a1 : Int32) : ∃ (r : Int32) (M' : mM) (T' : mM), fX11_remake M a0 a1 = some (r, M') ∧ fX12_remake T a0 a1 = some (r, T') ∧ Rel M' T' := by
  obtain ⟨⟨n, n1, n2, n3⟩, -⟩ := Rp_vals hR.1
  unfold fX11_remake fX12_remake fX12_isKind
  rw [b1_s (voter_eq (M := M) n2 n3 n1 a0), show fX12_in (Int32.toInt64 a1) 1 5 = fX11_isIn a1 1 5 from in_eq a1 1 5]
  by_cases h : fX11_isVoter M a0 = 0
  · exact ⟨-1, M, T, by rw [if_pos h], by rw [if_pos h], hR⟩
  · rw [if_neg h, if_neg h]
    by_cases h' : fX11_isIn a1 1 5 = 0
    · exact ⟨-1, M, T, by rw [if_pos h'], by rw [if_pos h'], hR⟩
    · rw [if_neg h', if_neg h']
      obtain ⟨p, hp, rfl⟩ := voter_yes n2 h
      obtain ⟨m, hm, hm', rfl⟩ := isIn_yes (a := 1) (b := 5) (by omega) (by omega) h'
      obtain ⟨r1, r2⟩ := hR.trait (j := 0) n2 n1 hp (Or.inl ⟨rfl, hm, hm'⟩)
      refine ⟨M 2 p, _, _, ?_, ?_, r1⟩
      · rw [gd_t (ix_nI (by omega) (by omega)), gd_t (ix_nI (by omega) (by omega)), tn_nI (by omega), b2_s (p_forgetSums _)]
      · rw [itsix0, b2_s (becomes_at T (8 + 5 * p) (nI m) (by omega))]
        exact congrArg (fun z => some (z, wr T 1 (8 + 5 * p) (nI m))) r2
/-- the set of those awake is set, on both sides -/
theorem Rel.awk {M T : mM} (hR : Rel M T) {n aw h no li la : Nat} (hV : Rv (nowC M) (T 1) n aw h no li la) (aw' : Nat) (T' : mM) (ha : aw' < 2 ^ n) (hT : ∀ q, q ≠ 1 → T' q = T q) (h1 : ∀ k, (∀ p, p < n → k ≠ 12 + 5 * p) → T' 1 k = T 1 k) (h2 : ∀ p, p < n → T' 1 (12 + 5 * p) = nI (aw' / 2 ^ p % 2)) : Rel (wr M 1 5 (nI aw')) T' := by
  obtain ⟨a, b, c, hv⟩ := hV
  refine hR.now ?_ (hR.2.1.keep (wr_q _ _ (by omega)) (eqX_wr0 M 5 _ (by omega))) (keepC_wr1 M 5 _) ⟨by rw [hT 0 (by omega)]; exact ⟨rfl, rfl, rfl, rfl⟩, hT 2 (by omega), hT 4 (by omega), fun q hq => hT q (by omega)⟩
  rw [nowC_wr M 0]
  refine Rp_vot hR.1 (fun q h1 h2 => wr_q _ _ (by omega)) (wr_k _ (by omega)) (fun k hk => h1 k (fun p hp => by omega)) ⟨n, aw', h, no, li, la, ⟨a.1, ha, a.2.2⟩, ?_, ?_, fun p hp => ?_⟩
  · rw [wr_s, wr_k _ (by omega), wr_k _ (by omega), wr_k _ (by omega), wr_k _ (by omega), wr_k _ (by omega)]
    exact ⟨b.1, rfl, b.2.2⟩
  · rw [h1 0 (fun p _ => by omega), h1 1 (fun p _ => by omega), h1 2 (fun p _ => by omega), h1 3 (fun p _ => by omega), h1 4 (fun p _ => by omega), h1 5 (fun p _ => by omega), wr_k _ (by omega)]
    exact c
  · obtain ⟨k, w, g, c', x1, x2, z1, z2, z3, z4, z5⟩ := hv p hp
    refine ⟨k, w, g, c', x1, ?_, ?_, ?_, ?_, ?_, h2 p hp⟩
    · rw [wr_q _ _ (by omega), wr_q _ _ (by omega), wr_q _ _ (by omega), wr_q _ _ (by omega)]; exact x2
    · rw [h1 _ (fun p _ => by omega)]; exact z1
    · rw [h1 _ (fun p _ => by omega)]; exact z2
    · rw [h1 _ (fun p _ => by omega)]; exact z3
    · rw [h1 _ (fun p _ => by omega)]; exact z4
theorem isAwake_at {M : mM} {p aw : Nat} (hp : p < 7) (ha : aw < 128) (h : M 1 5 = nI aw) : fX11_isAwake M (nI p) = nI (aw / 2 ^ p % 2) := by
  unfold fX11_isAwake
  rw [h, bit_at p hp aw ha]
  rcases Nat.mod_two_eq_zero_or_one (aw / 2 ^ p) with z | z
  · rw [z]; rfl
  · rw [z]; rfl
theorem pm_wakes {M T : mM} (hR : Rel M T) (a0 : Int32) (a1 : Int32) : ∃ (r : Int32) (M' : mM) (T' : mM), fX11_wakes M a0 a1 = some (r, M') ∧ fX12_wakes T a0 a1 = some (r, T') ∧ Rel M' T' := by
  obtain ⟨⟨n, aw, hh, no, li, la, hV⟩, -, -⟩ := id hR.1
  have a := hV.1
  have n2 : M 1 0 = nI n := hV.2.1.1
  have n3 : T 1 0 = nI n := hV.2.2.1.1
  have a5 : M 1 5 = nI aw := hV.2.1.2.1
  have a128 := pow_le7 a.1 a.2.1
  unfold fX11_wakes fX12_wakes
  rw [b1_s (voter_eq (M := M) n2 n3 a.1 a0)]
  by_cases h : fX11_isVoter M a0 = 0
  · exact ⟨-1, M, T, by rw [if_pos h], by rw [if_pos h], hR⟩
  · rw [if_neg h, if_neg h]
    obtain ⟨p, hp, rfl⟩ := voter_yes n2 h
    have z5 : T 1 (12 + 5 * p) = nI (aw / 2 ^ p % 2) := by
      obtain ⟨k, w, g, c', x1, x2, z1, z2, z3, z4, z5⟩ := hV.2.2.2 p hp
      exact z5
    rw [isAwake_at (by omega) a128 a5]
    have e : ∀ z : Int32, fX11_wakes_L23 M (nI p) a1 z = some (z, wr M 1 5 (nI (if a1 = 0 then offS aw p else onS aw p))) := fun z => by
      unfold fX11_wakes_L23
      rw [a5, bit_or p (by omega) aw a128, bit_andn p (by omega) aw a128]
      by_cases q : a1 = 0
      · rw [if_pos q, if_pos q]
      · rw [if_neg q, if_neg q]
    have e2 : (8 : Int32) + 5 * nI p + 4 = nI (12 + 5 * p) := by
      rw [show (8 : Int32) + 5 * nI p + 4 = nI (8 + 5 * p + 4) from itsix p 4, show 8 + 5 * p + 4 = 12 + 5 * p by omega]
    have key : ∀ (v : Int32) (aw' : Nat), aw' < 2 ^ n → (∀ p', p' < 7 → aw' / 2 ^ p' % 2 = if p' = p then (if a1 = 0 then 0 else 1) else aw / 2 ^ p' % 2) → v = (if a1 = 0 then (0 : Int32) else 1) → Rel (wr M 1 5 (nI aw')) (wr T 1 (12 + 5 * p) v) := by
      intro v aw' h1 h2 hv
      refine hR.awk hV aw' _ h1 (fun q hq => wr_q _ _ hq) (fun k hk => wr_k _ (hk p hp)) (fun p' hp' => ?_)
      rw [wr_at, h2 p' (by omega)]
      by_cases z : p' = p
      · rw [if_pos ⟨rfl, by omega⟩, if_pos z, hv]
        by_cases q : a1 = 0
        · rw [if_pos q, if_pos q]; rfl
        · rw [if_neg q, if_neg q]; rfl
      · rw [if_neg (fun y => z (by omega)), if_neg z]
        obtain ⟨k, w, g, c', x1, x2, y1, y2, y3, y4, y5⟩ := hV.2.2.2 p' hp'
        exact y5
    refine ⟨nI (aw / 2 ^ p % 2), wr M 1 5 (nI (if a1 = 0 then offS aw p else onS aw p)), wr T 1 (12 + 5 * p) (if a1 = 0 then 0 else 1), ?_, ?_, ?_⟩
    · rw [e, e]
      rcases Nat.mod_two_eq_zero_or_one (aw / 2 ^ p) with z | z
      · rw [z, if_pos (show nI 0 = 0 from rfl)]; rfl
      · rw [z, if_neg (by decide)]; rfl
    · rw [e2, b2_s (becomes_at T (12 + 5 * p) 0 (by omega)), b2_s (becomes_at T (12 + 5 * p) 1 (by omega)), z5]
      by_cases q : a1 = 0
      · rw [if_pos q, if_pos q]
      · rw [if_neg q, if_neg q]
    · refine key _ _ ?_ ?_ rfl
      · by_cases q : a1 = 0
        · rw [if_pos q]; exact (off_bit p (by omega) aw a128).2 n (by omega) hp a.2.1
        · rw [if_neg q]; exact (on_bit p (by omega) aw a128).2 n (by omega) hp a.2.1
      · intro p' hp'
        by_cases q : a1 = 0
        · rw [if_pos q, if_pos q]; exact (off_bit p (by omega) aw a128).1 p' hp'
        · rw [if_neg q, if_neg q]; exact (on_bit p (by omega) aw a128).1 p' hp'
