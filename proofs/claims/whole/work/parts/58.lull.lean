/-! whom to lull: buys, whom -/
def wiS (k a : Nat) : Nat := k &&& (a ^^^ 4294967295)
def luS (a k : Nat) : Nat := a &&& (k ^^^ 4294967295)
theorem m1N : (-1 : Int32) = nI 4294967295 := by decide
theorem wi_at (k a : Nat) : nI k &&& (nI a ^^^ (-1)) = nI (wiS k a) := by
  rw [m1N, ny_xor, ny_and]; rfl
theorem lu_bit (a k : Nat) {p : Nat} (hp : p < 32) : (luS a k).testBit p = (a.testBit p && !k.testBit p) := by
  unfold luS
  rw [Nat.testBit_and, Nat.testBit_xor, show (4294967295 : Nat) = 2 ^ 32 - 1 from rfl, Nat.testBit_two_pow_sub_one]
  simp [hp]
theorem lu_le (a k : Nat) : luS a k ≤ a := Nat.and_le_left
theorem wi_le (k a : Nat) : wiS k a ≤ k := Nat.and_le_left
theorem wi_bit {k a : Nat} (h : wiS k a = 0) {p : Nat} (hp : p < 32) : k.testBit p = true → a.testBit p = true := by
  intro hk
  have := congrArg (fun z => Nat.testBit z p) h
  simp only [wiS, Nat.testBit_and, Nat.testBit_xor, show (4294967295 : Nat) = 2 ^ 32 - 1 from rfl, Nat.testBit_two_pow_sub_one, hp, hk, Nat.zero_testBit, decide_true, Bool.true_and, Bool.xor_true] at this
  simpa using this
theorem wi_sub {k a : Nat} (hk : k < 2 ^ 32) (h : wiS k a = 0) : k ≤ a := by
  have : k &&& a = k := by
    apply Nat.eq_of_testBit_eq
    intro p
    rw [Nat.testBit_and]
    by_cases hp : p < 32
    · have := wi_bit h hp
      cases e : k.testBit p
      · rfl
      · rw [this e]; rfl
    · rw [Nat.testBit_lt_two_pow (show k < 2 ^ p from Nat.lt_of_lt_of_le hk (Nat.pow_le_pow_right (by omega) (by omega)))]; rfl
  rw [← this]
  exact Nat.and_le_right
theorem bitN (a p : Nat) : a / 2 ^ p % 2 = (a.testBit p).toNat := (Nat.toNat_testBit a p).symm
/-- what is left of a set -/
theorem lu_left {k a : Nat} {p : Nat} (hp : p < 32) : (if k / 2 ^ p % 2 = 1 then (0 : Int32) else nI (a / 2 ^ p % 2)) = nI (luS a k / 2 ^ p % 2) := by
  rw [bitN k, bitN a, bitN (luS a k), lu_bit a k hp]
  cases k.testBit p <;> cases a.testBit p <;> rfl
theorem lu_back {k a : Nat} (h : wiS k a = 0) {p : Nat} (hp : p < 32) : (if k / 2 ^ p % 2 = 1 then (1 : Int32) else nI (luS a k / 2 ^ p % 2)) = nI (a / 2 ^ p % 2) := by
  have := wi_bit h hp
  rw [bitN k, bitN a, bitN (luS a k), lu_bit a k hp]
  cases e : k.testBit p
  · simp
  · rw [this e]; rfl
theorem Vx.bits {X : mM} {t t' : Nat → Int32} {n aw h li aw' : Nat} (hV : Vx X t n aw h li) (ha : aw' < 2 ^ n) (ho : ∀ k, (∀ p, p < n → k ≠ 12 + 5 * p) → t' k = t k) (hb : ∀ p, p < n → t' (12 + 5 * p) = nI (aw' / 2 ^ p % 2)) : Vx X t' n aw' h li := by
  obtain ⟨a, b, c, hv, hl⟩ := hV
  have h7 := a.1
  refine ⟨⟨a.1, ha, a.2.2⟩, b, ⟨by rw [ho 0 (fun p _ => by omega)]; exact c.1, by rw [ho 1 (fun p _ => by omega)]; exact c.2.1, by rw [ho 3 (fun p _ => by omega)]; exact c.2.2⟩, fun p hp => ?_, Rl_eq (fun _ _ _ => rfl) (fun k hk _ => ho k (fun p hp => by omega)) hl⟩
  obtain ⟨k, w, g, c', x1, x2, z1, z2, z3, z4, z5⟩ := hv p hp
  exact ⟨k, w, g, c', x1, x2, by rw [ho _ (fun p _ => by omega)]; exact z1, by rw [ho _ (fun p _ => by omega)]; exact z2, by rw [ho _ (fun p _ => by omega)]; exact z3, by rw [ho _ (fun p _ => by omega)]; exact z4, hb p hp⟩
theorem lullL {set n : Nat} (v : Int32) (hs : set < 128) (h7 : n ≤ 7) : ∀ (d p fuel : Nat) (T : mM), p + d = n → T 1 0 = nI n → d < fuel →
    ∃ T', fX12_lulls_L2 fuel T (nI set) v (nI p) = some (0, T') ∧ (∀ q, q ≠ 1 → T' q = T q) ∧ (∀ k, (∀ p', p ≤ p' → p' < n → k ≠ 12 + 5 * p') → T' 1 k = T 1 k) ∧ ∀ p', p ≤ p' → p' < n → T' 1 (12 + 5 * p') = if set / 2 ^ p' % 2 = 1 then v else T 1 (12 + 5 * p') := by
  intro d
  induction d with
  | zero =>
    intro p fuel T hp h0 hf
    obtain ⟨f, rfl⟩ : ∃ j, fuel = j + 1 := ⟨fuel - 1, by omega⟩
    refine ⟨T, ?_, fun _ _ => rfl, fun _ _ => rfl, fun p' h1 h2 => absurd h1 (by omega)⟩
    show fX12_lulls_L2_b (fX12_lulls_L2 f) T (nI set) v (nI p) = _
    unfold fX12_lulls_L2_b
    rw [g0N, c0N, h0, if_pos (nI_le (by omega) (by omega))]
  | succ d ih =>
    intro p fuel T hp h0 hf
    obtain ⟨f, rfl⟩ : ∃ j, fuel = j + 1 := ⟨fuel - 1, by omega⟩
    by_cases hb : set / 2 ^ p % 2 = 1
    · obtain ⟨T', t1, t2, t3, t4⟩ := ih (p + 1) f (wr T 1 (12 + 5 * p) v) (by omega) (by rw [wr_k _ (by omega)]; exact h0) (by omega)
      refine ⟨T', ?_, fun q hq => (t2 q hq).trans (wr_q _ _ hq), fun k hk => ?_, fun p' h1 h2 => ?_⟩
      · show fX12_lulls_L2_b (fX12_lulls_L2 f) T (nI set) v (nI p) = _
        unfold fX12_lulls_L2_b
        rw [g0N, c0N, h0, if_neg (nI_ge (by omega) (by omega)), bit_at p (by omega) set hs, if_pos (by rw [hb]; rfl), b2_s (sets4 T (by omega) _), show 8 + 5 * p + 4 = 12 + 5 * p by omega, nI_1]
        exact t1
      · rw [t3 k (fun p' h1 h2 => hk p' (by omega) h2), wr_k _ (hk p (by omega) (by omega))]
      · by_cases e : p' = p
        · rw [t3 _ (fun p2 h1 h2 => by omega), e, wr_s, if_pos hb]
        · rw [t4 p' (by omega) h2, wr_k _ (by omega)]
    · obtain ⟨T', t1, t2, t3, t4⟩ := ih (p + 1) f T (by omega) h0 (by omega)
      refine ⟨T', ?_, t2, fun k hk => t3 k (fun p' h1 h2 => hk p' (by omega) h2), fun p' h1 h2 => ?_⟩
      · show fX12_lulls_L2_b (fX12_lulls_L2 f) T (nI set) v (nI p) = _
        unfold fX12_lulls_L2_b
        have hb0 : set / 2 ^ p % 2 = 0 := by omega
        rw [g0N, c0N, h0, if_neg (nI_ge (by omega) (by omega)), bit_at p (by omega) set hs, if_neg (by rw [hb0]; decide), nI_1]
        exact t1
      · by_cases e : p' = p
        · rw [t3 _ (fun p2 h1 h2 => by omega), e, if_neg hb]
        · exact t4 p' (by omega) h2
/-- a set is lulled, SUM is looked at, and it wakes again -/
theorem lull_at {X T : mM} {n aw h li k : Nat} (hV : Vx X (T 1) n aw h li) (hk : k < 128) (hw : wiS k aw = 0) :
    ∃ T1 T2 T3 : mM, fX12_lulls T (nI k) 0 = some (0, T1) ∧ fX12_sumNow T1 = some (SUM X h (luS aw k), T2) ∧ fX12_moveBy T2 (SUM X h (luS aw k)) = some (byS X li h (luS aw k)) ∧ fX12_lulls T2 (nI k) 1 = some (0, T3) ∧ T3 1 = T 1 ∧ ∀ q, q ≠ 1 → q ≠ 3 → T3 q = T q := by
  have h7 := hV.1.1
  have hlt : luS aw k < 2 ^ n := Nat.lt_of_le_of_lt (lu_le aw k) hV.1.2.1
  obtain ⟨T1, a1, a2, a3, a4⟩ := lullL 0 hk h7 n 0 5000 T (by omega) hV.2.2.1.1 (by omega)
  have V1 : Vx X (T1 1) n (luS aw k) h li := hV.bits hlt (fun j hj => a3 j (fun p _ h2 => hj p h2)) (fun p hp => by
    rw [a4 p (by omega) hp, bit_of (hV.2.2.2.1 p hp)]
    exact lu_left (by omega))
  obtain ⟨T2, t1, t2⟩ := sumNow_at V1
  have V2 : Vx X (T2 1) n (luS aw k) h li := by rw [t2 1 (by omega)]; exact V1
  obtain ⟨T3, b1', b2', b3, b4⟩ := lullL 1 hk h7 n 0 5000 T2 (by omega) V2.2.2.1.1 (by omega)
  have V3 : Vx X (T3 1) n aw h li := V2.bits hV.1.2.1 (fun j hj => b3 j (fun p _ h2 => hj p h2)) (fun p hp => by
    rw [b4 p (by omega) hp, bit_of (V2.2.2.2.1 p hp)]
    exact lu_back hw (by omega))
  refine ⟨T1, T2, T3, a1, t1, moveBy_at V2.2.2.1.2.2 _, b1', Vx_uniq hV V3 (fun j h1 h2 => ?_), fun q h1 h3 => (b2' q h1).trans ((t2 q h3).trans (a2 q h1))⟩
  rw [b3 j (fun p _ hp => h2 p hp), t2 1 (by omega), a3 j (fun p _ hp => h2 p hp)]
def prS (X : mM) (set : Nat) : Nat → Nat
  | 0 => 0
  | p + 1 => prS X set p + set / 2 ^ p % 2 * (X 4 p).toNatClampNeg
theorem prS_le {X : mM} {n : Nat} (hc : ∀ p, p < n → ∃ c, c ≤ 99 ∧ X 4 p = nI c) (set : Nat) : ∀ p, p ≤ n → prS X set p ≤ 99 * p := by
  intro p
  induction p with
  | zero => intro _; exact Nat.le_refl 0
  | succ p ih =>
    intro hp
    obtain ⟨c, c1, c2⟩ := hc p (by omega)
    have := ih (by omega)
    show prS X set p + set / 2 ^ p % 2 * (X 4 p).toNatClampNeg ≤ 99 * (p + 1)
    rw [c2, nI_clamp (by omega)]
    rcases Nat.mod_two_eq_zero_or_one (set / 2 ^ p) with z | z <;> rw [z] <;> omega
theorem Vx.pri {X : mM} {t : Nat → Int32} {n aw h li : Nat} (hV : Vx X t n aw h li) : ∀ p, p < n → ∃ c, c ≤ 99 ∧ X 4 p = nI c ∧ t (11 + 5 * p) = nI c := by
  intro p hp
  obtain ⟨k, w, g, c', x1, x2, z1, z2, z3, z4, z5⟩ := hV.2.2.2.1 p hp
  exact ⟨c', x1.2.2.2.2.2, x2.2.2.2, z4⟩
theorem priceC {M : mM} {n set : Nat} (h7 : n ≤ 7) (hs : set < 128) (h0 : M 1 0 = nI n) (hc : ∀ p, p < n → ∃ c, c ≤ 99 ∧ nowC M 4 p = nI c) : fX11_priceOf M (nI set) = some (nI (prS (nowC M) set n)) := by
  have key : ∀ (d p fuel : Nat), p + d = n → d < fuel → fX11_priceOf_L4 fuel M (nI set) (nI (prS (nowC M) set p)) (nI p) = some (nI (prS (nowC M) set n)) := by
    intro d
    induction d with
    | zero =>
      intro p fuel hp hf
      obtain ⟨f, rfl⟩ : ∃ j, fuel = j + 1 := ⟨fuel - 1, by omega⟩
      show fX11_priceOf_L4_b (fX11_priceOf_L4 f) M (nI set) (nI (prS (nowC M) set p)) (nI p) = _
      unfold fX11_priceOf_L4_b
      rw [h0, if_pos (nI_le (by omega) (by omega)), show p = n by omega]
    | succ d ih =>
      intro p fuel hp hf
      obtain ⟨f, rfl⟩ : ∃ j, fuel = j + 1 := ⟨fuel - 1, by omega⟩
      show fX11_priceOf_L4_b (fX11_priceOf_L4 f) M (nI set) (nI (prS (nowC M) set p)) (nI p) = _
      unfold fX11_priceOf_L4_b
      obtain ⟨c, c1, c2⟩ := hc p (by omega)
      have e := ih (p + 1) f (by omega) (by omega)
      have e1 : prS (nowC M) set (p + 1) = prS (nowC M) set p + set / 2 ^ p % 2 * c := by
        show prS (nowC M) set p + set / 2 ^ p % 2 * (nowC M 4 p).toNatClampNeg = _
        rw [c2, nI_clamp (by omega)]
      rw [e1] at e
      rw [h0, if_neg (nI_ge (by omega) (by omega)), bit_at p (by omega) set hs, gd_t (ix_nI (by omega) (by omega)), tn_nI (by omega), show M 5 p = nI c from c2, nI_add, nI_1]
      rcases Nat.mod_two_eq_zero_or_one (set / 2 ^ p) with z | z
      · rw [z, if_neg (by decide)]
        rw [z, Nat.zero_mul, Nat.add_zero] at e
        exact e
      · rw [z, if_pos (show nI 1 = 1 from rfl)]
        rw [z, Nat.one_mul] at e
        exact e
  exact key n 0 5000 (by omega) (by omega)
theorem priceM {X T : mM} {n aw h li set : Nat} (hV : Vx X (T 1) n aw h li) (hs : set < 128) : fX12_priceOf T (nI set) = some (nI (prS X set n)) := by
  have h7 := hV.1.1
  have key : ∀ (d p fuel : Nat), p + d = n → d < fuel → fX12_priceOf_L4 fuel T (nI set) (nI (prS X set p)) (nI p) = some (nI (prS X set n)) := by
    intro d
    induction d with
    | zero =>
      intro p fuel hp hf
      obtain ⟨f, rfl⟩ : ∃ j, fuel = j + 1 := ⟨fuel - 1, by omega⟩
      show fX12_priceOf_L4_b (fX12_priceOf_L4 f) T (nI set) (nI (prS X set p)) (nI p) = _
      unfold fX12_priceOf_L4_b
      rw [g0N, c0N, hV.2.2.1.1, if_pos (nI_le (by omega) (by omega)), show p = n by omega]
    | succ d ih =>
      intro p fuel hp hf
      obtain ⟨f, rfl⟩ : ∃ j, fuel = j + 1 := ⟨fuel - 1, by omega⟩
      show fX12_priceOf_L4_b (fX12_priceOf_L4 f) T (nI set) (nI (prS X set p)) (nI p) = _
      unfold fX12_priceOf_L4_b
      obtain ⟨c, c1, c2, c3⟩ := hV.pri p (by omega)
      have e := ih (p + 1) f (by omega) (by omega)
      have e1 : prS X set (p + 1) = prS X set p + set / 2 ^ p % 2 * c := by
        show prS X set p + set / 2 ^ p % 2 * (X 4 p).toNatClampNeg = _
        rw [c2, nI_clamp (by omega)]
      rw [e1] at e
      rw [g0N, c0N, hV.2.2.1.1, if_neg (nI_ge (by omega) (by omega)), b1_s (its3 T (by omega)), bit_at p (by omega) set hs, show 8 + 5 * p + 3 = 11 + 5 * p by omega, c3, pk_mul, nI_add, nI_1]
      exact e
  exact key n 0 5000 (by omega) (by omega)
theorem ones_at (T : mM) {set : Nat} (hs : set < 128) : fX12_ones T (nI set) = some (nI (cntS 7 set)) := by
  have key : ∀ (d p fuel : Nat), p + d = 7 → d < fuel → fX12_ones_L4 fuel T (nI set) (nI (cntS p set)) (nI p) = some (nI (cntS 7 set)) := by
    intro d
    induction d with
    | zero =>
      intro p fuel hp hf
      obtain ⟨f, rfl⟩ : ∃ j, fuel = j + 1 := ⟨fuel - 1, by omega⟩
      show fX12_ones_L4_b (fX12_ones_L4 f) T (nI set) (nI (cntS p set)) (nI p) = _
      unfold fX12_ones_L4_b
      rw [if_pos (show (7 : Int32) ≤ nI p from nI_le (a := 7) (by omega) (by omega)), show p = 7 by omega]
    | succ d ih =>
      intro p fuel hp hf
      obtain ⟨f, rfl⟩ : ∃ j, fuel = j + 1 := ⟨fuel - 1, by omega⟩
      show fX12_ones_L4_b (fX12_ones_L4 f) T (nI set) (nI (cntS p set)) (nI p) = _
      unfold fX12_ones_L4_b
      rw [if_neg (show ¬ (7 : Int32) ≤ nI p from nI_ge (b := 7) (by omega) (by omega)), bit_at p (by omega) set hs, nI_add, nI_1]
      exact ih (p + 1) f (by omega) (by omega)
  exact key 7 0 5000 (by omega) (by omega)
theorem cnt_le7 (set : Nat) : ∀ p, cntS p set ≤ p := by
  intro p
  induction p with
  | zero => exact Nat.le_refl 0
  | succ p ih =>
    show cntS p set + set / 2 ^ p % 2 ≤ p + 1
    have := Nat.mod_lt (set / 2 ^ p) (show 0 < 2 by omega)
    omega
def okB (X : mM) (li h aw tr k : Nat) : Bool := decide (wiS k aw = 0) && decide (byS X li h (luS aw k) + 1 = nI tr)
def beB (X : mM) (n k b : Nat) : Bool := decide (prS X k n < prS X b n) || (decide (prS X k n = prS X b n) && decide (cntS 7 k < cntS 7 b))
def bstS (ok : Nat → Bool) (be : Nat → Nat → Bool) : Nat → Option Nat
  | 0 => none
  | k + 1 => match bstS ok be k with
    | none => if ok k then some k else none
    | some b => if ok k && be k b then some k else some b
theorem bstS_lt {ok : Nat → Bool} {be : Nat → Nat → Bool} : ∀ k b, bstS ok be k = some b → b < k := by
  intro k
  induction k with
  | zero => intro b h; exact absurd h (by simp [bstS])
  | succ k ih =>
    intro b h
    unfold bstS at h
    split at h
    · split at h
      · have := Option.some.inj h; omega
      · exact absurd h (by simp)
    · next b' e =>
      split at h
      · have := Option.some.inj h; omega
      · have h1 := Option.some.inj h
        have := ih b' e
        omega
theorem bstS_no {ok : Nat → Bool} {be : Nat → Nat → Bool} : ∀ d k, (∀ j, k ≤ j → ok j = false) → bstS ok be (k + d) = bstS ok be k := by
  intro d
  induction d with
  | zero => intro k _; rfl
  | succ d ih =>
    intro k h
    have := ih k h
    have e : bstS ok be (k + d + 1) = match bstS ok be (k + d) with
      | none => if ok (k + d) then some (k + d) else none
      | some b => if ok (k + d) && be (k + d) b then some (k + d) else some b := rfl
    show bstS ok be (k + d + 1) = bstS ok be k
    rw [e, this, h (k + d) (by omega)]
    cases bstS ok be k <;> rfl
def noB (z : Int32) (o : Option Nat) : Int32 := match o with
  | some b => nI b
  | none => z
theorem noB_lt {z : Int32} (hz : z < 0) {o : Option Nat} (h : ∀ b, o = some b → b < 2 ^ 31) : (noB z o < 0 ↔ o = none) ∧ (0 ≤ noB z o ↔ ¬ o = none) := by
  cases o with
  | none => exact ⟨⟨fun _ => rfl, fun _ => hz⟩, ⟨fun q => absurd hz (Int32.not_lt.mpr q), fun q => absurd rfl q⟩⟩
  | some b =>
    have := h b rfl
    exact ⟨⟨fun q => absurd q (nI_pos this), fun q => absurd q (by simp)⟩, ⟨fun _ => by simp, fun _ => nI_pos' this⟩⟩
theorem better_c {M : mM} {n k b : Nat} (h7 : n ≤ 7) (hk : k < 128) (hb : b < 128) (h0 : M 1 0 = nI n) (hc : ∀ p, p < n → ∃ c, c ≤ 99 ∧ nowC M 4 p = nI c) : fX11_isBetter M (nI k) (nI b) = some (if beB (nowC M) n k b then 1 else 0) := by
  unfold fX11_isBetter beB
  have l1 := prS_le hc k n (Nat.le_refl n)
  have l2 := prS_le hc b n (Nat.le_refl n)
  have c1 := cnt_le7 k 7
  have c2 := cnt_le7 b 7
  rw [b1_s (priceC h7 hk h0 hc), b1_s (priceC h7 hb h0 hc), bit_cnt k hk, bit_cnt b hb]
  have e := pk_sub_toInt (a := prS (nowC M) k n) (b := prS (nowC M) b n) (by omega) (by omega)
  have e0 : (0 : Int32).toInt = 0 := rfl
  by_cases g1 : prS (nowC M) k n < prS (nowC M) b n
  · rw [if_pos (Int32.lt_iff_toInt_lt.mpr (by rw [e, e0]; omega)), decide_eq_true g1, Bool.true_or, if_pos rfl]
  · rw [if_neg (fun q => by have := Int32.lt_iff_toInt_lt.mp q; rw [e, e0] at this; omega), decide_eq_false g1, Bool.false_or]
    by_cases g2 : prS (nowC M) k n = prS (nowC M) b n
    · rw [if_pos (by rw [g2]; exact Int32.sub_self _), decide_eq_true g2, Bool.true_and]
      by_cases g3 : cntS 7 k < cntS 7 b
      · rw [if_neg (nI_ge g3 (by omega)), decide_eq_true g3, if_pos rfl]
      · rw [if_pos (nI_le (by omega) (by omega)), decide_eq_false g3]; rfl
    · rw [if_neg (fun q => by have := congrArg Int32.toInt q; rw [e, e0] at this; omega), decide_eq_false g2]; rfl
theorem more_m {X : mM} {n k b : Nat} (h7 : n ≤ 7) (hc : ∀ p, p < n → ∃ c, c ≤ 99 ∧ X 4 p = nI c) : (0 ≤ 1000 * (nI (prS X k n) - nI (prS X b n)) + nI (cntS 7 k) - nI (cntS 7 b)) ↔ beB X n k b = false := by
  have l1 := prS_le hc k n (Nat.le_refl n)
  have l2 := prS_le hc b n (Nat.le_refl n)
  have c1 := cnt_le7 k 7
  have c2 := cnt_le7 b 7
  have e : (1000 : Int32) * (nI (prS X k n) - nI (prS X b n)) + nI (cntS 7 k) - nI (cntS 7 b) = nI (1000 * prS X k n + cntS 7 k) - nI (1000 * prS X b n + cntS 7 b) := by
    rw [Int32.mul_sub, show (1000 : Int32) * nI (prS X k n) = nI (1000 * prS X k n) from pk_mul 1000 _, show (1000 : Int32) * nI (prS X b n) = nI (1000 * prS X b n) from pk_mul 1000 _, ← nI_add, ← nI_add, ← Int32.sub_sub]
    congr 1
    rw [Int32.sub_eq_add_neg, Int32.sub_eq_add_neg, Int32.add_assoc, Int32.add_comm (-_), ← Int32.add_assoc]
  have e1 := pk_sub_toInt (a := 1000 * prS X k n + cntS 7 k) (b := 1000 * prS X b n + cntS 7 b) (by omega) (by omega)
  have e0 : (0 : Int32).toInt = 0 := rfl
  rw [e, Int32.le_iff_toInt_le, e1, e0]
  unfold beB
  rw [Bool.or_eq_false_iff, Bool.and_eq_false_iff, decide_eq_false_iff_not, decide_eq_false_iff_not, decide_eq_false_iff_not]
  omega
theorem cbest {M0 : mM} {t : Nat → Int32} {n li h aw tr : Nat} (hC : Cc M0 t n li) (hV : Vx (nowC M0) t n aw h li) (h5 : M0 1 5 = nI aw) (h6 : M0 1 6 = nI h) : ∀ (d k fuel : Nat) (M : mM), k + d = 128 → eqK M0 M → Rs M → d < fuel →
    ∃ M', fX11_bestLulled_L5 fuel M (nI tr) (noB (-3) (bstS (okB (nowC M0) li h aw tr) (beB (nowC M0) n) k)) (nI k) = some (noB (-3) (bstS (okB (nowC M0) li h aw tr) (beB (nowC M0) n) 128), M') ∧ eqK M0 M' ∧ Rs M' := by
  have h7 := hV.1.1
  have ha := pow_le7 h7 hV.1.2.1
  intro d
  induction d with
  | zero =>
    intro k fuel M hk hK hS hf
    obtain ⟨f, rfl⟩ : ∃ j, fuel = j + 1 := ⟨fuel - 1, by omega⟩
    refine ⟨M, ?_, hK, hS⟩
    show fX11_bestLulled_L5_b (fX11_bestLulled_L5 f) M _ _ (nI k) = _
    unfold fX11_bestLulled_L5_b
    rw [if_pos (show (128 : Int32) ≤ nI k from nI_le (a := 128) (by omega) (by omega)), show k = 128 by omega]
  | succ d ih =>
    intro k fuel M hk hK hS hf
    obtain ⟨f, rfl⟩ : ∃ j, fuel = j + 1 := ⟨fuel - 1, by omega⟩
    have m5 : M 1 5 = nI aw := (congrFun (hK.1 1 (by omega) (by omega)) 5).trans h5
    have m6 : M 1 6 = nI h := (congrFun (hK.1 1 (by omega) (by omega)) 6).trans h6
    have wl := wi_le k aw
    have hlt : luS aw k < 128 := Nat.lt_of_le_of_lt (lu_le aw k) ha
    have hb1 : ∀ b, bstS (okB (nowC M0) li h aw tr) (beB (nowC M0) n) k = some b → b < k := bstS_lt k
    have eS : bstS (okB (nowC M0) li h aw tr) (beB (nowC M0) n) (k + 1) = match bstS (okB (nowC M0) li h aw tr) (beB (nowC M0) n) k with
      | none => if okB (nowC M0) li h aw tr k then some k else none
      | some b => if okB (nowC M0) li h aw tr k && beB (nowC M0) n k b then some k else some b := rfl
    show ∃ M', fX11_bestLulled_L5_b (fX11_bestLulled_L5 f) M _ _ (nI k) = _ ∧ _
    unfold fX11_bestLulled_L5_b fX11_isWithin
    rw [if_neg (show ¬ (128 : Int32) ≤ nI k from nI_ge (b := 128) (by omega) (by omega)), m5, m6, wi_at, show nI aw &&& (nI k ^^^ (-1)) = nI (luS aw k) from wi_at aw k, nI_1]
    by_cases hw : wiS k aw = 0
    · rw [hw, if_pos (show nI 0 = 0 from rfl), if_neg (by decide)]
      obtain ⟨M1, m1, m2, m3, m4⟩ := cSum hC hK hS hV.1.2.2.1 hlt
      have m18 : M1 1 8 = nI li := (congrFun (m3.1 1 (by omega) (by omega)) 8).trans hC.2.2
      have m10 : M1 1 0 = nI n := (congrFun (m3.1 1 (by omega) (by omega)) 0).trans hC.2.1.2.1
      rw [b2_s m1, m18]
      have eb : fX11_turnOf (SUM (nowC M0) h (luS aw k)) (nI li) = byS (nowC M0) li h (luS aw k) := rfl
      rw [eb]
      obtain ⟨M2, r1, r2⟩ := ih (k + 1) f M1 (by omega) m3 m4 (by omega)
      refine ⟨M2, ?_, r2⟩
      rw [← r1, eS]
      by_cases g : byS (nowC M0) li h (luS aw k) + 1 = nI tr
      · have ok : okB (nowC M0) li h aw tr k = true := by unfold okB; rw [decide_eq_true hw, decide_eq_true g]; rfl
        rw [if_pos g, ok]
        cases eb : bstS (okB (nowC M0) li h aw tr) (beB (nowC M0) n) k with
        | none => rw [if_pos (show noB (-3) none < 0 by decide)]; rfl
        | some b =>
          have hb := hb1 b eb
          have e4 : ∀ q, nowC M1 4 q = nowC M0 4 q := fun q => congrFun (m3.1 5 (by omega) (by omega)) q
          have hp : ∀ set, prS (nowC M1) set = prS (nowC M0) set := fun set => by
            funext p
            induction p with
            | zero => rfl
            | succ p ihp => unfold prS; rw [ihp, e4]
          have hbe : beB (nowC M1) n k b = beB (nowC M0) n k b := by unfold beB; rw [hp, hp]
          rw [if_neg (show ¬ noB (-3) (some b) < 0 from nI_pos (by omega)), b1_s (show fX11_isBetter M1 (nI k) (noB (-3) (some b)) = _ from better_c h7 (show k < 128 by omega) (show b < 128 by omega) m10 (fun p hp => by rw [e4]; obtain ⟨c, c1, c2, -⟩ := hV.pri p hp; exact ⟨c, c1, c2⟩)), hbe]
          show _ = fX11_bestLulled_L5 f M1 (nI tr) (noB (-3) (if (true && beB (nowC M0) n k b) = true then some k else some b)) (nI (k + 1))
          cases beB (nowC M0) n k b <;> rfl
      · have ok : okB (nowC M0) li h aw tr k = false := by unfold okB; rw [decide_eq_false g, Bool.and_false]
        rw [if_neg g, ok]
        cases bstS (okB (nowC M0) li h aw tr) (beB (nowC M0) n) k <;> rfl
    · rw [if_neg (nI_ne0 (by omega) (by omega)), if_pos rfl]
      obtain ⟨M2, r1, r2⟩ := ih (k + 1) f M (by omega) hK hS (by omega)
      refine ⟨M2, ?_, r2⟩
      rw [← r1, eS]
      have ok : okB (nowC M0) li h aw tr k = false := by unfold okB; rw [decide_eq_false hw]; rfl
      rw [ok]
      cases bstS (okB (nowC M0) li h aw tr) (beB (nowC M0) n) k <;> rfl
theorem mbest {X T0 : mM} {n li h aw tr : Nat} (hV : Vx X (T0 1) n aw h li) : ∀ (d k fuel : Nat) (T : mM), k + d = aw + 1 → T 1 = T0 1 → (∀ q, q ≠ 1 → q ≠ 3 → T q = T0 q) → d < fuel →
    ∃ T', fX12_bestFor_L10 fuel T (nI tr) (nI aw) (noB (-1) (bstS (okB X li h aw tr) (beB X n) k)) (nI k) = some (noB (-1) (bstS (okB X li h aw tr) (beB X n) (aw + 1)), T') ∧ T' 1 = T0 1 ∧ ∀ q, q ≠ 1 → q ≠ 3 → T' q = T0 q := by
  have h7 := hV.1.1
  have ha := pow_le7 h7 hV.1.2.1
  intro d
  induction d with
  | zero =>
    intro k fuel T hk h1 hq hf
    obtain ⟨f, rfl⟩ : ∃ j, fuel = j + 1 := ⟨fuel - 1, by omega⟩
    refine ⟨T, ?_, h1, hq⟩
    show fX12_bestFor_L10_b (fX12_bestFor_L10 f) T _ _ _ (nI k) = _
    unfold fX12_bestFor_L10_b
    rw [if_pos (nI_lt (by omega) (by omega)), show k = aw + 1 by omega]
  | succ d ih =>
    intro k fuel T hk h1 hq hf
    obtain ⟨f, rfl⟩ : ∃ j, fuel = j + 1 := ⟨fuel - 1, by omega⟩
    have wl := wi_le k aw
    have hb1 : ∀ b, bstS (okB X li h aw tr) (beB X n) k = some b → b < k := bstS_lt k
    have eS : bstS (okB X li h aw tr) (beB X n) (k + 1) = match bstS (okB X li h aw tr) (beB X n) k with
      | none => if okB X li h aw tr k then some k else none
      | some b => if okB X li h aw tr k && beB X n k b then some k else some b := rfl
    show ∃ T', fX12_bestFor_L10_b (fX12_bestFor_L10 f) T _ _ _ (nI k) = _ ∧ _
    unfold fX12_bestFor_L10_b
    rw [if_neg (nI_nlt (by omega) (by omega)), wi_at]
    by_cases hw : wiS k aw = 0
    · have hV' : Vx X (T 1) n aw h li := by rw [h1]; exact hV
      obtain ⟨T1, T2, T3, a1, a2, a3, a4, a5, a6⟩ := lull_at hV' (show k < 128 by omega) hw
      have hV3 : Vx X (T3 1) n aw h li := by rw [a5]; exact hV'
      obtain ⟨T4, r1, r2⟩ := ih (k + 1) f T3 (by omega) (a5.trans h1) (fun q g1 g3 => (a6 q g1 g3).trans (hq q g1 g3)) (by omega)
      refine ⟨T4, ?_, r2⟩
      rw [hw, if_pos (show nI 0 = 0 from rfl), b2_s a1, b2_s a2, b1_s a3]
      have L : ∀ z : Int32, fX12_bestFor_L54 (fX12_bestFor_L10 f) T2 (nI tr) (nI aw) (noB (-1) (bstS (okB X li h aw tr) (beB X n) k)) (nI k) z = if z = 0 then fX12_bestFor_L10 f T3 (nI tr) (nI aw) (noB (-1) (bstS (okB X li h aw tr) (beB X n) k)) (nI (k + 1)) else (match bstS (okB X li h aw tr) (beB X n) k with
          | none => fX12_bestFor_L10 f T3 (nI tr) (nI aw) (nI k) (nI (k + 1))
          | some b => if beB X n k b then fX12_bestFor_L10 f T3 (nI tr) (nI aw) (nI k) (nI (k + 1)) else fX12_bestFor_L10 f T3 (nI tr) (nI aw) (nI b) (nI (k + 1))) := fun z => by
        unfold fX12_bestFor_L54 fX12_bestFor_L98
        rw [b2_s a4]
        simp only [nI_1]
        cases eb : bstS (okB X li h aw tr) (beB X n) k with
        | none =>
          rw [if_neg (show ¬ 0 ≤ noB (-1) none by decide)]
          by_cases z0 : z = 0
          · rw [if_pos z0, if_pos z0]
          · rw [if_neg z0, if_neg z0, if_neg (by decide)]
        | some b =>
          have hb := hb1 b eb
          rw [if_pos (show 0 ≤ noB (-1) (some b) from nI_pos' (by omega)), b1_s (priceM hV3 (show k < 128 by omega)), b1_s (show fX12_priceOf T3 (noB (-1) (some b)) = _ from priceM hV3 (show b < 128 by omega)), b1_s (ones_at T3 (show k < 128 by omega)), b1_s (show fX12_ones T3 (noB (-1) (some b)) = _ from ones_at T3 (show b < 128 by omega))]
          by_cases z0 : z = 0
          · rw [if_pos z0, if_pos z0]
          · rw [if_neg z0, if_neg z0]
            have mm := more_m (k := k) (b := b) h7 (fun p hp => by obtain ⟨c, c1, c2, -⟩ := hV.pri p hp; exact ⟨c, c1, c2⟩)
            show _ = if beB X n k b then _ else _
            cases g : beB X n k b
            · rw [if_pos (mm.mpr g)]; rfl
            · rw [if_neg (fun q => by rw [mm.mp q] at g; exact absurd g (by decide))]; rfl
      rw [L, L, if_pos rfl, if_neg (show ¬ (1 : Int32) = 0 by decide), ← r1, eS]
      by_cases g : byS X li h (luS aw k) + 1 = nI tr
      · have ok : okB X li h aw tr k = true := by unfold okB; rw [decide_eq_true hw, decide_eq_true g]; rfl
        rw [if_pos (Int32.eq_sub_iff_add_eq.mpr g), ok]
        cases bstS (okB X li h aw tr) (beB X n) k with
        | none => rfl
        | some b =>
          show (if beB X n k b then _ else _) = fX12_bestFor_L10 f T3 (nI tr) (nI aw) (noB (-1) (if (true && beB X n k b) = true then some k else some b)) (nI (k + 1))
          cases beB X n k b <;> rfl
      · have ok : okB X li h aw tr k = false := by unfold okB; rw [decide_eq_false g, Bool.and_false]
        rw [if_neg (fun q => g (Int32.eq_sub_iff_add_eq.mp q)), ok]
        cases bstS (okB X li h aw tr) (beB X n) k <;> rfl
    · rw [if_neg (nI_ne0 (by omega) (by omega)), nI_1]
      obtain ⟨T2, r1, r2⟩ := ih (k + 1) f T (by omega) h1 hq (by omega)
      refine ⟨T2, ?_, r2⟩
      rw [← r1, eS]
      have ok : okB X li h aw tr k = false := by unfold okB; rw [decide_eq_false hw]; rfl
      rw [ok]
      cases bstS (okB X li h aw tr) (beB X n) k <;> rfl
/-- both lull alike -/
theorem best_at {M T : mM} (hR : Rel M T) (tr : Nat) : ∃ (n : Nat) (o : Option Nat) (M' T' : mM), fX11_bestLulled M (nI tr) = some (noB (-3) o, M') ∧ fX12_bestFor T (nI tr) = some (noB (-1) o, T') ∧ (∀ b, o = some b → b < 128 ∧ fX11_priceOf M' (nI b) = some (nI (prS (nowC M) b n)) ∧ fX12_priceOf T' (nI b) = some (nI (prS (nowC M) b n))) ∧ Rel M' T' := by
  obtain ⟨n, aw, h, no, li, la, hV, hX, hC, a128, h24, n2, a5, h6, l8⟩ := hR.look
  have h7 := hX.1.1
  obtain ⟨M', m1, m2, m3⟩ := cbest (tr := tr) hC hX a5 h6 128 0 5000 M (by omega) (eqK.refl M) hR.2.1 (by omega)
  obtain ⟨T', t1, t2, t3⟩ := mbest (tr := tr) hX (aw + 1) 0 5000 T (by omega) rfl (fun _ _ _ => rfl) (by omega)
  have e : bstS (okB (nowC M) li h aw tr) (beB (nowC M) n) 128 = bstS (okB (nowC M) li h aw tr) (beB (nowC M) n) (aw + 1) := by
    have := bstS_no (ok := fun j => if j < 128 then okB (nowC M) li h aw tr j else false) (be := beB (nowC M) n) (128 - (aw + 1)) (aw + 1) (fun j hj => by
      by_cases hj2 : j < 128
      · show (if j < 128 then okB (nowC M) li h aw tr j else false) = false
        rw [if_pos hj2]
        unfold okB
        rw [decide_eq_false (fun q => by have := wi_sub (show j < 2 ^ 32 by omega) q; omega)]; rfl
      · show (if j < 128 then okB (nowC M) li h aw tr j else false) = false
        rw [if_neg hj2])
    have cong : ∀ k, k ≤ 128 → bstS (fun j => if j < 128 then okB (nowC M) li h aw tr j else false) (beB (nowC M) n) k = bstS (okB (nowC M) li h aw tr) (beB (nowC M) n) k := by
      intro k
      induction k with
      | zero => intro _; rfl
      | succ k ih =>
        intro hk
        unfold bstS
        rw [ih (by omega), if_pos (show k < 128 by omega)]
    rw [show aw + 1 + (128 - (aw + 1)) = 128 by omega, cong 128 (by omega), cong (aw + 1) (by omega)] at this
    exact this
  refine ⟨n, bstS (okB (nowC M) li h aw tr) (beB (nowC M) n) (aw + 1), M', T', ?_, ?_, fun b hb => ?_, hR.scr (fun q g1 g2 => m2.1 q g1 (by omega)) m2.2 m3 t2 (keepR_of (fun k hk => by rw [t3 0 (by omega) (by omega)]) (fun q hq => t3 q (by omega) (by omega)))⟩
  · rw [← e]; exact m1
  · unfold fX12_bestFor
    rw [b1_s (awakeSet_at hV)]
    exact t1
  · have hlt : b < 128 := by have := bstS_lt _ _ hb; omega
    have e4 : ∀ q, nowC M' 4 q = nowC M 4 q := fun q => congrFun (m2.1 5 (by omega) (by omega)) q
    have hp : ∀ p, prS (nowC M') b p = prS (nowC M) b p := fun p => by
      induction p with
      | zero => rfl
      | succ p ihp => unfold prS; rw [ihp, e4]
    have r1 := priceC h7 hlt (show M' 1 0 = nI n from (congrFun (m2.1 1 (by omega) (by omega)) 0).trans n2) (fun p hp => by rw [e4]; obtain ⟨c, c1, c2, -⟩ := hX.pri p hp; exact ⟨c, c1, c2⟩)
    rw [hp] at r1
    exact ⟨hlt, r1, priceM (show Vx (nowC M) (T' 1) n aw h li by rw [t2]; exact hX) hlt⟩
theorem pm_buys {M T : mM} (hR : Rel M T) (a0 : Int32) : ∃ (r : Int32) (M' : mM) (T' : mM), fX11_buys M a0 = some (r, M') ∧ fX12_buys T a0 = some (r, T') ∧ Rel M' T' := by
  unfold fX11_buys fX12_buys
  rw [show fX12_in (Int32.toInt64 a0) 0 2 = fX11_isIn a0 0 2 from in_eq a0 0 2]
  by_cases h1 : fX11_isIn a0 0 2 = 0
  · exact ⟨-1, M, T, by rw [if_pos h1], by rw [if_pos h1], hR⟩
  rw [if_neg h1, if_neg h1]
  obtain ⟨tr, -, htr, rfl⟩ := isIn_yes (a := 0) (b := 2) (by omega) (by omega) h1
  obtain ⟨n, o, M', T', r1, r2, r3, r4⟩ := best_at hR tr
  rw [b2_s r1, b2_s r2]
  cases o with
  | none => exact ⟨-3, M', T', by rw [if_neg (show ¬ 0 ≤ noB (-3) none by decide)], by rw [if_neg (show ¬ 0 ≤ noB (-1) none by decide)], r4⟩
  | some b =>
    obtain ⟨q1, q2, q3⟩ := r3 b rfl
    exact ⟨_, M', T', by rw [if_pos (show 0 ≤ noB (-3) (some b) from nI_pos' (by omega)), b1_s (show fX11_priceOf M' (noB (-3) (some b)) = _ from q2)], by rw [if_pos (show 0 ≤ noB (-1) (some b) from nI_pos' (by omega)), b1_s (show fX12_priceOf T' (noB (-1) (some b)) = _ from q3)], r4⟩
theorem pm_whom {M T : mM} (hR : Rel M T) (a0 : Int32) : ∃ (r : Int32) (M' : mM) (T' : mM), fX11_whom M a0 = some (r, M') ∧ fX12_whom T a0 = some (r, T') ∧ Rel M' T' := by
  unfold fX11_whom fX12_whom
  rw [show fX12_in (Int32.toInt64 a0) 0 2 = fX11_isIn a0 0 2 from in_eq a0 0 2]
  by_cases h1 : fX11_isIn a0 0 2 = 0
  · exact ⟨-1, M, T, by rw [if_pos h1], by rw [if_pos h1], hR⟩
  rw [if_neg h1, if_neg h1]
  obtain ⟨tr, -, htr, rfl⟩ := isIn_yes (a := 0) (b := 2) (by omega) (by omega) h1
  obtain ⟨n, o, M', T', r1, r2, r3, r4⟩ := best_at hR tr
  rw [b2_s r1, b2_s r2]
  cases o with
  | none => exact ⟨-3, M', T', rfl, by rw [if_neg (show ¬ 0 ≤ noB (-1) none by decide)], r4⟩
  | some b =>
    obtain ⟨q1, q2, q3⟩ := r3 b rfl
    exact ⟨nI b, M', T', rfl, by rw [if_pos (show 0 ≤ noB (-1) (some b) from nI_pos' (by omega))]; rfl, r4⟩
