/-! truths as bits; what holds, by the class -/
theorem ny_and (a b : Nat) : nI a &&& nI b = nI (a &&& b) := by
  apply Int32.toBitVec_inj.1
  show BitVec.ofNat 32 a &&& BitVec.ofNat 32 b = BitVec.ofNat 32 (a &&& b)
  apply BitVec.eq_of_getLsbD_eq
  intro i hi
  simp [hi]
theorem ny_or (a b : Nat) : nI a ||| nI b = nI (a ||| b) := by
  apply Int32.toBitVec_inj.1
  show BitVec.ofNat 32 a ||| BitVec.ofNat 32 b = BitVec.ofNat 32 (a ||| b)
  apply BitVec.eq_of_getLsbD_eq
  intro i hi
  simp [hi]
theorem ny_xor (a b : Nat) : nI a ^^^ nI b = nI (a ^^^ b) := by
  apply Int32.toBitVec_inj.1
  show BitVec.ofNat 32 a ^^^ BitVec.ofNat 32 b = BitVec.ofNat 32 (a ^^^ b)
  apply BitVec.eq_of_getLsbD_eq
  intro i hi
  simp [hi]
theorem or1 (m : Nat) : m ||| 1 = 2 * (m / 2) + 1 := by
  have h1 : (m ||| 1) / 2 = m / 2 := by rw [Nat.or_div_two]; simp
  have h2 : (m ||| 1) % 2 = 1 := by rw [Nat.or_mod_two_eq_one]; simp
  omega
theorem xor1 (m : Nat) : m ^^^ 1 = 2 * (m / 2) + (1 - m % 2) := by
  have h1 : (m ^^^ 1) / 2 = m / 2 := by rw [Nat.xor_div_two]; simp
  have h2 : (m ^^^ 1) % 2 = 1 - m % 2 := by
    have := Nat.xor_mod_two_pow (a := m) (b := 1) (n := 1)
    rw [show (2 : Nat) ^ 1 = 2 from rfl] at this
    rw [this]
    rcases Nat.mod_two_eq_zero_or_one m with h | h <;> rw [h] <;> rfl
  omega
theorem andm {y t : Nat} (hy : y < 2 ^ 31) : y &&& (t ||| 4294967294) = 2 * (y / 2) + (if y % 2 = 1 ∧ t % 2 = 1 then 1 else 0) := by
  have h1 : (y &&& (t ||| 4294967294)) / 2 = y / 2 := by
    rw [Nat.and_div_two, Nat.or_div_two, Nat.and_or_distrib_left, show (4294967294 : Nat) / 2 = 2 ^ 31 - 1 from rfl, Nat.and_two_pow_sub_one_eq_mod, Nat.mod_eq_of_lt (by omega)]
    apply Nat.eq_of_testBit_eq
    intro i
    rw [Nat.testBit_or, Nat.testBit_and]
    cases (y / 2).testBit i <;> simp
  have h2 : (y &&& (t ||| 4294967294)) % 2 = (if y % 2 = 1 ∧ t % 2 = 1 then 1 else 0) := by
    by_cases h : y % 2 = 1 ∧ t % 2 = 1
    · rw [if_pos h, Nat.and_mod_two_eq_one, Nat.or_mod_two_eq_one]
      exact ⟨h.1, Or.inl h.2⟩
    · rw [if_neg h]
      have : ¬ (y &&& (t ||| 4294967294)) % 2 = 1 := by
        rw [Nat.and_mod_two_eq_one, Nat.or_mod_two_eq_one]
        intro q
        rcases q with ⟨q1, q2 | q2⟩
        · exact h ⟨q1, q2⟩
        · exact absurd q2 (by decide)
      omega
  omega
/-- truths as the class keeps them -/
def trS : List Bool → Nat
  | [] => 1
  | b :: u => 2 * trS u + (if b then 1 else 0)
theorem trS_lt : ∀ s : List Bool, trS s < 2 ^ (s.length + 1) := by
  intro s
  induction s with
  | nil => decide
  | cons b u ih =>
    show 2 * trS u + (if b then 1 else 0) < 2 ^ (u.length + 1 + 1)
    rw [Nat.pow_succ]
    split <;> omega
theorem trS_le {s : List Bool} (h : s.length ≤ 20) : trS s < 2 ^ 21 :=
  Nat.lt_of_lt_of_le (trS_lt s) (Nat.pow_le_pow_right (by omega) (by omega))
theorem tr_push {t : Nat} (h : t < 2 ^ 22) : (nI t <<< (1 &&& 31)) = nI (2 * t) := by
  rw [pk_shlN (1 &&& 31) 1 (by decide) (by omega), Nat.mul_comm]
theorem tr_push0 {t : Nat} (h : t < 2 ^ 22) : (nI t <<< (1 &&& 31)) ||| 0 = nI (2 * t) := by
  rw [tr_push h, Int32.or_zero]
theorem tr_push1 {t : Nat} (h : t < 2 ^ 22) : (nI t <<< (1 &&& 31)) ||| 1 = nI (2 * t + 1) := by
  rw [tr_push h, show nI (2 * t) ||| 1 = nI (2 * t ||| 1) from ny_or _ 1, or1]
  congr 1
  omega
theorem tr_not {t : Nat} : nI t ^^^ 1 = nI (2 * (t / 2) + (1 - t % 2)) := by
  rw [show nI t ^^^ 1 = nI (t ^^^ 1) from ny_xor _ 1, xor1]
theorem tr_shr {t : Nat} (h : t < 2 ^ 31) : nI t >>> (1 &&& 31) = nI (t / 2) := pk_shrN h _ 1 (by decide)
theorem tr_and {t : Nat} (h : t < 2 ^ 31) : (nI t >>> (1 &&& 31)) &&& (nI t ||| (-2)) = nI (2 * (t / 2 / 2) + (if t / 2 % 2 = 1 ∧ t % 2 = 1 then 1 else 0)) := by
  rw [tr_shr h, show nI t ||| (-2) = nI (t ||| 4294967294) from ny_or _ 4294967294, ny_and, andm (by omega)]
theorem tr_or {t : Nat} (h : t < 2 ^ 31) : (nI t >>> (1 &&& 31)) ||| (nI t &&& 1) = nI (2 * (t / 2 / 2) + (if t / 2 % 2 = 1 ∨ t % 2 = 1 then 1 else 0)) := by
  rw [tr_shr h, show nI t &&& 1 = nI (t &&& 1) from ny_and _ 1, Nat.and_one_is_mod, ny_or]
  congr 1
  rcases Nat.mod_two_eq_zero_or_one t with z | z
  · rw [z, Nat.or_zero]
    split <;> omega
  · rw [z, or1, if_pos (Or.inr rfl)]
theorem ix_mono {v : Int32} {n m : Nat} (h : ix v n = true) (hn : n ≤ m) : ix v m = true := by
  simp only [ix, Bool.and_eq_true, decide_eq_true_eq] at h ⊢
  exact ⟨h.1, by omega⟩
theorem ix_ub {v : Int32} {n : Nat} (h : ix v n = true) : v.toNatClampNeg < n := by
  simp only [ix, Bool.and_eq_true, decide_eq_true_eq] at h
  exact h.2
/-- a step of a well made condition -/
theorem okL_step {X : mM} {vc a d k m : Nat} (h : okL X vc a (d + 1) k = some m) : ix (X 13 a) vc = true ∧ ix (X 14 a) vc = true ∧
    (((X 12 a = 31 ∨ X 12 a = 32 ∨ X 12 a = 33) ∧ k < 20 ∧ okL X vc (a + 1) d (k + 1) = some m) ∨ (X 12 a = 23 ∧ 1 ≤ k ∧ okL X vc (a + 1) d k = some m) ∨ ((X 12 a = 21 ∨ X 12 a = 22) ∧ 2 ≤ k ∧ okL X vc (a + 1) d (k - 1) = some m)) := by
  unfold okL at h
  split at h
  · next g =>
    refine ⟨g.1, g.2, ?_⟩
    split at h
    · next c =>
      split at h
      · next k20 => exact Or.inl ⟨c, k20, h⟩
      · exact absurd h (by simp)
    · split at h
      · next c =>
        split at h
        · next k1 => exact Or.inr (Or.inl ⟨c, k1, h⟩)
        · exact absurd h (by simp)
      · split at h
        · next c =>
          split at h
          · next k2 => exact Or.inr (Or.inr ⟨c, k2, h⟩)
          · exact absurd h (by simp)
        · exact absurd h (by simp)
  · exact absurd h (by simp)
theorem val_c {M : mM} {f : Nat → Int32} (hf : ∀ j, j < 5 → M 16 j = f j) (v : Int32) : valS (nowC M) f v = M 16 v.toNatClampNeg := by
  unfold valS
  by_cases h : v.toNatClampNeg < 5
  · rw [if_pos h, hf _ h]
  · rw [if_neg h]
theorem holdsC {M : mM} {f : Nat → Int32} (hf : ∀ j, j < 5 → M 16 j = f j) {vc e r m : Nat} (hvc : vc ≤ 205) (he : e ≤ 200) (hr : r < 8) (hE : M 12 r = nI e) :
    ∀ (d a : Nat) (s : List Bool) (fuel : Nat), a + d = e → okL (nowC M) vc a d s.length = some m → s.length ≤ 20 → d < fuel →
    fX6_holds_q8_L19 fuel M (nI r) (nI (trS s)) (nI a) = some (if (runS (nowC M) f a d s).headD true then 1 else 0) := by
  intro d
  induction d with
  | zero =>
    intro a s fuel h ho hs hfu
    obtain ⟨k, rfl⟩ : ∃ k, fuel = k + 1 := ⟨fuel - 1, by omega⟩
    show fX6_holds_q8_L19_b (fX6_holds_q8_L19 k) M (nI r) (nI (trS s)) (nI a) = _
    unfold fX6_holds_q8_L19_b
    have hlt := trS_le hs
    rw [gd_t (ix_nI hr (by omega)), tn_nI (by omega), hE, if_pos (nI_le (by omega) (by omega)), show nI (trS s) &&& 1 = nI (trS s &&& 1) from ny_and _ 1, Nat.and_one_is_mod]
    show _ = some (if s.headD true then 1 else 0)
    cases s with
    | nil => rfl
    | cons b u =>
      show (if nI ((2 * trS u + (if b then 1 else 0)) % 2) = 1 then some (1 : Int32) else some 0) = some (if b then 1 else 0)
      cases b
      · rw [show (2 * trS u + (if false = true then 1 else 0)) % 2 = 0 by simp]; rfl
      · rw [show (2 * trS u + (if true = true then 1 else 0)) % 2 = 1 by simp]; rfl
  | succ d ih =>
    intro a s fuel h ho hs hfu
    obtain ⟨k, rfl⟩ : ∃ k, fuel = k + 1 := ⟨fuel - 1, by omega⟩
    show fX6_holds_q8_L19_b (fX6_holds_q8_L19 k) M (nI r) (nI (trS s)) (nI a) = some (if (runS (nowC M) f (a + 1) d (stS (nowC M) f a s)).headD true then 1 else 0)
    obtain ⟨i1, i2, ho⟩ := okL_step ho
    have hlt := trS_le hs
    unfold fX6_holds_q8_L19_b
    rw [gd_t (ix_nI hr (by omega)), tn_nI (by omega), hE, if_neg (nI_ge (by omega) (by omega)), gd_t (ix_nI (by omega) (by omega)), tn_nI (by omega), gd_t (ix_mono i1 hvc), gd_t (ix_nI (by omega) (by omega)), gd_t (ix_mono i2 hvc), gd_t (ix_nI (by omega) (by omega)), nI_1]
    have v1 := val_c hf (M 14 a)
    have v2 := val_c hf (M 15 a)
    have c12 : nowC M 12 a = M 13 a := rfl
    have c13 : nowC M 13 a = M 14 a := rfl
    have c14 : nowC M 14 a = M 15 a := rfl
    rcases ho with ⟨c, k20, ho⟩ | ⟨c, k1, ho⟩ | ⟨c, k2, ho⟩
    · have push : ∀ (b : Bool), okL (nowC M) vc (a + 1) d (b :: s).length = some m → fX6_holds_q8_L19 k M (nI r) ((nI (trS s) <<< (1 &&& 31)) ||| (if b then 1 else 0)) (nI (a + 1)) = some (if (runS (nowC M) f (a + 1) d (b :: s)).headD true then 1 else 0) := fun b hb => by
        have e : ((nI (trS s) <<< (1 &&& 31)) ||| (if b then 1 else 0)) = nI (trS (b :: s)) := by
          cases b
          · exact tr_push0 (by omega)
          · exact tr_push1 (by omega)
        rw [e]
        exact ih (a + 1) (b :: s) k (by omega) hb (by show s.length + 1 ≤ 20; omega) (by omega)
      have o : ∀ b : Bool, okL (nowC M) vc (a + 1) d (b :: s).length = some m := fun b => ho
      rcases c with c | c | c
      · have c' : M 13 a = 31 := c
        have st : stS (nowC M) f a s = decide (M 16 (M 14 a).toNatClampNeg < M 16 (M 15 a).toNatClampNeg) :: s := by
          unfold stS
          rw [if_pos c, c13, c14, v1, v2]
        rw [c', st]
        simp only [show ¬ (31 : Int32) = 21 by decide, show ¬ (31 : Int32) = 22 by decide, show ¬ (31 : Int32) = 23 by decide, show ¬ (31 : Int32) = 24 by decide, show ¬ (31 : Int32) = 25 by decide, show ¬ (31 : Int32) = 26 by decide, show ¬ (31 : Int32) = 27 by decide, show ¬ (31 : Int32) = 28 by decide, show ¬ (31 : Int32) = 29 by decide, show ¬ (31 : Int32) = 30 by decide, if_false, if_true]
        by_cases g : M 16 (M 15 a).toNatClampNeg ≤ M 16 (M 14 a).toNatClampNeg
        · rw [if_pos g, decide_eq_false (Int32.not_lt.mpr g)]
          exact push false (o _)
        · rw [if_neg g, decide_eq_true (Int32.not_le.mp g)]
          exact push true (o _)
      · have c' : M 13 a = 32 := c
        have st : stS (nowC M) f a s = decide (M 16 (M 14 a).toNatClampNeg = M 16 (M 15 a).toNatClampNeg) :: s := by
          unfold stS
          rw [if_neg (by rw [c]; decide), if_pos c, c13, c14, v1, v2]
        rw [c', st]
        simp only [show ¬ (32 : Int32) = 21 by decide, show ¬ (32 : Int32) = 22 by decide, show ¬ (32 : Int32) = 23 by decide, show ¬ (32 : Int32) = 24 by decide, show ¬ (32 : Int32) = 25 by decide, show ¬ (32 : Int32) = 26 by decide, show ¬ (32 : Int32) = 27 by decide, show ¬ (32 : Int32) = 28 by decide, show ¬ (32 : Int32) = 29 by decide, show ¬ (32 : Int32) = 30 by decide, show ¬ (32 : Int32) = 31 by decide, if_false, if_true]
        by_cases g : M 16 (M 14 a).toNatClampNeg = M 16 (M 15 a).toNatClampNeg
        · rw [if_pos g, decide_eq_true g]
          exact push true (o _)
        · rw [if_neg g, decide_eq_false g]
          exact push false (o _)
      · have c' : M 13 a = 33 := c
        have st : stS (nowC M) f a s = decide (M 16 (M 15 a).toNatClampNeg < M 16 (M 14 a).toNatClampNeg) :: s := by
          unfold stS
          rw [if_neg (by rw [c]; decide), if_neg (by rw [c]; decide), if_pos c, c13, c14, v1, v2]
        rw [c', st]
        simp only [show ¬ (33 : Int32) = 21 by decide, show ¬ (33 : Int32) = 22 by decide, show ¬ (33 : Int32) = 23 by decide, show ¬ (33 : Int32) = 24 by decide, show ¬ (33 : Int32) = 25 by decide, show ¬ (33 : Int32) = 26 by decide, show ¬ (33 : Int32) = 27 by decide, show ¬ (33 : Int32) = 28 by decide, show ¬ (33 : Int32) = 29 by decide, show ¬ (33 : Int32) = 30 by decide, show ¬ (33 : Int32) = 31 by decide, show ¬ (33 : Int32) = 32 by decide, if_false, if_true]
        by_cases g : M 16 (M 14 a).toNatClampNeg ≤ M 16 (M 15 a).toNatClampNeg
        · rw [if_pos g, decide_eq_false (Int32.not_lt.mpr g)]
          exact push false (o _)
        · rw [if_neg g, decide_eq_true (Int32.not_le.mp g)]
          exact push true (o _)
    · obtain ⟨b, u, rfl⟩ : ∃ b u, s = b :: u := by
        cases s with
        | nil => exact absurd k1 (by decide)
        | cons b u => exact ⟨b, u, rfl⟩
      have c' : M 13 a = 23 := c
      have st : stS (nowC M) f a (b :: u) = (!b) :: u := by
        unfold stS
        rw [if_neg (by rw [c]; decide), if_neg (by rw [c]; decide), if_neg (by rw [c]; decide), if_pos c]
      rw [c', st, if_neg (by decide), if_neg (by decide), if_pos rfl, tr_not]
      have e : 2 * (trS (b :: u) / 2) + (1 - trS (b :: u) % 2) = trS ((!b) :: u) := by
        show 2 * ((2 * trS u + (if b then 1 else 0)) / 2) + (1 - (2 * trS u + (if b then 1 else 0)) % 2) = 2 * trS u + (if (!b) then 1 else 0)
        cases b
        · simp only [Bool.not_false, if_true, Bool.false_eq_true, if_false]; omega
        · simp only [Bool.not_true, if_true, Bool.false_eq_true, if_false]; omega
      rw [e]
      exact ih (a + 1) ((!b) :: u) k (by omega) ho hs (by omega)
    · obtain ⟨b, c2, u, rfl⟩ : ∃ b c2 u, s = b :: c2 :: u := by
        cases s with
        | nil => exact absurd k2 (by decide)
        | cons b u =>
          cases u with
          | nil => exact absurd k2 (show ¬ 2 ≤ 1 by decide)
          | cons c2 u => exact ⟨b, c2, u, rfl⟩
      have ho' : okL (nowC M) vc (a + 1) d (u.length + 1) = some m := ho
      have hs' : u.length + 1 + 1 ≤ 20 := hs
      have ez : trS (b :: c2 :: u) = 4 * trS u + 2 * (if c2 then 1 else 0) + (if b then 1 else 0) := by
        show 2 * (2 * trS u + (if c2 then 1 else 0)) + (if b then 1 else 0) = _
        omega
      have f1 : trS (b :: c2 :: u) / 2 / 2 = trS u := by rw [ez]; cases b <;> cases c2 <;> simp only [Bool.false_eq_true, if_true, if_false] <;> omega
      have f2 : (trS (b :: c2 :: u) / 2 % 2 = 1) = (c2 = true) := by rw [ez]; cases b <;> cases c2 <;> simp only [Bool.false_eq_true, if_true, if_false, eq_iff_iff, iff_true, iff_false] <;> omega
      have f3 : (trS (b :: c2 :: u) % 2 = 1) = (b = true) := by rw [ez]; cases b <;> cases c2 <;> simp only [Bool.false_eq_true, if_true, if_false, eq_iff_iff, iff_true, iff_false] <;> omega
      rcases c with c | c
      · have c' : M 13 a = 21 := c
        have st : stS (nowC M) f a (b :: c2 :: u) = (c2 && b) :: u := by
          unfold stS
          rw [if_neg (by rw [c]; decide), if_neg (by rw [c]; decide), if_neg (by rw [c]; decide), if_neg (by rw [c]; decide), if_pos c]
        rw [c', st, if_pos rfl, tr_and (by omega), f1]
        have e : 2 * trS u + (if trS (b :: c2 :: u) / 2 % 2 = 1 ∧ trS (b :: c2 :: u) % 2 = 1 then 1 else 0) = trS ((c2 && b) :: u) := by
          simp only [f2, f3]
          show _ = 2 * trS u + (if (c2 && b) then 1 else 0)
          cases b <;> cases c2 <;> rfl
        rw [e]
        exact ih (a + 1) ((c2 && b) :: u) k (by omega) ho' (by show u.length + 1 ≤ 20; omega) (by omega)
      · have c' : M 13 a = 22 := c
        have st : stS (nowC M) f a (b :: c2 :: u) = (c2 || b) :: u := by
          unfold stS
          rw [if_neg (by rw [c]; decide), if_neg (by rw [c]; decide), if_neg (by rw [c]; decide), if_neg (by rw [c]; decide), if_neg (by rw [c]; decide)]
        rw [c', st, if_neg (by decide), if_pos rfl, tr_or (by omega), f1]
        have e : 2 * trS u + (if trS (b :: c2 :: u) / 2 % 2 = 1 ∨ trS (b :: c2 :: u) % 2 = 1 then 1 else 0) = trS ((c2 || b) :: u) := by
          simp only [f2, f3]
          show _ = 2 * trS u + (if (c2 || b) then 1 else 0)
          cases b <;> cases c2 <;> rfl
        rw [e]
        exact ih (a + 1) ((c2 || b) :: u) k (by omega) ho' (by show u.length + 1 ≤ 20; omega) (by omega)
