/-! THE RELATION of the class's memory and the model's -/
def Rvo (X : mM) (t : Nat → Int32) (aw p : Nat) : Prop := ∃ k w g c : Nat, (1 ≤ k ∧ k ≤ 5 ∧ w < 24 ∧ 1 ≤ g ∧ g ≤ 9 ∧ c ≤ 99) ∧ (X 1 p = nI k ∧ X 2 p = nI w ∧ X 3 p = nI g ∧ X 4 p = nI c) ∧ (t (8 + 5 * p) = nI k ∧ t (9 + 5 * p) = nI w ∧ t (10 + 5 * p) = nI g ∧ t (11 + 5 * p) = nI c ∧ t (12 + 5 * p) = nI (aw / 2 ^ p % 2))
def Rv (X : mM) (t : Nat → Int32) (n aw h no li la : Nat) : Prop :=
  (n ≤ 7 ∧ aw < 2 ^ n ∧ h < 24 ∧ no ≤ 9999 ∧ li ≤ 99 ∧ la < 24) ∧ (X 0 0 = nI n ∧ X 0 5 = nI aw ∧ X 0 6 = nI h ∧ X 0 7 = nI no ∧ X 0 8 = nI li ∧ X 0 9 = nI la) ∧ (t 0 = nI n ∧ t 1 = nI h ∧ t 2 = nI no ∧ t 3 = nI li ∧ t 4 = nI la ∧ t 5 = X 0 10) ∧ ∀ p, p < n → Rvo X t aw p
def Rr (X : mM) (t : Nat → Int32) (rp : Nat) : Prop := rp ≤ 6 ∧ X 0 11 = nI rp ∧ t 6 = nI rp ∧ ∀ k, k < rp → ∃ a b : Nat, a ≤ 60 ∧ b < 24 ∧ X 5 k = nI a ∧ X 6 k = nI b ∧ t (43 + 2 * k) = nI a ∧ t (44 + 2 * k) = nI b
/-- a step of the class's conditions as the model's signs -/
def encV (X : mM) (v : Nat) : Int32 := if v < 5 then -1 - nI v else X 15 v
def encS (X : mM) (j : Nat) : List Int32 :=
  if X 12 j = 31 then [encV X (X 13 j).toNatClampNeg, encV X (X 14 j).toNatClampNeg, -11]
  else if X 12 j = 32 then [encV X (X 13 j).toNatClampNeg, encV X (X 14 j).toNatClampNeg, -12]
  else if X 12 j = 33 then [encV X (X 13 j).toNatClampNeg, encV X (X 14 j).toNatClampNeg, -13]
  else if X 12 j = 23 then [-14] else if X 12 j = 21 then [-15] else [-16]
/-- a row of steps from a on, d of them -/
def encL (X : mM) (a : Nat) : Nat → List Int32
  | 0 => []
  | d + 1 => encS X a ++ encL X (a + 1) d
/-- a condition's code is well made: what each step takes lies on the stack; how many truths are left -/
def okL (X : mM) (vc a : Nat) : Nat → Nat → Option Nat
  | 0, k => some k
  | d + 1, k => if ix (X 13 a) vc = true ∧ ix (X 14 a) vc = true then
    (if X 12 a = 31 ∨ X 12 a = 32 ∨ X 12 a = 33 then (if k < 20 then okL X vc (a + 1) d (k + 1) else none)
    else if X 12 a = 23 then (if 1 ≤ k then okL X vc (a + 1) d k else none)
    else if X 12 a = 21 ∨ X 12 a = 22 then (if 2 ≤ k then okL X vc (a + 1) d (k - 1) else none) else none) else none
def Rl (X : mM) (t : Nat → Int32) : Prop := ∃ (rc st vc : Nat) (se fr to : Nat → Nat), rc ≤ 8 ∧ st ≤ 200 ∧ 5 ≤ vc ∧ vc ≤ 205 ∧ X 7 0 = nI rc ∧ X 7 5 = nI st ∧ X 7 9 = nI vc ∧ t 7 = nI rc ∧ se 0 = 0 ∧ (∀ v, 5 ≤ v → v < vc → ∃ z, z ≤ 9999 ∧ X 15 v = nI z) ∧
  ∀ r, r < rc → ∃ k d b : Nat, k ≤ 5 ∧ d ≤ 2 ∧ b ≤ 99 ∧ X 8 r = nI k ∧ X 9 r = nI (24 + d) ∧ X 10 r = nI b ∧ t (55 + 5 * r) = nI k ∧ t (56 + 5 * r) = nI d ∧ t (57 + 5 * r) = nI b ∧
    X 11 r = nI (se (r + 1)) ∧ se r ≤ se (r + 1) ∧ se (r + 1) ≤ st ∧ t (58 + 5 * r) = nI (fr r) ∧ t (59 + 5 * r) = nI (to r) ∧ fr r ≤ to r ∧ to r ≤ 200 ∧
    (okL X vc (se r) (se (r + 1) - se r) 0 = some 1 ∨ se (r + 1) = se r) ∧ (List.range (to r - fr r)).map (fun i => t (95 + fr r + i)) = encL X (se r) (se (r + 1) - se r)
/-- a whole republic -/
def Rp (X : mM) (t : Nat → Int32) : Prop := (∃ n aw h no li la : Nat, Rv X t n aw h no li la) ∧ (∃ rp : Nat, Rr X t rp) ∧ Rl X t
abbrev nowC (M : mM) : mM := fun q => M (1 + q)
abbrev keptC (M : mM) : mM := fun q => M (17 + q)
-- what a VOTER weighs, and SUM
def valS (X : mM) (f : Nat → Int32) (v : Int32) : Int32 := if v.toNatClampNeg < 5 then f v.toNatClampNeg else X 15 v.toNatClampNeg
def stS (X : mM) (f : Nat → Int32) (a : Nat) (s : List Bool) : List Bool :=
  if X 12 a = 31 then decide (valS X f (X 13 a) < valS X f (X 14 a)) :: s
  else if X 12 a = 32 then decide (valS X f (X 13 a) = valS X f (X 14 a)) :: s
  else if X 12 a = 33 then decide (valS X f (X 14 a) < valS X f (X 13 a)) :: s
  else if X 12 a = 23 then (match s with | b :: u => (!b) :: u | [] => [])
  else if X 12 a = 21 then (match s with | b :: c :: u => (c && b) :: u | u => u)
  else (match s with | b :: c :: u => (c || b) :: u | u => u)
def runS (X : mM) (f : Nat → Int32) (a : Nat) : Nat → List Bool → List Bool
  | 0, s => s
  | d + 1, s => runS X f (a + 1) d (stS X f a s)
def fromS (X : mM) (r : Nat) : Nat := if r = 0 then 0 else (X 11 (r - 1)).toNatClampNeg
def condS (X : mM) (f : Nat → Int32) (r : Nat) : Bool := (runS X f (fromS X r) ((X 11 r).toNatClampNeg - fromS X r) []).headD true
/-- a KIND is one, or under it -/
def underS (k o : Nat) : Bool := decide (o = 0) || decide (o = k) || (decide (o = 2) && decide (k = 3)) || (decide (o = 4) && decide (k = 5))
def weighS (X : mM) (f : Nat → Int32) (k : Nat) (w : Int32) : Nat → Nat → Int32
  | 0, _ => w
  | m + 1, r => if underS k (X 8 r).toNatClampNeg && condS X f r then (if X 9 r = 24 then w + X 10 r else if X 9 r = 25 then jmax 0 (w - X 10 r) else 0) else weighS X f k w m (r + 1)
def factS (X : mM) (h cnt : Int32) (p : Nat) : Nat → Int32 := fun j => match j with
  | 0 => h
  | 1 => X 2 p
  | 2 => X 3 p
  | 3 => cnt
  | _ => nI p
def powS (X : mM) (h cnt : Int32) (p : Nat) : Int32 :=
  let w := weighS X (factS X h cnt p) (X 1 p).toNatClampNeg (X 3 p) (X 7 0).toNatClampNeg 0
  if X 1 p = 2 then (if 12 ≤ h then w + 2 else w) else if X 1 p = 3 then 3 * (if 12 ≤ h then w + 2 else w) else if X 1 p = 4 then w / 2 else if X 1 p = 5 then (if h < 6 then 0 else w / 2) else w
def voteS (w h : Nat) : Int32 := if (w + 24 - h) % 24 = 0 then 0 else if (w + 24 - h) % 24 ≤ 12 then 1 else -1
def cntS : Nat → Nat → Nat
  | 0, _ => 0
  | d + 1, set => cntS d set + set / 2 ^ d % 2
def sumS (X : mM) (h set : Nat) : Nat → Int32
  | 0 => 0
  | p + 1 => if set / 2 ^ p % 2 = 1 then sumS X h set p + voteS (X 2 p).toNatClampNeg h * powS X (nI h) (nI (cntS 7 set)) p else sumS X h set p
def SUM (X : mM) (h set : Nat) : Int32 := sumS X h set (X 0 0).toNatClampNeg
/-- the cache of SUMS is right -/
def Rs (M : mM) : Prop := ∀ h set : Nat, h < 24 → set < 128 → M 63 (h * 128 + set) = -1000000 ∨ M 63 (h * 128 + set) = SUM (nowC M) h set
def Rt (M T : mM) : Prop := ∃ z : Nat, z ≤ 200 ∧ M 33 0 = nI z ∧ T 0 5 = nI z ∧ ∀ k, k < z → ∃ b : Nat, b < 256 ∧ M 43 k = nI b ∧ T 4 k = nI b
def Rw (M T : mM) : Prop := ∃ r : Nat, r ≤ 4 ∧ M 0 12 = nI r ∧ T 0 20 = nI r ∧ ∀ k, k < 3 * r → M 67 k = T 9 k
def Rh (M T : mM) : Prop := (∀ s, s < 4 → (M 57 s = T 10 s ∧ (M 57 s = -1 ∨ ∃ z : Nat, z ≤ 4 ∧ M 57 s = nI z)) ∧ (∃ c : Nat, c ≤ 40 ∧ M 61 s = nI c ∧ T 11 s = nI c) ∧ ∀ i, i < (M 61 s).toNatClampNeg → M 62 (40 * s + i) = T 12 (40 * s + i)) ∧
  ∀ s, s < 4 → M 58 s = T 13 s ∧ ((M 58 s = 0 ∧ ∃ p : Nat, p < 7 ∧ M 60 s = nI p ∧ T 14 s = nI p) ∨ (M 58 s = 1 ∧ ∃ z c : Nat, z ≤ 4 ∧ c ≤ 40 ∧ M 59 s = nI z ∧ T 14 s = nI z ∧ M 60 s = nI c ∧ T 15 s = nI c) ∨ M 58 s = 2)
def Ra (M T : mM) : Prop := ∃ c : Nat, c ≤ 30 ∧ M 47 0 = nI c ∧ T 0 29 = nI c ∧ ∀ i, i < c → M 48 i = T 16 i
def Rk (M T : mM) : Prop := (M 0 2 = 0 ∧ T 0 2 = 0) ∨ (M 0 2 = 1 ∧ T 0 2 = 1 ∧ Rp (keptC M) (T 2))
/-- what holds ahead of every call -/
def Rel (M T : mM) : Prop := Rp (nowC M) (T 1) ∧ Rs M ∧ Rk M T ∧ Rt M T ∧ Rw M T ∧ Rh M T ∧ Ra M T
-- pieces
theorem isIn_eq (v a b : Int32) : fX11_isIn v a b = if a ≤ v ∧ v ≤ b then 1 else 0 := by
  unfold fX11_isIn
  by_cases h1 : v < a
  · rw [if_pos h1, if_neg (fun z => by have := Int32.lt_iff_toInt_lt.mp h1; have := Int32.le_iff_toInt_le.mp z.1; omega)]
  · rw [if_neg h1]
    by_cases h2 : b < v
    · rw [if_pos h2, if_neg (fun z => by have := Int32.lt_iff_toInt_lt.mp h2; have := Int32.le_iff_toInt_le.mp z.2; omega)]
    · rw [if_neg h2, if_pos ⟨Int32.not_lt.mp h1, Int32.not_lt.mp h2⟩]
theorem isIn_yes {v : Int32} {a b : Nat} (hab : a ≤ b) (hb : b < 2 ^ 31) (h : ¬ fX11_isIn v (nI a) (nI b) = 0) : ∃ n, a ≤ n ∧ n ≤ b ∧ v = nI n := by
  rw [isIn_eq] at h
  by_cases z : nI a ≤ v ∧ v ≤ nI b
  · have h0 : ¬ v < 0 := fun q => by
      have h1 := Int32.le_iff_toInt_le.mp z.1
      have h2 := Int32.lt_iff_toInt_lt.mp q
      rw [nI_toInt (by omega)] at h1
      simp at h2
      omega
    obtain ⟨n, hn, rfl⟩ := nI_of h0
    exact ⟨n, (nI_leI (by omega) hn).mp z.1, (nI_leI hn hb).mp z.2, rfl⟩
  · rw [if_neg z] at h; exact absurd rfl h
theorem isIn_t {a b n : Nat} (h1 : a ≤ n) (h2 : n ≤ b) (hb : b < 2 ^ 31) : fX11_isIn (nI n) (nI a) (nI b) = 1 := by
  rw [isIn_eq, if_pos ⟨(nI_leI (by omega) (by omega)).mpr h1, (nI_leI (by omega) (by omega)).mpr h2⟩]
theorem in_eq (v a b : Int32) : fX12_in (Int32.toInt64 v) (Int32.toInt64 a) (Int32.toInt64 b) = fX11_isIn v a b := by
  have key : ∀ x y : Int32, (lcmp (Int32.toInt64 x) (Int32.toInt64 y) < 0 ↔ x < y) ∧ (0 < lcmp (Int32.toInt64 x) (Int32.toInt64 y) ↔ y < x) := by
    intro x y
    have e1 : (Int32.toInt64 x > Int32.toInt64 y) ↔ y < x := by
      show Int32.toInt64 y < Int32.toInt64 x ↔ y < x
      rw [Int64.lt_iff_toInt_lt, Int32.lt_iff_toInt_lt, Int32.toInt_toInt64, Int32.toInt_toInt64]
    have e2 : (Int32.toInt64 x = Int32.toInt64 y) ↔ x = y := by
      rw [← Int64.toInt_inj, ← Int32.toInt_inj, Int32.toInt_toInt64, Int32.toInt_toInt64]
    unfold lcmp lg_cmp
    by_cases h1 : y < x
    · rw [if_pos (e1.mpr h1)]
      have := Int32.lt_iff_toInt_lt.mp h1
      exact ⟨⟨fun z => absurd z (by decide), fun z => by have := Int32.lt_iff_toInt_lt.mp z; omega⟩, ⟨fun _ => h1, fun _ => by decide⟩⟩
    · rw [if_neg (fun z => h1 (e1.mp z))]
      by_cases h2 : x = y
      · rw [if_pos (e2.mpr h2)]
        subst h2
        exact ⟨⟨fun z => absurd z (by decide), fun z => absurd z h1⟩, ⟨fun z => absurd z (by decide), fun z => absurd z h1⟩⟩
      · rw [if_neg (fun z => h2 (e2.mp z))]
        refine ⟨⟨fun _ => ?_, fun _ => by decide⟩, ⟨fun z => absurd z (by decide), fun z => absurd z h1⟩⟩
        have h3 := Int32.not_lt.mp h1
        have h4 := Int32.le_iff_toInt_le.mp h3
        have h5 : x.toInt ≠ y.toInt := fun z => h2 (Int32.toInt_inj.mp z)
        exact Int32.lt_iff_toInt_lt.mpr (by omega)
  unfold fX12_in fX11_isIn
  by_cases h1 : v < a
  · rw [if_pos ((key v a).1.mpr h1), if_pos h1]
  · rw [if_neg (fun z => h1 ((key v a).1.mp z)), if_neg h1]
    by_cases h2 : b < v
    · rw [if_pos ((key v b).2.mpr h2), if_pos h2]
    · rw [if_neg (fun z => h2 ((key v b).2.mp z)), if_neg h2]
theorem isHour_eq (v : Int32) : fX12_isHour v = fX11_isHour v := in_eq v 0 23
theorem isHour_yes {v : Int32} (h : ¬ fX11_isHour v = 0) : ∃ n, n < 24 ∧ v = nI n := by
  obtain ⟨n, -, h2, h3⟩ := isIn_yes (a := 0) (b := 23) (by omega) (by omega) h
  exact ⟨n, by omega, h3⟩
-- the model's row
theorem tn_nI {n : Nat} (h : n < 2 ^ 31) : (nI n).toNatClampNeg = n := nI_clamp h
theorem gx {α : Type} {k : Nat} {x : Option α} (h : k < 295) : gd (ix (nI k) 295) x = x := gd_t (ix_nI h (by omega))
theorem becomes_at (T : mM) (k : Nat) (v : Int32) (h : k < 295) : fX12_becomes T (nI k) v = some (T 1 k, wr T 1 k v) := by
  unfold fX12_becomes
  rw [gx h, gx h, tn_nI (by omega)]
