/-! copies: keep, again (and what rules() copies) -/
theorem cpy_q {M : mM} {q0 q1 q : Nat} {n : Int32} (h : q ≠ q1) : cpy M q0 q1 0 0 n q = M q := va_up_ne _ _ h
theorem cpy_in {M : mM} {q0 q1 k n : Nat} (h : k < n) (hn : n < 2 ^ 31) : cpy M q0 q1 0 0 (nI n) q1 k = M q0 k := by
  unfold cpy
  rw [va_up_self, nI_clamp hn]
  exact (pk_cpy_in (Nat.zero_le _) (by show k < 0 + n; omega)).trans (by show M q0 (0 + (k - 0)) = _; rw [Nat.zero_add, Nat.sub_zero])
/-- a copy of laws, and of a whole republic -/
def LC1 (d s : Nat) (M : mM) : mM := wr M d 0 (M s 0)
def LC2 (d s : Nat) (M : mM) : mM := cpy (LC1 d s M) (s + 1) (d + 1) 0 0 8
def LC3 (d s : Nat) (M : mM) : mM := cpy (LC2 d s M) (s + 2) (d + 2) 0 0 8
def LC4 (d s : Nat) (M : mM) : mM := cpy (LC3 d s M) (s + 3) (d + 3) 0 0 8
def LC5 (d s : Nat) (M : mM) : mM := cpy (LC4 d s M) (s + 4) (d + 4) 0 0 8
def LC6 (d s : Nat) (M : mM) : mM := wr (LC5 d s M) d 5 ((LC5 d s M) s 5)
def LC7 (d s : Nat) (M : mM) : mM := cpy (LC6 d s M) (s + 5) (d + 5) 0 0 ((LC6 d s M) d 5)
def LC8 (d s : Nat) (M : mM) : mM := cpy (LC7 d s M) (s + 6) (d + 6) 0 0 ((LC7 d s M) d 5)
def LC9 (d s : Nat) (M : mM) : mM := cpy (LC8 d s M) (s + 7) (d + 7) 0 0 ((LC8 d s M) d 5)
def LC10 (d s : Nat) (M : mM) : mM := wr (LC9 d s M) d 9 ((LC9 d s M) s 9)
def LC11 (d s : Nat) (M : mM) : mM := cpy (LC10 d s M) (s + 8) (d + 8) 0 0 ((LC10 d s M) d 9)
theorem LC1_out {d s : Nat} {M : mM} {q : Nat} (h : q < d ∨ d + 8 < q) : LC1 d s M q = M q := (wr_q _ _ (by omega))
theorem LC2_out {d s : Nat} {M : mM} {q : Nat} (h : q < d ∨ d + 8 < q) : LC2 d s M q = M q := (cpy_q (by omega)).trans (LC1_out h)
theorem LC3_out {d s : Nat} {M : mM} {q : Nat} (h : q < d ∨ d + 8 < q) : LC3 d s M q = M q := (cpy_q (by omega)).trans (LC2_out h)
theorem LC4_out {d s : Nat} {M : mM} {q : Nat} (h : q < d ∨ d + 8 < q) : LC4 d s M q = M q := (cpy_q (by omega)).trans (LC3_out h)
theorem LC5_out {d s : Nat} {M : mM} {q : Nat} (h : q < d ∨ d + 8 < q) : LC5 d s M q = M q := (cpy_q (by omega)).trans (LC4_out h)
theorem LC6_out {d s : Nat} {M : mM} {q : Nat} (h : q < d ∨ d + 8 < q) : LC6 d s M q = M q := (wr_q _ _ (by omega)).trans (LC5_out h)
theorem LC7_out {d s : Nat} {M : mM} {q : Nat} (h : q < d ∨ d + 8 < q) : LC7 d s M q = M q := (cpy_q (by omega)).trans (LC6_out h)
theorem LC8_out {d s : Nat} {M : mM} {q : Nat} (h : q < d ∨ d + 8 < q) : LC8 d s M q = M q := (cpy_q (by omega)).trans (LC7_out h)
theorem LC9_out {d s : Nat} {M : mM} {q : Nat} (h : q < d ∨ d + 8 < q) : LC9 d s M q = M q := (cpy_q (by omega)).trans (LC8_out h)
theorem LC10_out {d s : Nat} {M : mM} {q : Nat} (h : q < d ∨ d + 8 < q) : LC10 d s M q = M q := (wr_q _ _ (by omega)).trans (LC9_out h)
theorem LC11_out {d s : Nat} {M : mM} {q : Nat} (h : q < d ∨ d + 8 < q) : LC11 d s M q = M q := (cpy_q (by omega)).trans (LC10_out h)
theorem LC_at (d s : Nat) (M : mM) {st vc : Nat} (hds : d + 9 ≤ s ∨ s + 9 ≤ d) (h5 : M s 5 = nI st) (hs : st ≤ 200) (h9 : M s 9 = nI vc) (hv : vc ≤ 205) :
    (LC6 d s M d 5 = nI st ∧ LC7 d s M d 5 = nI st ∧ LC8 d s M d 5 = nI st ∧ LC10 d s M d 9 = nI vc) ∧ (LC11 d s M d 0 = M s 0 ∧ LC11 d s M d 5 = M s 5 ∧ LC11 d s M d 9 = M s 9) ∧
    (∀ k, k < 8 → LC11 d s M (d + 1) k = M (s + 1) k ∧ LC11 d s M (d + 2) k = M (s + 2) k ∧ LC11 d s M (d + 3) k = M (s + 3) k ∧ LC11 d s M (d + 4) k = M (s + 4) k) ∧ (∀ k, k < st → LC11 d s M (d + 5) k = M (s + 5) k ∧ LC11 d s M (d + 6) k = M (s + 6) k ∧ LC11 d s M (d + 7) k = M (s + 7) k) ∧ (∀ k, k < vc → LC11 d s M (d + 8) k = M (s + 8) k) := by
  have a6 : LC6 d s M d 5 = nI st := (wr_s _ _ _ _).trans ((congrFun (LC5_out (by omega)) 5).trans h5)
  have a7 : LC7 d s M d 5 = nI st := (congrFun (cpy_q (by omega)) 5).trans a6
  have a8 : LC8 d s M d 5 = nI st := (congrFun (cpy_q (by omega)) 5).trans a7
  have a9 : LC9 d s M d 5 = nI st := (congrFun (cpy_q (by omega)) 5).trans a8
  have a10 : LC10 d s M d 9 = nI vc := (wr_s _ _ _ _).trans ((congrFun (LC9_out (by omega)) 9).trans h9)
  have z1 : LC1 d s M d 0 = M s 0 := wr_s _ _ _ _
  have z2 : LC2 d s M d 0 = M s 0 := (congrFun (cpy_q (by omega)) 0).trans z1
  have z3 : LC3 d s M d 0 = M s 0 := (congrFun (cpy_q (by omega)) 0).trans z2
  have z4 : LC4 d s M d 0 = M s 0 := (congrFun (cpy_q (by omega)) 0).trans z3
  have z5 : LC5 d s M d 0 = M s 0 := (congrFun (cpy_q (by omega)) 0).trans z4
  have z6 : LC6 d s M d 0 = M s 0 := (wr_k _ (by omega)).trans z5
  have z7 : LC7 d s M d 0 = M s 0 := (congrFun (cpy_q (by omega)) 0).trans z6
  have z8 : LC8 d s M d 0 = M s 0 := (congrFun (cpy_q (by omega)) 0).trans z7
  have z9 : LC9 d s M d 0 = M s 0 := (congrFun (cpy_q (by omega)) 0).trans z8
  have z10 : LC10 d s M d 0 = M s 0 := (wr_k _ (by omega)).trans z9
  have b10 : LC10 d s M d 5 = nI st := (wr_k _ (by omega)).trans a9
  have t : ∀ j, j ≠ 0 → j ≠ 5 → j ≠ 6 → j ≠ 7 → j ≠ 8 → LC11 d s M (d + j) = LC5 d s M (d + j) := fun j h0 h5 h6 h7 h8 =>
    (cpy_q (by omega)).trans ((wr_q _ _ (by omega)).trans ((cpy_q (by omega)).trans ((cpy_q (by omega)).trans ((cpy_q (by omega)).trans (wr_q _ _ (by omega))))))
  refine ⟨⟨a6, a7, a8, a10⟩, ⟨(congrFun (cpy_q (by omega)) 0).trans z10, ((congrFun (cpy_q (by omega)) 5).trans b10).trans h5.symm, ((congrFun (cpy_q (by omega)) 9).trans a10).trans h9.symm⟩, fun k hk => ⟨?_, ?_, ?_, ?_⟩, fun k hk => ⟨?_, ?_, ?_⟩, fun k hk => ?_⟩
  · rw [t 1 (by omega) (by omega) (by omega) (by omega) (by omega)]
    exact (congrFun ((cpy_q (by omega)).trans ((cpy_q (by omega)).trans (cpy_q (by omega)))) k).trans ((cpy_in (n := 8) hk (by omega)).trans (congrFun (LC1_out (by omega)) k))
  · rw [t 2 (by omega) (by omega) (by omega) (by omega) (by omega)]
    exact (congrFun ((cpy_q (by omega)).trans (cpy_q (by omega))) k).trans ((cpy_in (n := 8) hk (by omega)).trans (congrFun (LC2_out (by omega)) k))
  · rw [t 3 (by omega) (by omega) (by omega) (by omega) (by omega)]
    exact (congrFun (cpy_q (by omega)) k).trans ((cpy_in (n := 8) hk (by omega)).trans (congrFun (LC3_out (by omega)) k))
  · rw [t 4 (by omega) (by omega) (by omega) (by omega) (by omega)]
    exact (cpy_in (n := 8) hk (by omega)).trans (congrFun (LC4_out (by omega)) k)
  · have e : LC7 d s M (d + 5) k = M (s + 5) k := by
      unfold LC7
      rw [a6, cpy_in hk (by omega)]
      exact congrFun (LC6_out (by omega)) k
    exact (congrFun ((cpy_q (by omega)).trans ((wr_q _ _ (by omega)).trans ((cpy_q (by omega)).trans (cpy_q (by omega))))) k).trans e
  · have e : LC8 d s M (d + 6) k = M (s + 6) k := by
      unfold LC8
      rw [a7, cpy_in hk (by omega)]
      exact congrFun (LC7_out (by omega)) k
    exact (congrFun ((cpy_q (by omega)).trans ((wr_q _ _ (by omega)).trans (cpy_q (by omega)))) k).trans e
  · have e : LC9 d s M (d + 7) k = M (s + 7) k := by
      unfold LC9
      rw [a8, cpy_in hk (by omega)]
      exact congrFun (LC8_out (by omega)) k
    exact (congrFun ((cpy_q (by omega)).trans (wr_q _ _ (by omega))) k).trans e
  · have e : LC11 d s M (d + 8) k = M (s + 8) k := by
      unfold LC11
      rw [a10, cpy_in hk (by omega)]
      exact congrFun (LC10_out (by omega)) k
    exact e
theorem g888 {x : Option (Int32 × mM)} : gd (cpok 0 0 8 8 8) x = x := rfl
theorem g777 {x : Option (Int32 × mM)} : gd (cpok 0 0 7 7 7) x = x := rfl
theorem g666 {x : Option (Int32 × mM)} : gd (cpok 0 0 6 6 6) x = x := rfl
theorem cpok_t {n m : Nat} (h : n ≤ m) (hm : m < 2 ^ 31) : cpok 0 0 (nI n) m m = true := by
  unfold cpok
  rw [nI_clamp (by omega), show Int32.toNatClampNeg 0 = 0 from rfl]
  simp only [Bool.and_eq_true, decide_eq_true_eq]
  exact ⟨⟨⟨⟨by decide, by decide⟩, nI_pos' (by omega)⟩, by omega⟩, by omega⟩
theorem LC_24_8 (M : mM) {st vc : Nat} (h5 : M 8 5 = nI st) (hs : st ≤ 200) (h9 : M 8 9 = nI vc) (hv : vc ≤ 205) : fX6_copyFrom_q24_q8 M = some (0, LC11 24 8 M) := by
  obtain ⟨⟨a6, a7, a8, a10⟩, -⟩ := LC_at 24 8 M (by omega) h5 hs h9 hv
  show gd (cpok 0 0 8 8 8) (gd (cpok 0 0 8 8 8) (gd (cpok 0 0 8 8 8) (gd (cpok 0 0 8 8 8) (gd (cpok 0 0 (LC6 24 8 M 24 5) 200 200) (gd (cpok 0 0 (LC7 24 8 M 24 5) 200 200) (gd (cpok 0 0 (LC8 24 8 M 24 5) 200 200) (gd (cpok 0 0 (LC10 24 8 M 24 9) 205 205) (some (0, LC11 24 8 M))))))))) = _
  rw [a6, a7, a8, a10, g888, g888, g888, g888, gd_t (cpok_t hs (by omega)), gd_t (cpok_t hs (by omega)), gd_t (cpok_t hs (by omega)), gd_t (cpok_t hv (by omega))]
theorem LC_8_24 (M : mM) {st vc : Nat} (h5 : M 24 5 = nI st) (hs : st ≤ 200) (h9 : M 24 9 = nI vc) (hv : vc ≤ 205) : fX6_copyFrom_q8_q24 M = some (0, LC11 8 24 M) := by
  obtain ⟨⟨a6, a7, a8, a10⟩, -⟩ := LC_at 8 24 M (by omega) h5 hs h9 hv
  show gd (cpok 0 0 8 8 8) (gd (cpok 0 0 8 8 8) (gd (cpok 0 0 8 8 8) (gd (cpok 0 0 8 8 8) (gd (cpok 0 0 (LC6 8 24 M 8 5) 200 200) (gd (cpok 0 0 (LC7 8 24 M 8 5) 200 200) (gd (cpok 0 0 (LC8 8 24 M 8 5) 200 200) (gd (cpok 0 0 (LC10 8 24 M 8 9) 205 205) (some (0, LC11 8 24 M))))))))) = _
  rw [a6, a7, a8, a10, g888, g888, g888, g888, gd_t (cpok_t hs (by omega)), gd_t (cpok_t hs (by omega)), gd_t (cpok_t hs (by omega)), gd_t (cpok_t hv (by omega))]
theorem LC_8_34 (M : mM) {st vc : Nat} (h5 : M 34 5 = nI st) (hs : st ≤ 200) (h9 : M 34 9 = nI vc) (hv : vc ≤ 205) : fX6_copyFrom_q8_q34 M = some (0, LC11 8 34 M) := by
  obtain ⟨⟨a6, a7, a8, a10⟩, -⟩ := LC_at 8 34 M (by omega) h5 hs h9 hv
  show gd (cpok 0 0 8 8 8) (gd (cpok 0 0 8 8 8) (gd (cpok 0 0 8 8 8) (gd (cpok 0 0 8 8 8) (gd (cpok 0 0 (LC6 8 34 M 8 5) 200 200) (gd (cpok 0 0 (LC7 8 34 M 8 5) 200 200) (gd (cpok 0 0 (LC8 8 34 M 8 5) 200 200) (gd (cpok 0 0 (LC10 8 34 M 8 9) 205 205) (some (0, LC11 8 34 M))))))))) = _
  rw [a6, a7, a8, a10, g888, g888, g888, g888, gd_t (cpok_t hs (by omega)), gd_t (cpok_t hs (by omega)), gd_t (cpok_t hs (by omega)), gd_t (cpok_t hv (by omega))]
def RC1 (d s : Nat) (M : mM) : mM := wr M d 0 (M s 0)
def RC2 (d s : Nat) (M : mM) : mM := cpy (RC1 d s M) (s + 1) (d + 1) 0 0 7
def RC3 (d s : Nat) (M : mM) : mM := cpy (RC2 d s M) (s + 2) (d + 2) 0 0 7
def RC4 (d s : Nat) (M : mM) : mM := cpy (RC3 d s M) (s + 3) (d + 3) 0 0 7
def RC5 (d s : Nat) (M : mM) : mM := cpy (RC4 d s M) (s + 4) (d + 4) 0 0 7
def RC6 (d s : Nat) (M : mM) : mM := wr (RC5 d s M) d 5 ((RC5 d s M) s 5)
def RC7 (d s : Nat) (M : mM) : mM := wr (RC6 d s M) d 6 ((RC6 d s M) s 6)
def RC8 (d s : Nat) (M : mM) : mM := wr (RC7 d s M) d 7 ((RC7 d s M) s 7)
def RC9 (d s : Nat) (M : mM) : mM := wr (RC8 d s M) d 8 ((RC8 d s M) s 8)
def RC10 (d s : Nat) (M : mM) : mM := wr (RC9 d s M) d 9 ((RC9 d s M) s 9)
def RC11 (d s : Nat) (M : mM) : mM := wr (RC10 d s M) d 10 ((RC10 d s M) s 10)
def RC12 (d s : Nat) (M : mM) : mM := wr (RC11 d s M) d 11 ((RC11 d s M) s 11)
def RC13 (d s : Nat) (M : mM) : mM := cpy (RC12 d s M) (s + 5) (d + 5) 0 0 6
def RC14 (d s : Nat) (M : mM) : mM := cpy (RC13 d s M) (s + 6) (d + 6) 0 0 6
theorem RC1_out {d s : Nat} {M : mM} {q : Nat} (h : q < d ∨ d + 6 < q) : RC1 d s M q = M q := (wr_q _ _ (by omega))
theorem RC2_out {d s : Nat} {M : mM} {q : Nat} (h : q < d ∨ d + 6 < q) : RC2 d s M q = M q := (cpy_q (by omega)).trans (RC1_out h)
theorem RC3_out {d s : Nat} {M : mM} {q : Nat} (h : q < d ∨ d + 6 < q) : RC3 d s M q = M q := (cpy_q (by omega)).trans (RC2_out h)
theorem RC4_out {d s : Nat} {M : mM} {q : Nat} (h : q < d ∨ d + 6 < q) : RC4 d s M q = M q := (cpy_q (by omega)).trans (RC3_out h)
theorem RC5_out {d s : Nat} {M : mM} {q : Nat} (h : q < d ∨ d + 6 < q) : RC5 d s M q = M q := (cpy_q (by omega)).trans (RC4_out h)
theorem RC6_out {d s : Nat} {M : mM} {q : Nat} (h : q < d ∨ d + 6 < q) : RC6 d s M q = M q := (wr_q _ _ (by omega)).trans (RC5_out h)
theorem RC7_out {d s : Nat} {M : mM} {q : Nat} (h : q < d ∨ d + 6 < q) : RC7 d s M q = M q := (wr_q _ _ (by omega)).trans (RC6_out h)
theorem RC8_out {d s : Nat} {M : mM} {q : Nat} (h : q < d ∨ d + 6 < q) : RC8 d s M q = M q := (wr_q _ _ (by omega)).trans (RC7_out h)
theorem RC9_out {d s : Nat} {M : mM} {q : Nat} (h : q < d ∨ d + 6 < q) : RC9 d s M q = M q := (wr_q _ _ (by omega)).trans (RC8_out h)
theorem RC10_out {d s : Nat} {M : mM} {q : Nat} (h : q < d ∨ d + 6 < q) : RC10 d s M q = M q := (wr_q _ _ (by omega)).trans (RC9_out h)
theorem RC11_out {d s : Nat} {M : mM} {q : Nat} (h : q < d ∨ d + 6 < q) : RC11 d s M q = M q := (wr_q _ _ (by omega)).trans (RC10_out h)
theorem RC12_out {d s : Nat} {M : mM} {q : Nat} (h : q < d ∨ d + 6 < q) : RC12 d s M q = M q := (wr_q _ _ (by omega)).trans (RC11_out h)
theorem RC13_out {d s : Nat} {M : mM} {q : Nat} (h : q < d ∨ d + 6 < q) : RC13 d s M q = M q := (cpy_q (by omega)).trans (RC12_out h)
theorem RC14_out {d s : Nat} {M : mM} {q : Nat} (h : q < d ∨ d + 6 < q) : RC14 d s M q = M q := (cpy_q (by omega)).trans (RC13_out h)
theorem RC_at (d s : Nat) (M : mM) (hds : d + 7 ≤ s ∨ s + 7 ≤ d) :
    (RC14 d s M d 0 = M s 0 ∧ ∀ k, 5 ≤ k → k ≤ 11 → RC14 d s M d k = M s k) ∧ (∀ k, k < 7 → RC14 d s M (d + 1) k = M (s + 1) k ∧ RC14 d s M (d + 2) k = M (s + 2) k ∧ RC14 d s M (d + 3) k = M (s + 3) k ∧ RC14 d s M (d + 4) k = M (s + 4) k) ∧ (∀ k, k < 6 → RC14 d s M (d + 5) k = M (s + 5) k ∧ RC14 d s M (d + 6) k = M (s + 6) k) := by
  have t : ∀ j, j ≠ 0 → j ≠ 5 → j ≠ 6 → RC14 d s M (d + j) = RC5 d s M (d + j) := fun j h0 h5 h6 =>
    (cpy_q (by omega)).trans ((cpy_q (by omega)).trans ((wr_q _ _ (by omega)).trans ((wr_q _ _ (by omega)).trans ((wr_q _ _ (by omega)).trans ((wr_q _ _ (by omega)).trans ((wr_q _ _ (by omega)).trans ((wr_q _ _ (by omega)).trans (wr_q _ _ (by omega)))))))))
  have u : RC14 d s M d = RC12 d s M d := (cpy_q (by omega)).trans (cpy_q (by omega))
  have v : ∀ k, k ≠ 5 → k ≠ 6 → k ≠ 7 → k ≠ 8 → k ≠ 9 → k ≠ 10 → k ≠ 11 → RC12 d s M d k = RC5 d s M d k := fun k h5 h6 h7 h8 h9 h10 h11 =>
    (wr_k _ h11).trans ((wr_k _ h10).trans ((wr_k _ h9).trans ((wr_k _ h8).trans ((wr_k _ h7).trans ((wr_k _ h6).trans (wr_k _ h5))))))
  refine ⟨⟨?_, ?_⟩, fun k hk => ⟨?_, ?_, ?_, ?_⟩, fun k hk => ⟨?_, ?_⟩⟩
  · rw [u, v 0 (by omega) (by omega) (by omega) (by omega) (by omega) (by omega) (by omega)]
    exact (congrFun ((cpy_q (by omega)).trans ((cpy_q (by omega)).trans ((cpy_q (by omega)).trans (cpy_q (by omega))))) 0).trans (wr_s _ _ _ _)
  · rw [u]
    have w6 : RC6 d s M d 5 = M s 5 := (wr_s _ _ _ _).trans (congrFun (RC5_out (by omega)) 5)
    have w7 : RC7 d s M d 6 = M s 6 := (wr_s _ _ _ _).trans (congrFun (RC6_out (by omega)) 6)
    have w8 : RC8 d s M d 7 = M s 7 := (wr_s _ _ _ _).trans (congrFun (RC7_out (by omega)) 7)
    have w9 : RC9 d s M d 8 = M s 8 := (wr_s _ _ _ _).trans (congrFun (RC8_out (by omega)) 8)
    have w10 : RC10 d s M d 9 = M s 9 := (wr_s _ _ _ _).trans (congrFun (RC9_out (by omega)) 9)
    have w11 : RC11 d s M d 10 = M s 10 := (wr_s _ _ _ _).trans (congrFun (RC10_out (by omega)) 10)
    have w12 : RC12 d s M d 11 = M s 11 := (wr_s _ _ _ _).trans (congrFun (RC11_out (by omega)) 11)
    intro k h5 h11
    rcases (by omega : k = 5 ∨ k = 6 ∨ k = 7 ∨ k = 8 ∨ k = 9 ∨ k = 10 ∨ k = 11) with rfl | rfl | rfl | rfl | rfl | rfl | rfl
    · exact (wr_k _ (by omega)).trans ((wr_k _ (by omega)).trans ((wr_k _ (by omega)).trans ((wr_k _ (by omega)).trans ((wr_k _ (by omega)).trans ((wr_k _ (by omega)).trans w6)))))
    · exact (wr_k _ (by omega)).trans ((wr_k _ (by omega)).trans ((wr_k _ (by omega)).trans ((wr_k _ (by omega)).trans ((wr_k _ (by omega)).trans w7))))
    · exact (wr_k _ (by omega)).trans ((wr_k _ (by omega)).trans ((wr_k _ (by omega)).trans ((wr_k _ (by omega)).trans w8)))
    · exact (wr_k _ (by omega)).trans ((wr_k _ (by omega)).trans ((wr_k _ (by omega)).trans w9))
    · exact (wr_k _ (by omega)).trans ((wr_k _ (by omega)).trans w10)
    · exact (wr_k _ (by omega)).trans w11
    · exact w12
  · rw [t 1 (by omega) (by omega) (by omega)]
    exact (congrFun ((cpy_q (by omega)).trans ((cpy_q (by omega)).trans (cpy_q (by omega)))) k).trans ((cpy_in (n := 7) hk (by omega)).trans (congrFun (RC1_out (by omega)) k))
  · rw [t 2 (by omega) (by omega) (by omega)]
    exact (congrFun ((cpy_q (by omega)).trans (cpy_q (by omega))) k).trans ((cpy_in (n := 7) hk (by omega)).trans (congrFun (RC2_out (by omega)) k))
  · rw [t 3 (by omega) (by omega) (by omega)]
    exact (congrFun (cpy_q (by omega)) k).trans ((cpy_in (n := 7) hk (by omega)).trans (congrFun (RC3_out (by omega)) k))
  · rw [t 4 (by omega) (by omega) (by omega)]
    exact (cpy_in (n := 7) hk (by omega)).trans (congrFun (RC4_out (by omega)) k)
  · exact (congrFun (cpy_q (by omega)) k).trans ((cpy_in (n := 6) hk (by omega)).trans (congrFun (RC12_out (by omega)) k))
  · exact (cpy_in (n := 6) hk (by omega)).trans (congrFun (RC13_out (by omega)) k)
theorem RC_17_1 (M : mM) {st vc : Nat} (h5 : M 8 5 = nI st) (hs : st ≤ 200) (h9 : M 8 9 = nI vc) (hv : vc ≤ 205) : fX4_copyFrom_q17_q1 M = some (0, LC11 24 8 (RC14 17 1 M)) := by
  show gd (cpok 0 0 7 7 7) (gd (cpok 0 0 7 7 7) (gd (cpok 0 0 7 7 7) (gd (cpok 0 0 7 7 7) (gd (cpok 0 0 6 6 6) (gd (cpok 0 0 6 6 6) (b2 (fX6_copyFrom_q24_q8 (RC14 17 1 M)) fun r7 M9 => some (0, M9))))))) = _
  have e : RC14 17 1 M 8 = M 8 := RC14_out (by omega)
  rw [g777, g777, g777, g777, g666, g666, b2_s (LC_24_8 _ (by rw [e]; exact h5) hs (by rw [e]; exact h9) hv)]
/-- what the copy of a republic is -/
theorem RC_17_1_rp {M : mM} {t t' : Nat → Int32} (hp : Rp (fun q => M (1 + q)) t) (ht : ∀ k, k < 295 → t' k = t k) : ∃ st vc : Nat, (M 8 5 = nI st ∧ st ≤ 200 ∧ M 8 9 = nI vc ∧ vc ≤ 205) ∧ Rp (fun q => LC11 24 8 (RC14 17 1 M) (17 + q)) t' := by
  obtain ⟨⟨n, aw, h, no, li, la, a, b, c, hv⟩, ⟨rp, d1, d2, d3, d4⟩, hl⟩ := id hp
  obtain ⟨rc, st, vc, se, fr, to, e1, e2, e3, e4, e5, e6, e7, -⟩ := id hl
  refine ⟨st, vc, ⟨e6, e2, e7, e4⟩, ?_⟩
  have e : RC14 17 1 M 8 = M 8 := RC14_out (by omega)
  obtain ⟨-, l0, l1, l2, l3⟩ := LC_at 24 8 (RC14 17 1 M) (by omega) (by rw [e]; exact e6) e2 (by rw [e]; exact e7) e4
  obtain ⟨⟨r0, r0'⟩, r1, r2⟩ := RC_at 17 1 M (by omega)
  have o1 : ∀ q, q < 7 → LC11 24 8 (RC14 17 1 M) (17 + q) = RC14 17 1 M (17 + q) := fun q hq => LC11_out (by omega)
  have o2 : ∀ q, 7 ≤ q → q ≤ 15 → RC14 17 1 M (1 + q) = M (1 + q) := fun q h1 h2 => RC14_out (by omega)
  refine ⟨⟨n, aw, h, no, li, la, a, ?_, ?_, fun p hp => ?_⟩, ⟨rp, d1, ?_, ?_, fun k hk => ?_⟩, Rl_cpy hl ?_ (fun r hr => ?_) (fun j hj => ?_) (fun v h1 h2 => ?_) (fun k _ h2 => ht k h2)⟩
  · rw [show (fun q => LC11 24 8 (RC14 17 1 M) (17 + q)) 0 = RC14 17 1 M 17 from o1 0 (by omega), r0, r0' 5 (by omega) (by omega), r0' 6 (by omega) (by omega), r0' 7 (by omega) (by omega), r0' 8 (by omega) (by omega), r0' 9 (by omega) (by omega)]
    exact b
  · rw [show (fun q => LC11 24 8 (RC14 17 1 M) (17 + q)) 0 = RC14 17 1 M 17 from o1 0 (by omega), r0' 10 (by omega) (by omega), ht 0 (by omega), ht 1 (by omega), ht 2 (by omega), ht 3 (by omega), ht 4 (by omega), ht 5 (by omega)]
    exact c
  · have := hv p hp
    have hp7 : p < 7 := by omega
    unfold Rvo at this ⊢
    rw [show (fun q => LC11 24 8 (RC14 17 1 M) (17 + q)) 1 = RC14 17 1 M (17 + 1) from o1 1 (by omega), show (fun q => LC11 24 8 (RC14 17 1 M) (17 + q)) 2 = RC14 17 1 M (17 + 2) from o1 2 (by omega), show (fun q => LC11 24 8 (RC14 17 1 M) (17 + q)) 3 = RC14 17 1 M (17 + 3) from o1 3 (by omega), show (fun q => LC11 24 8 (RC14 17 1 M) (17 + q)) 4 = RC14 17 1 M (17 + 4) from o1 4 (by omega), (r1 p hp7).1, (r1 p hp7).2.1, (r1 p hp7).2.2.1, (r1 p hp7).2.2.2, ht _ (by omega), ht _ (by omega), ht _ (by omega), ht _ (by omega), ht _ (by omega)]
    exact this
  · rw [show (fun q => LC11 24 8 (RC14 17 1 M) (17 + q)) 0 = RC14 17 1 M 17 from o1 0 (by omega), r0' 11 (by omega) (by omega)]
    exact d2
  · rw [ht 6 (by omega)]; exact d3
  · rw [show (fun q => LC11 24 8 (RC14 17 1 M) (17 + q)) 5 = RC14 17 1 M (17 + 5) from o1 5 (by omega), show (fun q => LC11 24 8 (RC14 17 1 M) (17 + q)) 6 = RC14 17 1 M (17 + 6) from o1 6 (by omega), (r2 k (by omega)).1, (r2 k (by omega)).2, ht _ (by omega), ht _ (by omega)]
    exact d4 k hk
  · exact ⟨l0.1.trans (congrFun (o2 7 (by omega) (by omega)) 0), l0.2.1.trans (congrFun (o2 7 (by omega) (by omega)) 5), l0.2.2.trans (congrFun (o2 7 (by omega) (by omega)) 9)⟩
  · obtain ⟨w1, w2, w3, w4⟩ := l1 r hr
    exact ⟨w1.trans (congrFun (o2 8 (by omega) (by omega)) r), w2.trans (congrFun (o2 9 (by omega) (by omega)) r), w3.trans (congrFun (o2 10 (by omega) (by omega)) r), w4.trans (congrFun (o2 11 (by omega) (by omega)) r)⟩
  · have hj' : j < st := by
      have e6' : M (1 + 7) 5 = nI st := e6
      rw [show M (1 + 7) 5 = nI st from e6, nI_clamp (by omega)] at hj
      exact hj
    obtain ⟨w1, w2, w3⟩ := l2 j hj'
    exact ⟨w1.trans (congrFun (o2 12 (by omega) (by omega)) j), w2.trans (congrFun (o2 13 (by omega) (by omega)) j), w3.trans (congrFun (o2 14 (by omega) (by omega)) j)⟩
  · have hv' : v < vc := by
      rw [show M (1 + 7) 9 = nI vc from e7, nI_clamp (by omega)] at h2
      exact h2
    exact (l3 v hv').trans (congrFun (o2 15 (by omega) (by omega)) v)
theorem RC_1_17 (M : mM) {st vc : Nat} (h5 : M 24 5 = nI st) (hs : st ≤ 200) (h9 : M 24 9 = nI vc) (hv : vc ≤ 205) : fX4_copyFrom_q1_q17 M = some (0, LC11 8 24 (RC14 1 17 M)) := by
  show gd (cpok 0 0 7 7 7) (gd (cpok 0 0 7 7 7) (gd (cpok 0 0 7 7 7) (gd (cpok 0 0 7 7 7) (gd (cpok 0 0 6 6 6) (gd (cpok 0 0 6 6 6) (b2 (fX6_copyFrom_q8_q24 (RC14 1 17 M)) fun r7 M9 => some (0, M9))))))) = _
  have e : RC14 1 17 M 24 = M 24 := RC14_out (by omega)
  rw [g777, g777, g777, g777, g666, g666, b2_s (LC_8_24 _ (by rw [e]; exact h5) hs (by rw [e]; exact h9) hv)]
/-- what the copy of a republic is -/
theorem RC_1_17_rp {M : mM} {t t' : Nat → Int32} (hp : Rp (fun q => M (17 + q)) t) (ht : ∀ k, k < 295 → t' k = t k) : ∃ st vc : Nat, (M 24 5 = nI st ∧ st ≤ 200 ∧ M 24 9 = nI vc ∧ vc ≤ 205) ∧ Rp (fun q => LC11 8 24 (RC14 1 17 M) (1 + q)) t' := by
  obtain ⟨⟨n, aw, h, no, li, la, a, b, c, hv⟩, ⟨rp, d1, d2, d3, d4⟩, hl⟩ := id hp
  obtain ⟨rc, st, vc, se, fr, to, e1, e2, e3, e4, e5, e6, e7, -⟩ := id hl
  refine ⟨st, vc, ⟨e6, e2, e7, e4⟩, ?_⟩
  have e : RC14 1 17 M 24 = M 24 := RC14_out (by omega)
  obtain ⟨-, l0, l1, l2, l3⟩ := LC_at 8 24 (RC14 1 17 M) (by omega) (by rw [e]; exact e6) e2 (by rw [e]; exact e7) e4
  obtain ⟨⟨r0, r0'⟩, r1, r2⟩ := RC_at 1 17 M (by omega)
  have o1 : ∀ q, q < 7 → LC11 8 24 (RC14 1 17 M) (1 + q) = RC14 1 17 M (1 + q) := fun q hq => LC11_out (by omega)
  have o2 : ∀ q, 7 ≤ q → q ≤ 15 → RC14 1 17 M (17 + q) = M (17 + q) := fun q h1 h2 => RC14_out (by omega)
  refine ⟨⟨n, aw, h, no, li, la, a, ?_, ?_, fun p hp => ?_⟩, ⟨rp, d1, ?_, ?_, fun k hk => ?_⟩, Rl_cpy hl ?_ (fun r hr => ?_) (fun j hj => ?_) (fun v h1 h2 => ?_) (fun k _ h2 => ht k h2)⟩
  · rw [show (fun q => LC11 8 24 (RC14 1 17 M) (1 + q)) 0 = RC14 1 17 M 1 from o1 0 (by omega), r0, r0' 5 (by omega) (by omega), r0' 6 (by omega) (by omega), r0' 7 (by omega) (by omega), r0' 8 (by omega) (by omega), r0' 9 (by omega) (by omega)]
    exact b
  · rw [show (fun q => LC11 8 24 (RC14 1 17 M) (1 + q)) 0 = RC14 1 17 M 1 from o1 0 (by omega), r0' 10 (by omega) (by omega), ht 0 (by omega), ht 1 (by omega), ht 2 (by omega), ht 3 (by omega), ht 4 (by omega), ht 5 (by omega)]
    exact c
  · have := hv p hp
    have hp7 : p < 7 := by omega
    unfold Rvo at this ⊢
    rw [show (fun q => LC11 8 24 (RC14 1 17 M) (1 + q)) 1 = RC14 1 17 M (1 + 1) from o1 1 (by omega), show (fun q => LC11 8 24 (RC14 1 17 M) (1 + q)) 2 = RC14 1 17 M (1 + 2) from o1 2 (by omega), show (fun q => LC11 8 24 (RC14 1 17 M) (1 + q)) 3 = RC14 1 17 M (1 + 3) from o1 3 (by omega), show (fun q => LC11 8 24 (RC14 1 17 M) (1 + q)) 4 = RC14 1 17 M (1 + 4) from o1 4 (by omega), (r1 p hp7).1, (r1 p hp7).2.1, (r1 p hp7).2.2.1, (r1 p hp7).2.2.2, ht _ (by omega), ht _ (by omega), ht _ (by omega), ht _ (by omega), ht _ (by omega)]
    exact this
  · rw [show (fun q => LC11 8 24 (RC14 1 17 M) (1 + q)) 0 = RC14 1 17 M 1 from o1 0 (by omega), r0' 11 (by omega) (by omega)]
    exact d2
  · rw [ht 6 (by omega)]; exact d3
  · rw [show (fun q => LC11 8 24 (RC14 1 17 M) (1 + q)) 5 = RC14 1 17 M (1 + 5) from o1 5 (by omega), show (fun q => LC11 8 24 (RC14 1 17 M) (1 + q)) 6 = RC14 1 17 M (1 + 6) from o1 6 (by omega), (r2 k (by omega)).1, (r2 k (by omega)).2, ht _ (by omega), ht _ (by omega)]
    exact d4 k hk
  · exact ⟨l0.1.trans (congrFun (o2 7 (by omega) (by omega)) 0), l0.2.1.trans (congrFun (o2 7 (by omega) (by omega)) 5), l0.2.2.trans (congrFun (o2 7 (by omega) (by omega)) 9)⟩
  · obtain ⟨w1, w2, w3, w4⟩ := l1 r hr
    exact ⟨w1.trans (congrFun (o2 8 (by omega) (by omega)) r), w2.trans (congrFun (o2 9 (by omega) (by omega)) r), w3.trans (congrFun (o2 10 (by omega) (by omega)) r), w4.trans (congrFun (o2 11 (by omega) (by omega)) r)⟩
  · have hj' : j < st := by
      have e6' : M (17 + 7) 5 = nI st := e6
      rw [show M (17 + 7) 5 = nI st from e6, nI_clamp (by omega)] at hj
      exact hj
    obtain ⟨w1, w2, w3⟩ := l2 j hj'
    exact ⟨w1.trans (congrFun (o2 12 (by omega) (by omega)) j), w2.trans (congrFun (o2 13 (by omega) (by omega)) j), w3.trans (congrFun (o2 14 (by omega) (by omega)) j)⟩
  · have hv' : v < vc := by
      rw [show M (17 + 7) 9 = nI vc from e7, nI_clamp (by omega)] at h2
      exact h2
    exact (l3 v hv').trans (congrFun (o2 15 (by omega) (by omega)) v)
theorem become_1_2 : ∀ (d j fuel : Nat) (T : mM), j + d = 295 → d < fuel → fX12_become_q1_q2_L2 fuel T (nI j) = some (0, va_up T 2 (fun k => if j ≤ k ∧ k < 295 then T 1 k else T 2 k)) := by
  intro d
  induction d with
  | zero =>
    intro j fuel T h hf
    obtain ⟨n, rfl⟩ : ∃ n, fuel = n + 1 := ⟨fuel - 1, by omega⟩
    show fX12_become_q1_q2_L2_b (fX12_become_q1_q2_L2 n) T (nI j) = _
    unfold fX12_become_q1_q2_L2_b
    rw [if_pos (show (295 : Int32) ≤ nI j from nI_le (a := 295) (by omega) (by omega))]
    have e1 : va_up T 2 (fun k => if j ≤ k ∧ k < 295 then T 1 k else T 2 k) = T := by
      funext q k
      by_cases hq : q = 2
      · subst hq; rw [va_up_self, if_neg (by omega)]
      · rw [va_up_ne _ _ hq]
    rw [e1]
  | succ d ih =>
    intro j fuel T h hf
    obtain ⟨n, rfl⟩ : ∃ n, fuel = n + 1 := ⟨fuel - 1, by omega⟩
    show fX12_become_q1_q2_L2_b (fX12_become_q1_q2_L2 n) T (nI j) = _
    unfold fX12_become_q1_q2_L2_b
    rw [if_neg (show ¬ (295 : Int32) ≤ nI j from nI_ge (b := 295) (by omega) (by omega)), gx (by omega), gx (by omega), tn_nI (by omega), nI_1, ih (j + 1) n _ (by omega) (by omega)]
    congr 2
    funext q k
    by_cases hq : q = 2
    · subst hq
      rw [va_up_self, va_up_self, wr_q _ _ (show (1 : Nat) ≠ 2 by omega)]
      by_cases hk : k = j
      · subst hk
        rw [if_neg (by omega), wr_s, if_pos (by omega)]
      · rw [wr_k _ hk]
        by_cases h1 : j + 1 ≤ k ∧ k < 295
        · rw [if_pos h1, if_pos (by omega)]
        · rw [if_neg h1, if_neg (by omega)]
    · rw [va_up_ne _ _ hq, va_up_ne _ _ hq, wr_q _ _ hq]
theorem become_2_1 : ∀ (d j fuel : Nat) (T : mM), j + d = 295 → d < fuel → fX12_become_q2_q1_L2 fuel T (nI j) = some (0, va_up T 1 (fun k => if j ≤ k ∧ k < 295 then T 2 k else T 1 k)) := by
  intro d
  induction d with
  | zero =>
    intro j fuel T h hf
    obtain ⟨n, rfl⟩ : ∃ n, fuel = n + 1 := ⟨fuel - 1, by omega⟩
    show fX12_become_q2_q1_L2_b (fX12_become_q2_q1_L2 n) T (nI j) = _
    unfold fX12_become_q2_q1_L2_b
    rw [if_pos (show (295 : Int32) ≤ nI j from nI_le (a := 295) (by omega) (by omega))]
    have e1 : va_up T 1 (fun k => if j ≤ k ∧ k < 295 then T 2 k else T 1 k) = T := by
      funext q k
      by_cases hq : q = 1
      · subst hq; rw [va_up_self, if_neg (by omega)]
      · rw [va_up_ne _ _ hq]
    rw [e1]
  | succ d ih =>
    intro j fuel T h hf
    obtain ⟨n, rfl⟩ : ∃ n, fuel = n + 1 := ⟨fuel - 1, by omega⟩
    show fX12_become_q2_q1_L2_b (fX12_become_q2_q1_L2 n) T (nI j) = _
    unfold fX12_become_q2_q1_L2_b
    rw [if_neg (show ¬ (295 : Int32) ≤ nI j from nI_ge (b := 295) (by omega) (by omega)), gx (by omega), gx (by omega), tn_nI (by omega), nI_1, ih (j + 1) n _ (by omega) (by omega)]
    congr 2
    funext q k
    by_cases hq : q = 1
    · subst hq
      rw [va_up_self, va_up_self, wr_q _ _ (show (2 : Nat) ≠ 1 by omega)]
      by_cases hk : k = j
      · subst hk
        rw [if_neg (by omega), wr_s, if_pos (by omega)]
      · rw [wr_k _ hk]
        by_cases h1 : j + 1 ≤ k ∧ k < 295
        · rw [if_pos h1, if_pos (by omega)]
        · rw [if_neg h1, if_neg (by omega)]
    · rw [va_up_ne _ _ hq, va_up_ne _ _ hq, wr_q _ _ hq]
theorem pm_keep {M T : mM} (hR : Rel M T) : ∃ (r : Int32) (M' : mM) (T' : mM), fX11_keep M = some (r, M') ∧ fX12_keep T = some (r, T') ∧ Rel M' T' := by
  have e2 : ∀ k, k < 295 → (va_up T 2 (fun k => if 0 ≤ k ∧ k < 295 then T 1 k else T 2 k)) 2 k = T 1 k := fun k hk => by rw [va_up_self, if_pos (by omega)]
  obtain ⟨st, vc, ⟨c1, c2, c3, c4⟩, hp⟩ := RC_17_1_rp (M := M) hR.1 e2
  refine ⟨1, wr (LC11 24 8 (RC14 17 1 M)) 0 2 1, wr (va_up T 2 (fun k => if 0 ≤ k ∧ k < 295 then T 1 k else T 2 k)) 0 2 1, ?_, ?_, ?_⟩
  · unfold fX11_keep
    rw [b2_s (RC_17_1 M c1 c2 c3 c4)]
  · unfold fX12_keep fX12_become_q1_q2
    rw [b2_s (show fX12_become_q1_q2_L2 5000 T 0 = _ from become_1_2 295 0 5000 T (by omega) (by omega))]
  · obtain ⟨p, s, k, t, w, hh, a⟩ := hR
    have f1 : ∀ q, q ≠ 0 → q < 17 ∨ 32 < q → wr (LC11 24 8 (RC14 17 1 M)) 0 2 1 q = M q := fun q h1 h2 => by rw [wr_q _ _ h1, LC11_out (by omega), RC14_out (by omega)]
    have f0 : ∀ k, k ≠ 2 → wr (LC11 24 8 (RC14 17 1 M)) 0 2 1 0 k = M 0 k := fun k h1 => by rw [wr_k _ h1, LC11_out (by omega), RC14_out (by omega)]
    have g1 : ∀ q, q ≠ 0 → q ≠ 2 → wr (va_up T 2 (fun k => if 0 ≤ k ∧ k < 295 then T 1 k else T 2 k)) 0 2 1 q = T q := fun q h1 h2 => by rw [wr_q _ _ h1, va_up_ne _ _ h2]
    have g0 : ∀ k, k ≠ 2 → wr (va_up T 2 (fun k => if 0 ≤ k ∧ k < 295 then T 1 k else T 2 k)) 0 2 1 0 k = T 0 k := fun k h1 => by rw [wr_k _ h1, va_up_ne _ _ (by omega)]
    refine ⟨?_, ?_, Or.inr ⟨wr_s _ _ _ _, wr_s _ _ _ _, ?_⟩, ?_, ?_, ?_, ?_⟩
    · rw [g1 1 (by omega) (by omega)]; exact Rp_eq (fun q hq => f1 (1 + q) (by omega) (by omega)) p
    · exact s.keep (f1 63 (by omega) (by omega)) ⟨congrFun (f1 1 (by omega) (by omega)) 0, fun q h1 h2 _ => f1 (1 + q) (by omega) (by omega), fun k _ => congrFun (f1 16 (by omega) (by omega)) k⟩
    · refine Rp_eq (fun q hq => ?_) (show Rp (fun q => LC11 24 8 (RC14 17 1 M) (17 + q)) _ from hp)
      exact wr_q _ _ (by omega)
    · unfold Rt
      rw [f1 33 (by omega) (by omega), f1 43 (by omega) (by omega), g0 5 (by omega), g1 4 (by omega) (by omega)]
      exact t
    · unfold Rw
      rw [f0 12 (by omega), f1 67 (by omega) (by omega), g0 20 (by omega), g1 9 (by omega) (by omega)]
      exact w
    · unfold Rh
      rw [f1 57 (by omega) (by omega), f1 58 (by omega) (by omega), f1 59 (by omega) (by omega), f1 60 (by omega) (by omega), f1 61 (by omega) (by omega), f1 62 (by omega) (by omega), g1 10 (by omega) (by omega), g1 11 (by omega) (by omega), g1 12 (by omega) (by omega), g1 13 (by omega) (by omega), g1 14 (by omega) (by omega), g1 15 (by omega) (by omega)]
      exact hh
    · unfold Ra
      rw [f1 47 (by omega) (by omega), f1 48 (by omega) (by omega), g0 29 (by omega), g1 16 (by omega) (by omega)]
      exact a
theorem pm_again {M T : mM} (hR : Rel M T) : ∃ (r : Int32) (M' : mM) (T' : mM), fX11_again M = some (r, M') ∧ fX12_again T = some (r, T') ∧ Rel M' T' := by
  unfold fX11_again fX12_again
  rcases hR.2.2.1 with ⟨k1, k2⟩ | ⟨k1, k2, k3⟩
  · exact ⟨-3, M, T, by rw [if_pos k1], by rw [if_pos k2], hR⟩
  · rw [if_neg (by rw [k1]; decide), if_neg (by rw [k2]; decide)]
    have e2 : ∀ k, k < 295 → (va_up T 1 (fun k => if 0 ≤ k ∧ k < 295 then T 2 k else T 1 k)) 1 k = T 2 k := fun k hk => by rw [va_up_self, if_pos (by omega)]
    obtain ⟨st, vc, ⟨c1, c2, c3, c4⟩, hp⟩ := RC_1_17_rp (M := M) k3 e2
    obtain ⟨⟨n, n1, n2, n3⟩, -⟩ := Rp_vals hp
    refine ⟨nI n, cl63 (LC11 8 24 (RC14 1 17 M)), va_up T 1 (fun k => if 0 ≤ k ∧ k < 295 then T 2 k else T 1 k), ?_, ?_, ?_⟩
    · rw [b2_s (RC_1_17 M c1 c2 c3 c4), b2_s (p_forgetSums _), cl_ne (by omega)]
      exact congrArg (fun z => some (z, cl63 (LC11 8 24 (RC14 1 17 M)))) n2
    · unfold fX12_become_q2_q1
      rw [b2_s (show fX12_become_q2_q1_L2 5000 T 0 = _ from become_2_1 295 0 5000 T (by omega) (by omega)), g0N, c0N]
      exact congrArg (fun z => some (z, va_up T 1 (fun k => if 0 ≤ k ∧ k < 295 then T 2 k else T 1 k))) n3
    · have f1 : ∀ q, q < 1 ∨ 16 < q → LC11 8 24 (RC14 1 17 M) q = M q := fun q h2 => by rw [LC11_out (by omega), RC14_out (by omega)]
      refine hR.cl hp ⟨f1 0 (by omega), fun q h1 h2 => f1 q (by omega), f1 67 (by omega)⟩ ⟨by rw [va_up_ne _ _ (by omega)]; exact ⟨rfl, rfl, rfl, rfl⟩, va_up_ne _ _ (by omega), va_up_ne _ _ (by omega), fun q hq => va_up_ne _ _ (by omega)⟩
