/-! what a VOTER weighs and SUM, by the class -/
theorem holdsC_at {M : mM} {t f : Nat → Int32} (hl : Rl (nowC M) t) (hf : ∀ j, j < 5 → M 16 j = f j) {rc r : Nat} (hrc : M 8 0 = nI rc) (h8 : rc ≤ 8) (hr : r < rc) : fX6_holds_q8 M (nI r) = some (if condS (nowC M) f r then 1 else 0) := by
  obtain ⟨rc', st, vc, se, fr, to, e1, e2, e3, e4, e5, e6, e7, e8, e9, e10, e11⟩ := hl
  have er : rc' = rc := (nI_eq (by omega) (by omega)).mp (e5.symm.trans hrc)
  subst er
  obtain ⟨k, d, b, y1, y2, y3, y4, y5, y6, y7, y8, y9, y10, y11, y12, y13, y14, y15, y16, y17, y18⟩ := e11 r hr
  have hfrom : fromS (nowC M) r = se r := by
    unfold fromS
    by_cases h0 : r = 0
    · rw [if_pos h0, h0]; exact e9.symm
    · rw [if_neg h0]
      obtain ⟨k', d', b', z1, z2, z3, z4, z5, z6, z7, z8, z9, z10, z11, z12, z13, -⟩ := e11 (r - 1) (by omega)
      rw [z10, show r - 1 + 1 = r by omega]
      exact nI_clamp (by omega)
  have hend : (nowC M 11 r).toNatClampNeg = se (r + 1) := by rw [y10]; exact nI_clamp (by omega)
  have key : fX6_holds_q8_L18 M (nI r) 1 (nI (se r)) = some (if condS (nowC M) f r then 1 else 0) := by
    unfold fX6_holds_q8_L18 condS
    rw [hfrom, hend]
    rcases y17 with z | z
    · exact holdsC hf e4 (by omega) (by omega) y10 (se (r + 1) - se r) (se r) [] 5000 (by omega) z (by decide) (by omega)
    · refine holdsC (m := 0) (vc := vc) hf e4 (by omega) (by omega) y10 (se (r + 1) - se r) (se r) [] 5000 (by omega) ?_ (by decide) (by omega)
      rw [z, Nat.sub_self]; rfl
  unfold fX6_holds_q8
  by_cases h0 : r = 0
  · subst h0
    rw [if_pos (show nI 0 = 0 from rfl)]
    rw [e9] at key
    exact key
  · rw [if_neg (nI_ne0 (by omega) (by omega)), show nI r - 1 = nI (r - 1) from pk_sub (b := 1) (by omega), gd_t (ix_nI (by omega) (by omega)), tn_nI (by omega)]
    obtain ⟨k', d', b', z1, z2, z3, z4, z5, z6, z7, z8, z9, z10, -⟩ := e11 (r - 1) (by omega)
    rw [show r - 1 + 1 = r by omega] at z10
    rw [show M 12 (r - 1) = nI (se r) from z10]
    exact key
theorem under_c : ∀ k, k < 6 → ∀ o, o < 6 → fX11_isUnder (fun _ _ => 0) (nI k) (nI o) = if underS k o then 1 else 0 := by decide +kernel
theorem weighC {M : mM} {t f : Nat → Int32} (hl : Rl (nowC M) t) (hf : ∀ j, j < 5 → M 16 j = f j) {rc k : Nat} (hrc : M 8 0 = nI rc) (h8 : rc ≤ 8) (hk : k < 6) (w : Int32) :
    ∀ (m r fuel : Nat), r + m = rc → m < fuel → fX6_weigh_q8_L2 fuel M (nI k) w (nI r) = some (weighS (nowC M) f k w m r) := by
  intro m
  induction m with
  | zero =>
    intro r fuel h hfu
    obtain ⟨n, rfl⟩ : ∃ n, fuel = n + 1 := ⟨fuel - 1, by omega⟩
    show fX6_weigh_q8_L2_b (fX6_weigh_q8_L2 n) M (nI k) w (nI r) = _
    unfold fX6_weigh_q8_L2_b
    rw [hrc, if_pos (nI_le (by omega) (by omega))]
    rfl
  | succ m ih =>
    intro r fuel h hfu
    obtain ⟨n, rfl⟩ : ∃ n, fuel = n + 1 := ⟨fuel - 1, by omega⟩
    show fX6_weigh_q8_L2_b (fX6_weigh_q8_L2 n) M (nI k) w (nI r) = _
    unfold fX6_weigh_q8_L2_b
    have hl' := hl
    obtain ⟨rc', st, vc, se, fr, to, e1, e2, e3, e4, e5, e6, e7, e8, e9, e10, e11⟩ := hl
    have er : rc' = rc := (nI_eq (by omega) (by omega)).mp (e5.symm.trans hrc)
    subst er
    obtain ⟨o, d, b, y1, y2, y3, y4, y5, y6, -⟩ := e11 r (by omega)
    rw [hrc, if_neg (nI_ge (by omega) (by omega)), gd_t (ix_nI (by omega) (by omega)), tn_nI (by omega), gd_t (ix_nI (by omega) (by omega)), gd_t (ix_nI (by omega) (by omega)), gd_t (ix_nI (by omega) (by omega)), gd_t (ix_nI (by omega) (by omega)), nI_1, ih (r + 1) n (by omega) (by omega), b1_s (holdsC_at hl' hf hrc h8 (by omega))]
    rw [show M 9 r = nI o from y4, show fX11_isUnder M (nI k) (nI o) = if underS k o then 1 else 0 from under_c k hk o (by omega)]
    show _ = some (if underS k (nowC M 8 r).toNatClampNeg && condS (nowC M) f r then (if nowC M 9 r = 24 then w + nowC M 10 r else if nowC M 9 r = 25 then jmax 0 (w - nowC M 10 r) else 0) else weighS (nowC M) f k w m (r + 1))
    rw [y4, nI_clamp (by omega)]
    show _ = some (if (underS k o && condS (nowC M) f r) = true then (if M 10 r = 24 then w + M 11 r else if M 10 r = 25 then jmax 0 (w - M 11 r) else 0) else weighS (nowC M) f k w m (r + 1))
    cases underS k o
    · rfl
    · cases condS (nowC M) f r
      · rfl
      · show (if M 10 r = 24 then some (w + M 11 r) else if M 10 r = 25 then some (jmax 0 (w - M 11 r)) else some 0) = some (if M 10 r = 24 then w + M 11 r else if M 10 r = 25 then jmax 0 (w - M 11 r) else 0)
        by_cases g : M 10 r = 24
        · rw [if_pos g, if_pos g]
        · rw [if_neg g, if_neg g]
          by_cases g' : M 10 r = 25
          · rw [if_pos g', if_pos g']
          · rw [if_neg g', if_neg g']
/-- the memory behind powerAt -/
def PF (M : mM) (p : Nat) (h c : Int32) : mM := wr (wr (wr (wr (wr M 16 0 h) 16 1 (M 3 p)) 16 2 (M 4 p)) 16 3 c) 16 4 (nI p)
def eqK (M M' : mM) : Prop := (∀ q, q ≠ 16 → q ≠ 63 → M' q = M q) ∧ ∀ k, 5 ≤ k → M' 16 k = M 16 k
theorem eqK.refl (M : mM) : eqK M M := ⟨fun _ _ _ => rfl, fun _ _ => rfl⟩
theorem eqK.trans {A B C : mM} (h : eqK A B) (g : eqK B C) : eqK A C := ⟨fun q h1 h2 => (g.1 q h1 h2).trans (h.1 q h1 h2), fun k hk => (g.2 k hk).trans (h.2 k hk)⟩
theorem eqK.X {A B : mM} (h : eqK A B) : eqX (nowC A) (nowC B) := ⟨congrFun (h.1 1 (by omega) (by omega)) 0, fun q h1 h2 _ => h.1 (1 + q) (by omega) (by omega), fun k hk => h.2 k hk⟩
theorem eqK.L {A B : mM} {t : Nat → Int32} (h : eqK A B) (hl : Rl (nowC A) t) : Rl (nowC B) t := by
  have e : ∀ q, q ≤ 14 → nowC B q = nowC A q := fun q hq => h.1 (1 + q) (by omega) (by omega)
  refine Rl_cpy hl ?_ (fun r _ => ?_) (fun j _ => ?_) (fun v h1 _ => h.2 v h1) (fun _ _ _ => rfl)
  · rw [e 7 (by omega)]; exact ⟨rfl, rfl, rfl⟩
  · rw [e 8 (by omega), e 9 (by omega), e 10 (by omega), e 11 (by omega)]; exact ⟨rfl, rfl, rfl, rfl⟩
  · rw [e 12 (by omega), e 13 (by omega), e 14 (by omega)]; exact ⟨rfl, rfl, rfl⟩
theorem PF_eqK (M : mM) (p : Nat) (h c : Int32) : eqK M (PF M p h c) :=
  ⟨fun q h1 _ => by unfold PF; rw [wr_q _ _ h1, wr_q _ _ h1, wr_q _ _ h1, wr_q _ _ h1, wr_q _ _ h1], fun k hk => by unfold PF; rw [wr_k _ (by omega), wr_k _ (by omega), wr_k _ (by omega), wr_k _ (by omega), wr_k _ (by omega)]⟩
theorem PF_63 (M : mM) (p : Nat) (h c : Int32) : PF M p h c 63 = M 63 := by unfold PF; rw [wr_q _ _ (by omega), wr_q _ _ (by omega), wr_q _ _ (by omega), wr_q _ _ (by omega), wr_q _ _ (by omega)]
theorem PF_f (M : mM) (p : Nat) (h c : Int32) : ∀ j, j < 5 → PF M p h c 16 j = factS (nowC M) h c p j := by
  intro j hj
  rcases (by omega : j = 0 ∨ j = 1 ∨ j = 2 ∨ j = 3 ∨ j = 4) with rfl | rfl | rfl | rfl | rfl
  · unfold PF; rw [wr_k _ (by omega), wr_k _ (by omega), wr_k _ (by omega), wr_k _ (by omega), wr_s]; rfl
  · unfold PF; rw [wr_k _ (by omega), wr_k _ (by omega), wr_k _ (by omega), wr_s]; rfl
  · unfold PF; rw [wr_k _ (by omega), wr_k _ (by omega), wr_s]; rfl
  · unfold PF; rw [wr_k _ (by omega), wr_s]; rfl
  · unfold PF; rw [wr_s]; rfl
/-- voters as SUM needs them -/
def Vs (X : mM) (n : Nat) : Prop := n ≤ 7 ∧ X 0 0 = nI n ∧ ∀ p, p < n → ∃ k w : Nat, 1 ≤ k ∧ k ≤ 5 ∧ w < 24 ∧ X 1 p = nI k ∧ X 2 p = nI w
theorem Vs.keep {A B : mM} {n : Nat} (h : Vs A n) (g : eqX A B) : Vs B n := by
  refine ⟨h.1, g.1.trans h.2.1, fun p hp => ?_⟩
  rw [g.2.1 1 (by omega) (by omega) (by omega), g.2.1 2 (by omega) (by omega) (by omega)]
  exact h.2.2 p hp
theorem powerAt_at {M : mM} {t : Nat → Int32} (hl : Rl (nowC M) t) {n p : Nat} (hV : Vs (nowC M) n) (hp : p < n) (h c : Int32) : fX11_powerAt M (nI p) h c = some (powS (nowC M) h c p, PF M p h c) := by
  obtain ⟨h7, hn, hv⟩ := hV
  obtain ⟨k, w, hk, hk', -, e1, -⟩ := hv p hp
  have eK := PF_eqK M p h c
  have w1 : wr M 16 0 h 3 p = M 3 p := by rw [wr_q _ _ (by omega)]
  have w2 : wr (wr M 16 0 h) 16 1 (M 3 p) 4 p = M 4 p := by rw [wr_q _ _ (by omega), wr_q _ _ (by omega)]
  have hkd : PF M p h c 2 p = nI k := (congrFun (eK.1 2 (by omega) (by omega)) p).trans e1
  have hwt : PF M p h c 4 p = M 4 p := congrFun (eK.1 4 (by omega) (by omega)) p
  unfold fX11_powerAt
  simp only [tn_nI (show p < 2 ^ 31 by omega), c0N, c1N, c2N, c3N, c4N, w1, w2]
  simp only [show wr (wr (wr (wr (wr M 16 0 h) 16 1 (M 3 p)) 16 2 (M 4 p)) 16 3 c) 16 4 (nI p) = PF M p h c from rfl, hkd, hwt]
  obtain ⟨rc, st, vc, se, fr, to, z1, z2, z3, z4, z5, -⟩ := id hl
  have hW : fX6_weigh_q8 (PF M p h c) (nI k) (M 4 p) = some (weighS (nowC M) (factS (nowC M) h c p) k (M 4 p) (nowC M 7 0).toNatClampNeg 0) := by
    have e7 : PF M p h c 8 0 = nI rc := (congrFun (eK.1 8 (by omega) (by omega)) 0).trans z5
    have := weighC (eK.L hl) (PF_f M p h c) e7 z1 (show k < 6 by omega) (M 4 p) rc 0 5000 (by omega) (by omega)
    rw [weighS_eq eK.X] at this
    rw [z5, nI_clamp (by omega)]
    exact this
  have g7 : ∀ {x : Option (Int32 × mM)}, gd (ix (nI p) 7) x = x := gd_t (ix_nI (by omega) (by omega))
  have g6 : ∀ {x : Option (Int32 × mM)}, gd (ix (nI k) 6) x = x := gd_t (ix_nI (by omega) (by omega))
  have ga : ∀ {x : Option (Int32 × mM)}, gd (ix 0 205) x = x := rfl
  have gb : ∀ {x : Option (Int32 × mM)}, gd (ix 1 205) x = x := rfl
  have gc : ∀ {x : Option (Int32 × mM)}, gd (ix 2 205) x = x := rfl
  have gd' : ∀ {x : Option (Int32 × mM)}, gd (ix 3 205) x = x := rfl
  have ge : ∀ {x : Option (Int32 × mM)}, gd (ix 4 205) x = x := rfl
  simp only [g7, g6, ga, gb, gc, gd', ge]
  have hk0 : ¬ nI k = 0 := nI_ne0 (by omega) (by omega)
  rw [if_neg hk0]
  simp only [b1_s hW]
  have key : ∀ v : Int32, v = powS (nowC M) h c p → some (v, PF M p h c) = some (powS (nowC M) h c p, PF M p h c) := fun v hv => by rw [hv]
  have e1' : nowC M 1 p = nI k := e1
  have hP : powS (nowC M) h c p = (let w := weighS (nowC M) (factS (nowC M) h c p) k (M 4 p) (nowC M 7 0).toNatClampNeg 0; if nI k = 2 then (if 12 ≤ h then w + 2 else w) else if nI k = 3 then 3 * (if 12 ≤ h then w + 2 else w) else if nI k = 4 then w / 2 else if nI k = 5 then (if h < 6 then 0 else w / 2) else w) := by
    unfold powS
    rw [e1', nI_clamp (by omega)]
  have h12 : ∀ a b : Int32, (if 12 ≤ h then a else b) = (if h < 12 then b else a) := fun a b => by
    by_cases g : 12 ≤ h
    · rw [if_pos g, if_neg (Int32.not_lt.mpr g)]
    · rw [if_neg g, if_pos (Int32.not_le.mp g)]
  have h6 : ∀ a b : Int32, (if 6 ≤ h then a else b) = (if h < 6 then b else a) := fun a b => by
    by_cases g : 6 ≤ h
    · rw [if_pos g, if_neg (Int32.not_lt.mpr g)]
    · rw [if_neg g, if_pos (Int32.not_le.mp g)]
  rcases (by omega : k = 1 ∨ k = 2 ∨ k = 3 ∨ k = 4 ∨ k = 5) with rfl | rfl | rfl | rfl | rfl
  · rw [if_pos (show nI 1 = 1 from rfl)]
    refine key _ ?_
    rw [hP]
    rfl
  · rw [if_neg (show ¬ nI 2 = 1 by decide), if_pos (show nI 2 = 2 from rfl)]
    refine key _ ?_
    rw [hP]
    unfold fX1_powerOf_q52
    rw [← h12]
    rfl
  · rw [if_neg (show ¬ nI 3 = 1 by decide), if_neg (show ¬ nI 3 = 2 by decide), if_pos (show nI 3 = 3 from rfl)]
    refine key _ ?_
    rw [hP]
    unfold fX7_powerOf_q53 fX1_powerOf_q53
    rw [← h12]
    rfl
  · rw [if_neg (show ¬ nI 4 = 1 by decide), if_neg (show ¬ nI 4 = 2 by decide), if_neg (show ¬ nI 4 = 3 by decide), if_pos (show nI 4 = 4 from rfl)]
    refine key _ ?_
    rw [hP]
    rfl
  · rw [if_neg (show ¬ nI 5 = 1 by decide), if_neg (show ¬ nI 5 = 2 by decide), if_neg (show ¬ nI 5 = 3 by decide), if_neg (show ¬ nI 5 = 4 by decide)]
    refine key _ ?_
    rw [hP]
    unfold fX8_powerOf_q55 fX0_powerOf_q55
    rw [h6]
    rfl
set_option maxRecDepth 100000 in
theorem fm_eq : ∀ w, w < 24 → ∀ h, h < 24 → fJ9_floorMod_7cf53C (fun _ _ => 0) (nI w - nI h) 24 = some (nI ((w + 24 - h) % 24)) := by decide +kernel
theorem vote_cases : ∀ r, r < 24 → (if nI r = 0 then some 0 else if 12 < nI r then some (-1) else some (1 : Int32)) = some (if r = 0 then 0 else if r ≤ 12 then 1 else -1) := by decide +kernel
theorem voteAt_at {M : mM} {n p h : Nat} (hV : Vs (nowC M) n) (hp : p < n) (hh : h < 24) : fX11_voteAt M (nI p) (nI h) = some (voteS (nowC M 2 p).toNatClampNeg h) := by
  obtain ⟨h7, hn, hv⟩ := hV
  obtain ⟨k, w, hk, hk', hw, e1, e2⟩ := hv p hp
  unfold fX11_voteAt
  rw [gd_t (ix_nI (by omega) (by omega)), tn_nI (by omega), show M 3 p = nI w from e2, b1_s (show fJ9_floorMod_7cf53C M (nI w - nI h) 24 = _ from fm_eq w hw h hh), vote_cases _ (Nat.mod_lt _ (by omega)), e2, nI_clamp (by omega)]
  rfl
theorem sumC {M : mM} {t : Nat → Int32} {n h set : Nat} (hh : h < 24) (hs : set < 128) : ∀ (d p fuel : Nat) (M' : mM), eqK M M' → M' 63 = M 63 → Rl (nowC M) t → Vs (nowC M) n → p + d = n → d < fuel →
    ∃ M'', fX11_sumAt_L25 fuel M' (nI h) (nI set) (nI (h * 128 + set)) (sumS (nowC M) h set p) (nI p) = some (SUM (nowC M) h set, M'') ∧ eqK M M'' ∧ M'' 63 = upd (M 63) (h * 128 + set) (SUM (nowC M) h set) := by
  intro d
  induction d with
  | zero =>
    intro p fuel M' hK h63 hl hV hp hfu
    obtain ⟨k, rfl⟩ : ∃ k, fuel = k + 1 := ⟨fuel - 1, by omega⟩
    have hn : M' 1 0 = nI n := (congrFun (hK.1 1 (by omega) (by omega)) 0).trans hV.2.1
    have hpn : p = n := by omega
    have hS : SUM (nowC M) h set = sumS (nowC M) h set p := by unfold SUM; rw [hV.2.1, nI_clamp (by have := hV.1; omega), hpn]
    refine ⟨wr M' 63 (h * 128 + set) (sumS (nowC M) h set p), ?_, ?_, ?_⟩
    · show fX11_sumAt_L25_b (fX11_sumAt_L25 k) M' (nI h) (nI set) (nI (h * 128 + set)) (sumS (nowC M) h set p) (nI p) = _
      unfold fX11_sumAt_L25_b
      rw [hn, if_pos (nI_le (by omega) (by have := hV.1; omega)), gd_t (ix_nI (by omega) (by omega)), gd_t (ix_nI (by omega) (by omega)), tn_nI (by omega), wr_s, hS]
    · exact ⟨fun q h1 h2 => (wr_q _ _ h2).trans (hK.1 q h1 h2), fun k hk => (congrFun (wr_q _ _ (by omega)) k).trans (hK.2 k hk)⟩
    · rw [wr_row, h63, hS]
  | succ d ih =>
    intro p fuel M' hK h63 hl hV hp hfu
    obtain ⟨k, rfl⟩ : ∃ k, fuel = k + 1 := ⟨fuel - 1, by omega⟩
    have h7 := hV.1
    have hn : M' 1 0 = nI n := (congrFun (hK.1 1 (by omega) (by omega)) 0).trans hV.2.1
    have hV' : Vs (nowC M') n := hV.keep hK.X
    have hl' : Rl (nowC M') t := hK.L hl
    have eS : sumS (nowC M) h set (p + 1) = if set / 2 ^ p % 2 = 1 then sumS (nowC M) h set p + voteS (nowC M 2 p).toNatClampNeg h * powS (nowC M) (nI h) (nI (cntS 7 set)) p else sumS (nowC M) h set p := rfl
    show ∃ M'', fX11_sumAt_L25_b (fX11_sumAt_L25 k) M' (nI h) (nI set) (nI (h * 128 + set)) (sumS (nowC M) h set p) (nI p) = some (SUM (nowC M) h set, M'') ∧ _
    unfold fX11_sumAt_L25_b
    rw [hn, if_neg (nI_ge (by omega) (by omega)), bit_at p (by omega) set hs, bit_cnt set hs, b1_s (voteAt_at hV' (by omega) hh), b2_s (powerAt_at hl' hV' (by omega) (nI h) (nI (cntS 7 set))), nI_1, powS_eq hK.X, hK.X.2.1 2 (by omega) (by omega) (by omega)]
    by_cases hb : set / 2 ^ p % 2 = 1
    · rw [if_pos (by rw [hb]; rfl)]
      rw [if_pos hb] at eS
      rw [← eS]
      exact ih (p + 1) k _ (hK.trans (PF_eqK _ _ _ _)) ((PF_63 _ _ _ _).trans h63) hl hV (by omega) (by omega)
    · have hb0 : set / 2 ^ p % 2 = 0 := by omega
      rw [if_neg (by rw [hb0]; decide)]
      rw [if_neg hb] at eS
      rw [← eS]
      exact ih (p + 1) k _ hK h63 hl hV (by omega) (by omega)
/-- SUM by the class, from its cache or not -/
theorem sumAt_at {M : mM} {t : Nat → Int32} {n h set : Nat} (hS : Rs M) (hl : Rl (nowC M) t) (hV : Vs (nowC M) n) (hh : h < 24) (hs : set < 128) :
    ∃ M', fX11_sumAt M (nI h) (nI set) = some (SUM (nowC M) h set, M') ∧ eqK M M' ∧ Rs M' := by
  unfold fX11_sumAt
  have i1 : nI h * 128 + nI set = nI (h * 128 + set) := by rw [show nI h * 128 = nI (h * 128) from pk_mul h 128, nI_add]
  rw [i1, gd_t (ix_nI (by omega) (by omega)), gd_t (ix_nI (by omega) (by omega)), tn_nI (by omega)]
  by_cases g : M 63 (h * 128 + set) = -1000000
  · rw [if_pos g]
    obtain ⟨M', r1, r2, r3⟩ := sumC (t := t) (n := n) hh hs n 0 5000 M (eqK.refl M) rfl hl hV (by omega) (by have := hV.1; omega)
    refine ⟨M', r1, r2, fun h' set' g1 g2 => ?_⟩
    rw [r3, SUM_eq r2.X]
    by_cases e : h' * 128 + set' = h * 128 + set
    · rw [e, upd_eq]
      have e1 : h' = h := by omega
      have e2 : set' = set := by omega
      rw [e1, e2]
      exact Or.inr rfl
    · rw [upd_ne e]
      exact hS h' set' g1 g2
  · rw [if_neg g]
    rcases hS h set hh hs with z | z
    · exact absurd z g
    · exact ⟨M, by rw [z], eqK.refl M, hS⟩
