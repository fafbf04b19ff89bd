/-! sheet, shelf, taken -/
theorem sort_yes {v : Int32} (h : ¬ fX11_isIn v (-1) 4 = 0) : v = -1 ∨ ∃ z : Nat, z ≤ 4 ∧ v = nI z := by
  rw [isIn_eq] at h
  by_cases q : (-1 : Int32) ≤ v ∧ v ≤ 4
  · by_cases h0 : v < 0
    · have h1 := Int32.le_iff_toInt_le.mp q.1
      have h2 := Int32.lt_iff_toInt_lt.mp h0
      have e1 : (-1 : Int32).toInt = -1 := rfl
      have e2 : (0 : Int32).toInt = 0 := rfl
      rw [e1] at h1
      rw [e2] at h2
      exact Or.inl (Int32.toInt_inj.mp (by rw [e1]; omega))
    · obtain ⟨n, hn, rfl⟩ := nI_of h0
      exact Or.inr ⟨n, (nI_leI hn (by omega)).mp q.2, rfl⟩
  · rw [if_neg q] at h; exact absurd rfl h
theorem sheetL : ∀ (d fuel j : Nat) (T : mM) (s : Nat), s < 4 → j + d = 40 → d < fuel → fX12_sheet_L69 fuel T (nI s) (nI j) = some (1, va_up T 12 (fun k => if 40 * s + j ≤ k ∧ k < 40 * s + 40 then 0 else T 12 k)) := by
  intro d
  induction d with
  | zero =>
    intro fuel j T s hs h hf
    obtain ⟨n, rfl⟩ : ∃ n, fuel = n + 1 := ⟨fuel - 1, by omega⟩
    show fX12_sheet_L69_b (fX12_sheet_L69 n) T (nI s) (nI j) = _
    unfold fX12_sheet_L69_b
    have hj : j = 40 := by omega
    subst hj
    rw [if_pos (show (40 : Int32) ≤ nI 40 from nI_le (a := 40) (Nat.le_refl _) (by omega))]
    have e1 : va_up T 12 (fun k => if 40 * s + 40 ≤ k ∧ k < 40 * s + 40 then 0 else T 12 k) = T := by
      funext q k
      by_cases hq : q = 12
      · subst hq; rw [va_up_self, if_neg (by omega)]
      · rw [va_up_ne _ _ hq]
    rw [e1]
  | succ d ih =>
    intro fuel j T s hs h hf
    obtain ⟨n, rfl⟩ : ∃ n, fuel = n + 1 := ⟨fuel - 1, by omega⟩
    show fX12_sheet_L69_b (fX12_sheet_L69 n) T (nI s) (nI j) = _
    unfold fX12_sheet_L69_b
    rw [if_neg (show ¬ (40 : Int32) ≤ nI j from nI_ge (b := 40) (by omega) (by omega)), itemix.2, gd_t (ix_nI (by omega) (by omega)), tn_nI (by omega), nI_1, ih n (j + 1) _ s hs (by omega) (by omega)]
    congr 2
    funext q k
    by_cases hq : q = 12
    · subst hq
      rw [va_up_self, va_up_self, wr_at]
      by_cases hk : k = 40 * s + j
      · rw [if_neg (by omega), if_pos ⟨rfl, hk⟩, if_pos (by omega)]
      · rw [show (if 12 = 12 ∧ k = 40 * s + j then 0 else T 12 k) = T 12 k from if_neg (fun z => hk z.2)]
        by_cases h1 : 40 * s + (j + 1) ≤ k ∧ k < 40 * s + 40
        · rw [if_pos h1, if_pos (by omega)]
        · rw [if_neg h1, if_neg (by omega)]
    · rw [va_up_ne _ _ hq, va_up_ne _ _ hq, wr_q _ _ hq]
theorem layL : ∀ (d fuel j : Nat) (M : mM) (s c : Nat), s < 4 → j + d = c → c ≤ 40 → d < fuel → fX2_lay_L17 fuel M (nI s) (nI c) (nI j) = some (0, va_up M 62 (fun k => if 40 * s + j ≤ k ∧ k < 40 * s + c then 0 else M 62 k)) := by
  intro d
  induction d with
  | zero =>
    intro fuel j M s c hs h hc hf
    obtain ⟨n, rfl⟩ : ∃ n, fuel = n + 1 := ⟨fuel - 1, by omega⟩
    show fX2_lay_L17_b (fX2_lay_L17 n) M (nI s) (nI c) (nI j) = _
    unfold fX2_lay_L17_b
    have hj : j = c := by omega
    subst hj
    rw [if_pos (nI_le (Nat.le_refl _) (by omega))]
    have e1 : va_up M 62 (fun k => if 40 * s + j ≤ k ∧ k < 40 * s + j then 0 else M 62 k) = M := by
      funext q k
      by_cases hq : q = 62
      · subst hq; rw [va_up_self, if_neg (by omega)]
      · rw [va_up_ne _ _ hq]
    rw [e1]
  | succ d ih =>
    intro fuel j M s c hs h hc hf
    obtain ⟨n, rfl⟩ : ∃ n, fuel = n + 1 := ⟨fuel - 1, by omega⟩
    show fX2_lay_L17_b (fX2_lay_L17 n) M (nI s) (nI c) (nI j) = _
    unfold fX2_lay_L17_b
    rw [if_neg (nI_ge (by omega) (by omega)), itemix.1, gd_t (ix_nI (by omega) (by omega)), tn_nI (by omega), nI_1, ih n (j + 1) _ s c hs (by omega) hc (by omega)]
    congr 2
    funext q k
    by_cases hq : q = 62
    · subst hq
      rw [va_up_self, va_up_self, wr_at]
      by_cases hk : k = 40 * s + j
      · rw [if_neg (by omega), if_pos ⟨rfl, hk⟩, if_pos (by omega)]
      · rw [show (if 62 = 62 ∧ k = 40 * s + j then 0 else M 62 k) = M 62 k from if_neg (fun z => hk z.2)]
        by_cases h1 : 40 * s + (j + 1) ≤ k ∧ k < 40 * s + c
        · rw [if_pos h1, if_pos (by omega)]
        · rw [if_neg h1, if_neg (by omega)]
    · rw [va_up_ne _ _ hq, va_up_ne _ _ hq, wr_q _ _ hq]
theorem lay_at (M : mM) {s c : Nat} (hs : s < 4) (hc : c ≤ 40) (v : Int32) : fX2_lay M (nI s) v (nI c) = some (0, va_up (wr (wr M 57 s v) 61 s (nI c)) 62 (fun k => if 40 * s ≤ k ∧ k < 40 * s + c then 0 else M 62 k)) := by
  unfold fX2_lay
  rw [gd_t (ix_nI hs (by omega)), gd_t (ix_nI hs (by omega)), tn_nI (by omega), show (0 : Int32) = nI 0 from rfl, layL c 5000 0 _ s c hs (by omega) hc (by omega)]
  rw [wr_q _ _ (by omega), wr_q _ _ (by omega)]
  rfl
theorem pm_sheet {M T : mM} (hR : Rel M T) (a0 : Int32) (a1 : Int32) (a2 : Int32) : ∃ (r : Int32) (M' : mM) (T' : mM), fX11_sheet M a0 a1 a2 = some (r, M') ∧ fX12_sheet T a0 a1 a2 = some (r, T') ∧ Rel M' T' := by
  have hh := hR.2.2.2.2.2.1
  unfold fX11_sheet fX12_sheet
  rw [isFour_eq, show fX12_in (Int32.toInt64 a1) (-1) 4 = fX11_isIn a1 (-1) 4 from in_eq a1 (-1) 4]
  by_cases h1 : fX11_isIn a0 0 3 = 0
  · exact ⟨-1, M, T, by rw [if_pos h1], by rw [if_pos h1], hR⟩
  rw [if_neg h1, if_neg h1]
  obtain ⟨s, hs, rfl⟩ := four_yes h1
  by_cases h2 : fX11_isIn a1 (-1) 4 = 0
  · exact ⟨-1, M, T, by rw [if_pos h2], by rw [if_pos h2], hR⟩
  rw [if_neg h2, if_neg h2]
  have hz := sort_yes h2
  have key : ∀ (c : Nat), c ≤ 40 → Rel (va_up (wr (wr M 57 s a1) 61 s (nI c)) 62 (fun k => if 40 * s ≤ k ∧ k < 40 * s + c then 0 else M 62 k)) (va_up (wr (wr T 10 s a1) 11 s (nI c)) 12 (fun k => if 40 * s ≤ k ∧ k < 40 * s + 40 then 0 else T 12 k)) := by
    intro c hc
    refine hR.host (fun q hq => by rw [va_up_ne _ _ (by omega), wr_q _ _ (by omega), wr_q _ _ (by omega)]) (fun q hq => by rw [va_up_ne _ _ (by omega), wr_q _ _ (by omega), wr_q _ _ (by omega)]) ⟨fun u hu => ?_, fun u hu => ?_⟩
    · obtain ⟨⟨y1, y1'⟩, ⟨c', y2, y2', y2''⟩, y3⟩ := hh.1 u hu
      rw [va_up_self, va_up_self, va_up_ne _ _ (by omega), va_up_ne _ _ (by omega), va_up_ne _ _ (by omega), va_up_ne _ _ (by omega)]
      rw [show wr (wr M 57 s a1) 61 s (nI c) 57 u = if u = s then a1 else M 57 u by rw [wr_q _ _ (by omega), wr_at]; simp, show wr (wr T 10 s a1) 11 s (nI c) 10 u = if u = s then a1 else T 10 u by rw [wr_q _ _ (by omega), wr_at]; simp, show wr (wr M 57 s a1) 61 s (nI c) 61 u = if u = s then nI c else M 61 u by rw [wr_at, wr_q _ _ (by omega)]; simp, show wr (wr T 10 s a1) 11 s (nI c) 11 u = if u = s then nI c else T 11 u by rw [wr_at, wr_q _ _ (by omega)]; simp]
      refine ⟨?_, ?_, fun i hi => ?_⟩
      · by_cases z : u = s
        · rw [if_pos z, if_pos z]; exact ⟨rfl, hz⟩
        · rw [if_neg z, if_neg z]; exact ⟨y1, y1'⟩
      · by_cases z : u = s
        · rw [if_pos z, if_pos z]; exact ⟨c, hc, rfl, rfl⟩
        · rw [if_neg z, if_neg z]; exact ⟨c', y2, y2', y2''⟩
      · by_cases z : u = s
        · rw [if_pos z, nI_clamp (by omega)] at hi
          rw [if_pos (by omega), if_pos (by omega)]
        · rw [if_neg z] at hi
          have hi' := hi
          rw [y2', nI_clamp (by omega)] at hi'
          rw [if_neg (by omega), if_neg (by omega)]; exact y3 i hi
    · rw [va_up_ne _ _ (by omega), va_up_ne _ _ (by omega), va_up_ne _ _ (by omega), va_up_ne _ _ (by omega), va_up_ne _ _ (by omega), va_up_ne _ _ (by omega)]
      rw [wr_q _ _ (by omega), wr_q _ _ (by omega), wr_q _ _ (by omega), wr_q _ _ (by omega), wr_q _ _ (by omega), wr_q _ _ (by omega), wr_q _ _ (by omega), wr_q _ _ (by omega), wr_q _ _ (by omega), wr_q _ _ (by omega), wr_q _ _ (by omega), wr_q _ _ (by omega)]
      exact hh.2 u hu
  have k11 : ∀ (c : Nat), fX12_sheet_L65 (wr T 10 s a1) (nI s) (nI s) (nI c) = some (1, va_up (wr (wr T 10 s a1) 11 s (nI c)) 12 (fun k => if 40 * s ≤ k ∧ k < 40 * s + 40 then 0 else T 12 k)) := by
    intro c
    unfold fX12_sheet_L65
    rw [gd_t (ix_nI hs (by omega)), tn_nI (by omega), show (0 : Int32) = nI 0 from rfl, sheetL 40 5000 0 _ s hs (by omega) (by omega), wr_q _ _ (by omega), wr_q _ _ (by omega)]
    rfl
  rcases hz with hz | ⟨z, hz, hz'⟩
  · refine ⟨1, _, _, ?_, ?_, key 0 (by omega)⟩
    · rw [if_pos hz]
      unfold fX11_sheet_L33 fX11_sheet_L45
      rw [if_pos hz, if_pos hz, show (0 : Int32) = nI 0 from rfl, b2_s (lay_at M hs (c := 0) (by omega) a1)]
      rfl
    · have hz0 : a1 < 0 := by rw [hz]; decide
      rw [if_pos hz0]
      unfold fX12_sheet_L33 fX12_sheet_L44
      rw [if_pos hz0, gd_t (ix_nI hs (by omega)), tn_nI (by omega), if_neg (by rw [hz]; decide)]
      exact k11 0
  · have hn1 : ¬ a1 = -1 := by rw [hz']; intro q; have := congrArg Int32.toInt q; rw [nI_toInt (by omega)] at this; simp at this
    have hn0 : ¬ a1 < 0 := by rw [hz']; exact nI_pos (by omega)
    rw [if_neg hn1, if_neg hn0]
    by_cases h3 : a2 ≤ 40
    · rw [if_pos h3, if_pos h3]
      unfold fX11_sheet_L33 fX12_sheet_L33
      rw [if_neg hn1, if_neg hn0]
      by_cases h4 : 0 ≤ a2
      · rw [if_pos h4, if_pos h4]
        obtain ⟨c, hc, rfl⟩ := nI_of (x := a2) (fun q => by
          have h1 := Int32.le_iff_toInt_le.mp h4
          have h2 := Int32.lt_iff_toInt_lt.mp q
          omega)
        have hc40 : c ≤ 40 := (nI_leI hc (by omega)).mp h3
        refine ⟨1, _, _, ?_, ?_, key c hc40⟩
        · unfold fX11_sheet_L45
          rw [if_neg hn1, b2_s (lay_at M hs hc40 a1)]
        · unfold fX12_sheet_L44
          rw [gd_t (ix_nI hs (by omega)), tn_nI (by omega), if_pos (by rw [hz']; exact nI_pos' (by omega))]
          exact k11 c
      · exact ⟨-14, M, T, by rw [if_neg h4], by rw [if_neg h4], hR⟩
    · exact ⟨-1, M, T, by rw [if_neg h3], by rw [if_neg h3], hR⟩
theorem pm_shelf {M T : mM} (hR : Rel M T) (a0 : Int32) (a1 : Int32) (a2 : Int32) : ∃ (r : Int32) (M' : mM) (T' : mM), fX11_shelf M a0 a1 a2 = some (r, M') ∧ fX12_shelf T a0 a1 a2 = some (r, T') ∧ Rel M' T' := by
  have hh := hR.2.2.2.2.2.1
  obtain ⟨⟨n, n1, n2, n3⟩, -⟩ := Rp_vals hR.1
  unfold fX11_shelf fX12_shelf
  rw [b1_s (voter_eq (M := M) n2 n3 n1 a2), isFour_eq]
  have e34 : ∀ t : Int32, fX12_shelf_L34 T a0 a1 a2 t = if fX11_isIn a0 0 3 = 0 then some (-1, T) else if t = 0 then some (-1, T) else if a1 = 1 then fX12_shelf_L60 T a0 a1 a2 1 else fX12_shelf_L60 T a0 a1 a2 0 := fun t => by
    unfold fX12_shelf_L34
    rw [isFour_eq]
  simp only [e34]
  by_cases h1 : fX11_isIn a0 0 3 = 0
  · exact ⟨-1, M, T, by rw [if_pos h1], by simp only [if_pos h1, ite_self], hR⟩
  simp only [if_neg h1]
  obtain ⟨s, hs, rfl⟩ := four_yes h1
  -- the three kinds of what a shelf holds
  have key : ∀ (M' T' : mM), (∀ q, q < 58 ∨ 60 < q → M' q = M q) → (∀ q, q < 13 ∨ 15 < q → T' q = T q) → (∀ u, u < 4 → M' 58 u = T' 13 u ∧ ((M' 58 u = 0 ∧ ∃ p : Nat, p < 7 ∧ M' 60 u = nI p ∧ T' 14 u = nI p) ∨ (M' 58 u = 1 ∧ ∃ z c : Nat, z ≤ 4 ∧ c ≤ 40 ∧ M' 59 u = nI z ∧ T' 14 u = nI z ∧ M' 60 u = nI c ∧ T' 15 u = nI c) ∨ M' 58 u = 2)) → Rel M' T' := by
    intro M' T' h1 h2 h3
    refine hR.host (fun q hq => h1 q (by omega)) (fun q hq => h2 q (by omega)) ⟨?_, h3⟩
    rw [h1 57 (by omega), h1 61 (by omega), h1 62 (by omega), h2 10 (by omega), h2 11 (by omega), h2 12 (by omega)]
    exact hh.1
  have none2 : ∀ v : Int32, a1 = 2 → ∃ (r : Int32) (M' : mM) (T' : mM), some (1, wr M 58 s 2) = some (r, M') ∧ fX12_shelf_L60 T (nI s) a1 a2 0 = some (r, T') ∧ Rel M' T' := by
    intro v h
    refine ⟨1, _, wr (wr (wr T 13 s 2) 14 s a2) 15 s 0, rfl, ?_, ?_⟩
    · unfold fX12_shelf_L60 fX12_shelf_L85 fX12_shelf_L86 fX12_shelf_L107
      rw [if_pos rfl, gd_t (ix_nI hs (by omega)), if_pos rfl, gd_t (ix_nI hs (by omega)), if_pos rfl, gd_t (ix_nI hs (by omega)), tn_nI (by omega), h]
    · refine key _ _ (fun q hq => wr_q _ _ (by omega)) (fun q hq => by rw [wr_q _ _ (by omega), wr_q _ _ (by omega), wr_q _ _ (by omega)]) (fun u hu => ?_)
      have := hh.2 u hu
      have f1 : wr M 58 s 2 58 u = if u = s then 2 else M 58 u := by rw [wr_at]; simp
      have f2 : wr (wr (wr T 13 s 2) 14 s a2) 15 s 0 13 u = if u = s then 2 else T 13 u := by rw [wr_q _ _ (by omega), wr_q _ _ (by omega), wr_at]; simp
      have f3 : wr (wr (wr T 13 s 2) 14 s a2) 15 s 0 14 u = if u = s then a2 else T 14 u := by rw [wr_q _ _ (by omega), wr_at, wr_q _ _ (by omega)]; simp
      have f4 : wr (wr (wr T 13 s 2) 14 s a2) 15 s 0 15 u = if u = s then 0 else T 15 u := by rw [wr_at, wr_q _ _ (by omega), wr_q _ _ (by omega)]; simp
      rw [f1, f2, f3, f4, wr_q _ _ (by omega), wr_q _ _ (by omega)]
      by_cases z : u = s
      · simp only [if_pos z]; exact ⟨trivial, Or.inr (Or.inr trivial)⟩
      · simp only [if_neg z]; exact this
  have hN : fX2_holdNothing M (nI s) = some (0, wr M 58 s 2) := by
    unfold fX2_holdNothing
    rw [gd_t (ix_nI hs (by omega)), tn_nI (by omega)]
  by_cases v0 : a1 = 0
  · rw [if_pos v0, if_pos v0]
    by_cases h2 : fX11_isVoter M a2 = 0
    · refine ⟨-1, M, T, ?_, by rw [if_pos h2], hR⟩
      rw [if_pos h2]
      unfold fX11_shelf_L35 fX11_shelf_L61
      rw [if_neg (by rw [v0]; decide), if_neg (by rw [v0]; decide)]
    · rw [if_neg h2, if_neg h2, if_neg (by rw [v0]; decide)]
      obtain ⟨p, hp, rfl⟩ := voter_yes n2 h2
      refine ⟨1, wr (wr M 58 s 0) 60 s (nI p), wr (wr (wr T 13 s 0) 14 s (nI p)) 15 s 0, ?_, ?_, ?_⟩
      · have e : fX2_holdVoter M (nI s) (nI p) = some (0, wr (wr M 58 s 0) 60 s (nI p)) := by
          unfold fX2_holdVoter
          rw [gd_t (ix_nI hs (by omega)), gd_t (ix_nI hs (by omega)), tn_nI (by omega)]
        rw [b2_s e]
      · unfold fX12_shelf_L60 fX12_shelf_L85 fX12_shelf_L86 fX12_shelf_L107
        rw [if_pos rfl, gd_t (ix_nI hs (by omega)), if_pos rfl, gd_t (ix_nI hs (by omega)), if_pos rfl, gd_t (ix_nI hs (by omega)), tn_nI (by omega), v0]
      · refine key _ _ (fun q hq => by rw [wr_q _ _ (by omega), wr_q _ _ (by omega)]) (fun q hq => by rw [wr_q _ _ (by omega), wr_q _ _ (by omega), wr_q _ _ (by omega)]) (fun u hu => ?_)
        have := hh.2 u hu
        have f1 : wr (wr M 58 s 0) 60 s (nI p) 58 u = if u = s then 0 else M 58 u := by rw [wr_q _ _ (by omega), wr_at]; simp
        have f5 : wr (wr M 58 s 0) 60 s (nI p) 60 u = if u = s then nI p else M 60 u := by rw [wr_at, wr_q _ _ (by omega)]; simp
        have f6 : wr (wr M 58 s 0) 60 s (nI p) 59 u = M 59 u := by rw [wr_q _ _ (by omega), wr_q _ _ (by omega)]
        have f2 : wr (wr (wr T 13 s 0) 14 s (nI p)) 15 s 0 13 u = if u = s then 0 else T 13 u := by rw [wr_q _ _ (by omega), wr_q _ _ (by omega), wr_at]; simp
        have f3 : wr (wr (wr T 13 s 0) 14 s (nI p)) 15 s 0 14 u = if u = s then nI p else T 14 u := by rw [wr_q _ _ (by omega), wr_at, wr_q _ _ (by omega)]; simp
        have f4 : wr (wr (wr T 13 s 0) 14 s (nI p)) 15 s 0 15 u = if u = s then 0 else T 15 u := by rw [wr_at, wr_q _ _ (by omega), wr_q _ _ (by omega)]; simp
        rw [f1, f2, f3, f4, f5, f6]
        by_cases z : u = s
        · simp only [if_pos z]; exact ⟨trivial, Or.inl ⟨trivial, p, by omega, rfl, rfl⟩⟩
        · simp only [if_neg z]; exact this
  · rw [if_neg v0, if_neg v0]
    unfold fX11_shelf_L35
    by_cases v1 : a1 = 1
    · rw [if_pos v1, if_pos v1, if_pos v1]
      by_cases h2 : fX11_isIn a2 0 3 = 0
      · refine ⟨-1, M, T, ?_, by rw [if_pos h2], hR⟩
        rw [if_pos h2]
        unfold fX11_shelf_L61
        rw [if_neg (by rw [v1]; decide)]
      · rw [if_neg h2, if_neg h2]
        obtain ⟨i, hi, rfl⟩ := four_yes h2
        obtain ⟨⟨y1, y1'⟩, ⟨c, y2, y2', y2''⟩, y3⟩ := hh.1 i hi
        have e : fX2_holdRow M (nI s) (nI i) = some (0, wr (wr (wr M 58 s (if M 57 i = -1 then 2 else 1)) 59 s (M 57 i)) 60 s (M 61 i)) := by
          unfold fX2_holdRow fX2_holdRow_L20
          have w1 : ∀ v : Int32, wr M 58 s v 57 i = M 57 i := fun v => by rw [wr_q _ _ (by omega)]
          have w2 : ∀ v v' : Int32, wr (wr M 58 s v) 59 s v' 61 i = M 61 i := fun v v' => by rw [wr_q _ _ (by omega), wr_q _ _ (by omega)]
          simp only [gd_t (ix_nI hs (show (4 : Nat) ≤ 2 ^ 31 by omega)), gd_t (ix_nI hi (show (4 : Nat) ≤ 2 ^ 31 by omega)), tn_nI (show s < 2 ^ 31 by omega), tn_nI (show i < 2 ^ 31 by omega), w1, w2]
          by_cases z : M 57 i = -1
          · rw [if_pos z, if_pos z]
          · rw [if_neg z, if_neg z]
        refine ⟨1, wr (wr (wr M 58 s (if M 57 i = -1 then 2 else 1)) 59 s (M 57 i)) 60 s (M 61 i), wr (wr (wr T 13 s (if M 57 i = -1 then 2 else 1)) 14 s (M 57 i)) 15 s (M 61 i), ?_, ?_, ?_⟩
        · rw [b2_s e]
        · unfold fX12_shelf_L60
          rw [if_neg (by decide), gd_t (ix_nI hi (by omega)), tn_nI (by omega), ← y1]
          have w1 : ∀ v : Int32, wr T 13 s v 10 i = M 57 i := fun v => by rw [wr_q _ _ (by omega), y1]
          have w2 : ∀ v v' : Int32, wr (wr T 13 s v) 14 s v' 11 i = M 61 i := fun v v' => by rw [wr_q _ _ (by omega), wr_q _ _ (by omega), y2', y2'']
          have e86 : ∀ v : Int32, fX12_shelf_L86 T (nI s) (nI i) 1 (nI s) v = some (1, wr (wr (wr T 13 s v) 14 s (M 57 i)) 15 s (M 61 i)) := fun v => by
            unfold fX12_shelf_L86 fX12_shelf_L107
            rw [gd_t (ix_nI hs (by omega)), if_neg (by decide), gd_t (ix_nI hi (by omega)), gd_t (ix_nI hs (by omega)), if_neg (by decide), gd_t (ix_nI hi (by omega)), gd_t (ix_nI hs (by omega)), tn_nI (by omega), tn_nI (by omega), w1, w2]
          unfold fX12_shelf_L85
          rw [e86, e86]
          by_cases z : M 57 i = -1
          · rw [if_neg (fun q => (sort_ge y1').mp q z), if_pos z]
          · rw [if_pos ((sort_ge y1').mpr z), if_neg z, v1]
        · refine key _ _ (fun q hq => by rw [wr_q _ _ (by omega), wr_q _ _ (by omega), wr_q _ _ (by omega)]) (fun q hq => by rw [wr_q _ _ (by omega), wr_q _ _ (by omega), wr_q _ _ (by omega)]) (fun u hu => ?_)
          have := hh.2 u hu
          have f0 : ∀ (X : mM) (q : Nat) (v1 v2 v3 : Int32), wr (wr (wr X q s v1) (q + 1) s v2) (q + 2) s v3 q u = (if u = s then v1 else X q u) ∧ wr (wr (wr X q s v1) (q + 1) s v2) (q + 2) s v3 (q + 1) u = (if u = s then v2 else X (q + 1) u) ∧ wr (wr (wr X q s v1) (q + 1) s v2) (q + 2) s v3 (q + 2) u = (if u = s then v3 else X (q + 2) u) := fun X q v1 v2 v3 => by
            refine ⟨?_, ?_, ?_⟩
            · rw [wr_q _ _ (by omega), wr_q _ _ (by omega), wr_at]; simp
            · rw [wr_q _ _ (by omega), wr_at, wr_q _ _ (by omega)]; simp
            · rw [wr_at, wr_q _ _ (by omega), wr_q _ _ (by omega)]; simp
          rw [(f0 M 58 _ _ _).1, (f0 M 58 _ _ _).2.1, (f0 M 58 _ _ _).2.2, (f0 T 13 _ _ _).1, (f0 T 13 _ _ _).2.1, (f0 T 13 _ _ _).2.2]
          by_cases z : u = s
          · simp only [if_pos z]
            refine ⟨trivial, ?_⟩
            by_cases z' : M 57 i = -1
            · simp only [if_pos z']; exact Or.inr (Or.inr trivial)
            · simp only [if_neg z']
              rcases y1' with g | ⟨zz, g1, g2⟩
              · exact absurd g z'
              · exact Or.inr (Or.inl ⟨trivial, zz, c, g1, y2, g2, g2, y2', y2'⟩)
          · simp only [if_neg z]; exact this
    · rw [if_neg v1, if_neg v1, if_neg v1]
      unfold fX11_shelf_L61
      by_cases v2 : a1 = 2
      · rw [if_pos v2, if_pos v2, if_neg (by decide), b2_s hN]
        exact none2 0 v2
      · exact ⟨-1, M, T, by rw [if_neg v2], by rw [if_neg v2]; exact if_pos trivial, hR⟩
theorem under_eq (M T : mM) (k o : Int32) : fX12_isUnder T k o = fX11_isUnder M k o := by
  unfold fX12_isUnder fX11_isUnder fX12_isUnder_L19 fX11_isUnder_L19
  by_cases h0 : o = 0
  · rw [if_pos h0, if_pos h0]
  rw [if_neg h0, if_neg h0]
  by_cases h1 : o = k
  · rw [if_pos h1.symm, if_pos h1]
  rw [if_neg (fun z => h1 z.symm), if_neg h1]
  by_cases h3 : k = 3
  · rw [if_pos h3]
    by_cases h2 : o = 2
    · rw [if_pos h2, if_pos h2, if_pos h3]
    · rw [if_neg h2, if_neg h2, if_neg (by rw [h3]; decide)]
      by_cases h4 : o = 4
      · rw [if_pos h4, if_neg (by rw [h3]; decide)]
      · rw [if_neg h4]
  · rw [if_neg h3]
    by_cases h2 : o = 2
    · have h4 : ¬ o = 4 := by rw [h2]; decide
      simp only [if_pos h2, if_neg h3, if_neg h4, ite_self]
    · rw [if_neg h2]
      by_cases h5 : k = 5
      · rw [if_pos h5]
        by_cases h4 : o = 4
        · rw [if_pos h4, if_pos h4, if_pos h5]
        · rw [if_neg h4, if_neg h4]
      · rw [if_neg h5]
        by_cases h4 : o = 4
        · rw [if_pos h4, if_neg h5]
        · rw [if_neg h4]
theorem Rp_kind {X : mM} {t : Nat → Int32} (hp : Rp X t) {n p : Nat} (hn : X 0 0 = nI n) (h7 : n ≤ 7) (h : p < n) : ∃ k : Nat, 1 ≤ k ∧ k ≤ 5 ∧ X 1 p = nI k ∧ t (8 + 5 * p) = nI k ∧ X 2 p = t (9 + 5 * p) ∧ X 3 p = t (10 + 5 * p) := by
  obtain ⟨⟨n', aw, hh, no, li, la, a, b, c, hv⟩, -, -⟩ := hp
  have en : n' = n := (nI_eq (by omega) (by omega)).mp (b.1.symm.trans hn)
  subst en
  obtain ⟨k, w, g, c', x1, ⟨y1, y2, y3, y4⟩, z1, z2, z3, z4, z5⟩ := hv p h
  exact ⟨k, x1.1, x1.2.1, y1, z1, y2.trans z2.symm, y3.trans z3.symm⟩
theorem voterOn_at {M : mM} {s : Nat} (hs : s < 4) : fX11_voterOn M (nI s) = some (if M 58 s = 0 then M 60 s else -3) := by
  unfold fX11_voterOn fX11_voterOn_L25 fX11_voterOn_L26
  rw [show fX11_isIn (nI s) 0 3 = 1 from isIn_t (a := 0) (b := 3) (by omega) (by omega) (by omega), if_neg (by decide), gd_t (ix_nI hs (by omega)), tn_nI (by omega)]
  by_cases z : M 58 s = 0
  · rw [if_pos z, if_pos z, if_neg (by decide), gd_t (ix_nI hs (by omega))]
  · rw [if_neg z, if_neg z, if_pos rfl]
theorem isHeld_at {M T : mM} {n s : Nat} (h1 : M 1 0 = nI n) (h2 : T 1 0 = nI n) (hn : n ≤ 7) (hs : s < 4) (g : M 58 s = T 13 s) (g2 : M 58 s = 0 → M 60 s = T 14 s) : fX12_isHeld T (nI s) = some (fX11_isVoter M (if M 58 s = 0 then M 60 s else -3)) := by
  unfold fX12_isHeld
  rw [gd_t (ix_nI hs (by omega)), tn_nI (by omega), gd_t (ix_nI hs (by omega)), ← g]
  by_cases z : M 58 s = 0
  · rw [if_pos z, if_pos z, ← g2 z, b1_s (voter_eq (M := M) h1 h2 hn _)]
    by_cases v : fX11_isVoter M (M 60 s) = 0
    · rw [if_pos v, v]
    · rw [if_neg v]
      unfold fX11_isVoter at v ⊢
      by_cases v1 : M 60 s < 0
      · rw [if_pos v1] at v; exact absurd rfl v
      · rw [if_neg v1] at v ⊢
        by_cases v2 : M 1 0 ≤ M 60 s
        · rw [if_pos v2] at v; exact absurd rfl v
        · rw [if_neg v2]
  · rw [if_neg z, if_neg z]
    unfold fX11_isVoter
    rw [if_pos (by decide)]
theorem pm_taken {M T : mM} (hR : Rel M T) (a0 : Int32) (a1 : Int32) : ∃ (r : Int32), fX11_taken M a0 a1 = some r ∧ fX12_taken T a0 a1 = some r ∧ Rel M T := by
  have hh := hR.2.2.2.2.2.1
  obtain ⟨⟨n, n1, n2, n3⟩, -⟩ := Rp_vals hR.1
  unfold fX11_taken fX12_taken
  rw [isFour_eq, show fX12_in (Int32.toInt64 a1) 0 5 = fX11_isIn a1 0 5 from in_eq a1 0 5, show fX12_in (Int32.toInt64 a1) 10 14 = fX11_isIn a1 10 14 from in_eq a1 10 14]
  by_cases h1 : fX11_isIn a0 0 3 = 0
  · exact ⟨-1, by rw [if_pos h1], by rw [if_pos h1], hR⟩
  rw [if_neg h1, if_neg h1]
  obtain ⟨s, hs, rfl⟩ := four_yes h1
  have key : ∃ r : Int32, fX11_taken_L31 M (nI s) a1 = some r ∧ fX12_taken_L35 T (nI s) a1 = some r := by
    obtain ⟨g1, g2⟩ := hh.2 s hs
    have hg : M 58 s = 0 → M 60 s = T 14 s := fun z => by
      rcases g2 with ⟨g2, p, hp, e1, e2⟩ | ⟨g2, -⟩ | g2
      · exact e1.trans e2.symm
      · rw [z] at g2; exact absurd g2 (by decide)
      · rw [z] at g2; exact absurd g2 (by decide)
    unfold fX11_taken_L31 fX12_taken_L35
    rw [b1_s (voterOn_at hs), b1_s (isHeld_at n2 n3 n1 hs g1 hg)]
    simp only [gd_t (ix_nI hs (show (4 : Nat) ≤ 2 ^ 31 by omega)), tn_nI (show s < 2 ^ 31 by omega), ← g1]
    rcases g2 with ⟨g2, p, hp, e1, e2⟩ | ⟨g2, z, c, hz, hc, e1, e2, e3, e4⟩ | g2
    · have n1' : ¬ M 58 s = 1 := by rw [g2]; decide
      rw [if_neg n1', if_neg n1', if_pos g2, e1, e2]
      by_cases v : fX11_isVoter M (nI p) = 0
      · exact ⟨-11, by rw [if_pos v], by rw [if_pos v]⟩
      · rw [if_neg v, if_neg v]
        obtain ⟨p', hp', e⟩ := voter_yes n2 v
        have : p' = p := (nI_eq (by omega) (by omega)).mp e.symm
        subst this
        obtain ⟨k, -, -, k1, k2, -, -⟩ := Rp_kind hR.1 n2 n1 hp'
        by_cases g : 10 ≤ a1
        · exact ⟨-13, by rw [if_pos g], by rw [if_pos g]⟩
        · rw [if_neg g, if_neg g, gd_t (ix_nI (by omega) (by omega)), tn_nI (by omega), b1_s (its0 T (by omega)), k2, under_eq M T, show M 2 p' = nI k from k1]
          by_cases u : fX11_isUnder M (nI k) a1 = 0
          · exact ⟨-13, by rw [if_pos u], by rw [if_pos u]⟩
          · exact ⟨nI p', by rw [if_neg u], by rw [if_neg u]⟩
    · rw [if_pos g2, if_pos g2, e1, e2, e3, e4]
      have e : (nI z + 10 = a1) ↔ (a1 - 10 = nI z) := by
        constructor
        · intro q; rw [← q]; exact Int32.add_sub_cancel _ _
        · intro q; rw [← q]; exact Int32.sub_add_cancel _ _
      by_cases u : nI z + 10 = a1
      · exact ⟨nI c, by rw [if_pos u], by rw [if_pos (e.mp u)]⟩
      · exact ⟨-13, by rw [if_neg u], by rw [if_neg (fun q => u (e.mpr q))]⟩
    · have n1' : ¬ M 58 s = 1 := by rw [g2]; decide
      have n0' : ¬ M 58 s = 0 := by rw [g2]; decide
      have hv : fX11_isVoter M (-3) = 0 := by unfold fX11_isVoter; rw [if_pos (by decide)]
      rw [if_neg n1', if_neg n1', if_neg n0', hv, if_pos rfl, if_pos rfl]
      exact ⟨-11, rfl, rfl⟩
  obtain ⟨r, k1, k2⟩ := key
  by_cases h2 : fX11_isIn a1 0 5 = 0
  · rw [if_pos h2, if_pos h2]
    by_cases h3 : fX11_isIn a1 10 14 = 0
    · exact ⟨-1, by rw [if_pos h3], by rw [if_pos h3], hR⟩
    · exact ⟨r, by rw [if_neg h3]; exact k1, by rw [if_neg h3]; exact k2, hR⟩
  · exact ⟨r, by rw [if_neg h2]; exact k1, by rw [if_neg h2]; exact k2, hR⟩
