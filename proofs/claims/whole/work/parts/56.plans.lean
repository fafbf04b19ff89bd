/-! PLANS: fewest, ith, limitFor -/
def firstS (f : Nat → Option (List Nat)) : Nat → Nat → Option (List Nat)
  | 0, _ => none
  | c + 1, a => match f a with
    | some l => some (a :: l)
    | none => firstS f c (a + 1)
/-- the FIRST of the PLANS of so many NOONS for an HOUR -/
def planS (X : mM) (li n goal : Nat) : Nat → Nat → Nat → Option (List Nat)
  | 0, h, _ => if h = goal then some [] else none
  | m + 1, h, aw => firstS (fun a => planS X li n goal m (nextS X li h (actS aw a)) (actS aw a)) (n + 1) 0
theorem firstS_some {f : Nat → Option (List Nat)} {a c : Nat} {l : List Nat} (h : f a = some l) : firstS f (c + 1) a = some (a :: l) := by
  show (match f a with | some l => some (a :: l) | none => firstS f c (a + 1)) = _
  rw [h]
theorem firstS_none {f : Nat → Option (List Nat)} {a c : Nat} (h : f a = none) : firstS f (c + 1) a = firstS f c (a + 1) := by
  show (match f a with | some l => some (a :: l) | none => firstS f c (a + 1)) = _
  rw [h]
theorem firstS_of (f : Nat → Option (List Nat)) : ∀ (c a : Nat) (l : List Nat), firstS f c a = some l → ∃ b l', l = b :: l' ∧ a ≤ b ∧ b < a + c ∧ f b = some l' := by
  intro c
  induction c with
  | zero => intro a l h; exact absurd h (by simp [firstS])
  | succ c ih =>
    intro a l h
    cases e : f a with
    | some l' =>
      rw [firstS_some e] at h
      exact ⟨a, l', (Option.some.inj h).symm, by omega, by omega, e⟩
    | none =>
      rw [firstS_none e] at h
      obtain ⟨b, l', h1, h2, h3, h4⟩ := ih (a + 1) l h
      exact ⟨b, l', h1, by omega, by omega, h4⟩
theorem planS_len {X : mM} {li n goal : Nat} : ∀ (m h aw : Nat) (l : List Nat), planS X li n goal m h aw = some l → l.length = m ∧ ∀ a, a ∈ l → a ≤ n := by
  intro m
  induction m with
  | zero =>
    intro h aw l e
    have e' : (if h = goal then some ([] : List Nat) else none) = some l := e
    by_cases z : h = goal
    · rw [if_pos z] at e'
      have := Option.some.inj e'
      subst this
      exact ⟨rfl, fun a ha => absurd ha (by simp)⟩
    · rw [if_neg z] at e'; exact absurd e' (by simp)
  | succ m ih =>
    intro h aw l e
    obtain ⟨b, l', h1, h2, h3, h4⟩ := firstS_of _ _ _ _ e
    obtain ⟨g1, g2⟩ := ih _ _ _ h4
    subst h1
    refine ⟨by show l'.length + 1 = m + 1; omega, fun a ha => ?_⟩
    rcases List.mem_cons.mp ha with z | z
    · omega
    · exact g2 a z
def apS (h g : Nat) : Nat := if (g + 24 - h) % 24 ≤ 24 - (g + 24 - h) % 24 then (g + 24 - h) % 24 else 24 - (g + 24 - h) % 24
set_option maxRecDepth 100000 in
theorem apart_c : ∀ h, h < 24 → ∀ g, g < 24 → fX11_apart (fun _ _ => 0) (nI h) (nI g) = some (nI (apS h g)) := by decide +kernel
theorem apart_at (M : mM) {h g : Nat} (hh : h < 24) (hg : g < 24) : fX11_apart M (nI h) (nI g) = some (nI (apS h g)) := apart_c h hh g hg
set_option maxRecDepth 100000 in
theorem apS_step3 : ∀ h, h < 24 → ∀ g, g < 24 → apS h g ≤ apS (mvS h 1) g + 1 ∧ apS h g ≤ apS (mvS h (-1)) g + 1 ∧ apS h g ≤ apS (mvS h 0) g + 1 := by decide +kernel
theorem apS_le : ∀ h, h < 24 → ∀ g, g < 24 → apS h g ≤ 12 ∧ (apS h g = 0 ↔ h = g) := by decide +kernel
theorem apS_step {h g : Nat} (hh : h < 24) (hg : g < 24) {b : Int32} (hb : b = 1 ∨ b = -1 ∨ b = 0) : apS h g ≤ apS (mvS h b) g + 1 := by
  obtain ⟨e1, e2, e3⟩ := apS_step3 h hh g hg
  rcases hb with rfl | rfl | rfl
  · exact e1
  · exact e2
  · exact e3
theorem planS_ap {X : mM} {li n goal : Nat} (hg : goal < 24) : ∀ (m h aw : Nat) (l : List Nat), h < 24 → planS X li n goal m h aw = some l → apS h goal ≤ m := by
  intro m
  induction m with
  | zero =>
    intro h aw l hh e
    have e' : (if h = goal then some ([] : List Nat) else none) = some l := e
    by_cases z : h = goal
    · have := (apS_le h hh goal hg).2.mpr z; omega
    · rw [if_neg z] at e'; exact absurd e' (by simp)
  | succ m ih =>
    intro h aw l hh e
    obtain ⟨b, l', h1, h2, h3, h4⟩ := firstS_of _ _ _ _ e
    have h5 := ih _ _ _ (nextS_lt hh) h4
    have h6 : apS h goal ≤ apS (nextS X li h (actS aw b)) goal + 1 := apS_step hh hg (byS3 _ _ _ _)
    omega
def isoS (o : Option (List Nat)) : Int32 := if o.isSome then 1 else 0
/-- the class finds it, and writes it -/
theorem cplans {M0 : mM} {t : Nat → Int32} {n liM li goal : Nat} (hC : Cc M0 t n liM) (hg : goal < 24) : ∀ (m d h aw : Nat) (M : mM) (at' N : Nat), m < d → at' + m = N → N ≤ 4 → eqC M0 M → Rs M → h < 24 → aw < 2 ^ n →
    ∃ M', fX11_plansTo d M (nI goal) (nI h) (nI aw) (nI li) (nI at') (nI N) = some (isoS (planS (nowC M0) li n goal m h aw), M') ∧ eqC M0 M' ∧ Rs M' ∧ (∀ k, k < at' → M' 66 k = M 66 k) ∧ ∀ l, planS (nowC M0) li n goal m h aw = some l → ∀ i, i < m → M' 66 (at' + i) = nI (l.getD i 0) := by
  have h7 := hC.2.1.1
  intro m
  induction m with
  | zero =>
    intro d h aw M at' N hd hN h4 hK hS hh ha
    obtain ⟨d, rfl⟩ : ∃ j, d = j + 1 := ⟨d - 1, by omega⟩
    refine ⟨M, ?_, hK, hS, fun _ _ => rfl, fun l _ i hi => absurd hi (by omega)⟩
    show fX11_plansTo_b (fX11_plansTo d) M (nI goal) (nI h) (nI aw) (nI li) (nI at') (nI N) = some (isoS (if h = goal then some [] else none), M)
    unfold fX11_plansTo_b
    have hap := apS_le h hh goal hg
    rw [b1_s (apart_at M hh hg), show nI N - nI at' = nI 0 by rw [pk_sub (by omega)]; congr 1; omega]
    by_cases z : h = goal
    · have z0 := hap.2.mpr z
      rw [z0, if_pos (show nI 0 ≤ nI 0 by decide), if_neg (nI_nlt (by omega) (by omega)), if_pos z]
      rfl
    · have z0 : apS h goal ≠ 0 := fun q => z (hap.2.mp q)
      rw [if_neg (nI_ge (by omega) (by omega)), if_neg z]
      rfl
  | succ m ih =>
    intro d h aw M at' N hd hN h4 hK hS hh ha
    obtain ⟨d, rfl⟩ : ∃ j, d = j + 1 := ⟨d - 1, by omega⟩
    have hap := apS_le h hh goal hg
    have a128 := pow_le7 h7 ha
    have loop : ∀ (c a fuel : Nat) (M1 : mM), a + c = n + 1 → c < fuel → eqC M0 M1 → Rs M1 → (∀ k, k < at' → M1 66 k = M 66 k) →
        ∃ M', fX11_plansTo_L27 (fX11_plansTo d) fuel M1 (nI goal) (nI h) (nI aw) (nI li) (nI at') (nI N) (nI a) = some (isoS (firstS (fun a => planS (nowC M0) li n goal m (nextS (nowC M0) li h (actS aw a)) (actS aw a)) c a), M') ∧ eqC M0 M' ∧ Rs M' ∧ (∀ k, k < at' → M' 66 k = M 66 k) ∧ ∀ l, firstS (fun a => planS (nowC M0) li n goal m (nextS (nowC M0) li h (actS aw a)) (actS aw a)) c a = some l → ∀ i, i < m + 1 → M' 66 (at' + i) = nI (l.getD i 0) := by
      intro c
      induction c with
      | zero =>
        intro a fuel M1 hac hf k1 s1 q1
        obtain ⟨f, rfl⟩ : ∃ j, fuel = j + 1 := ⟨fuel - 1, by omega⟩
        refine ⟨M1, ?_, k1, s1, q1, fun l e => absurd e (by simp [firstS])⟩
        show fX11_plansTo_L27_b (fX11_plansTo d) (fX11_plansTo_L27 (fX11_plansTo d) f) M1 (nI goal) (nI h) (nI aw) (nI li) (nI at') (nI N) (nI a) = _
        unfold fX11_plansTo_L27_b
        rw [(c18 hC k1).1, if_pos (nI_lt (by omega) (by omega))]
        rfl
      | succ c ihc =>
        intro a fuel M1 hac hf k1 s1 q1
        obtain ⟨f, rfl⟩ : ∃ j, fuel = j + 1 := ⟨fuel - 1, by omega⟩
        have han : a ≤ n := by omega
        have hw' := actS_lt h7 ha han
        have k2 : eqC M0 (wr M1 66 at' (nI a)) := k1.trans (eqC_wr M1 (by omega) (by omega) _ _)
        obtain ⟨M2, m1, m2, m3, m4⟩ := cSumC hC k2 (Rs_wr s1 (by omega) _ _) hh (pow_le7 h7 hw')
        obtain ⟨M3, r1, r2, r3, r4, r5⟩ := ih d (nextS (nowC M0) li h (actS aw a)) (actS aw a) M2 (at' + 1) N (by omega) (by omega) h4 m3 m4 (nextS_lt hh) hw'
        have eG : fX11_goesOnTo (fX11_plansTo d) (wr M1 66 at' (nI a)) (nI goal) (nI h) (nI (actS aw a)) (nI li) (nI at') (nI N) = some (isoS (planS (nowC M0) li n goal m (nextS (nowC M0) li h (actS aw a)) (actS aw a)), M3) := by
          unfold fX11_goesOnTo
          rw [b2_s m1, b1_s (moved_at M2 hh (turn3 _ _)), nI_1]
          exact b2_s r1
        have w66 : ∀ k, k < at' + 1 → M3 66 k = if k = at' then nI a else M1 66 k := fun k hk => by
          rw [r4 k hk, m2.1 66 (by omega) (by omega), wr_at]; simp
        have head : fX11_plansTo_L27 (fX11_plansTo d) (f + 1) M1 (nI goal) (nI h) (nI aw) (nI li) (nI at') (nI N) (nI a) = if isoS (planS (nowC M0) li n goal m (nextS (nowC M0) li h (actS aw a)) (actS aw a)) = 0 then fX11_plansTo_L27 (fX11_plansTo d) f M3 (nI goal) (nI h) (nI aw) (nI li) (nI at') (nI N) (nI (a + 1)) else some (1, M3) := by
          show fX11_plansTo_L27_b (fX11_plansTo d) (fX11_plansTo_L27 (fX11_plansTo d) f) M1 (nI goal) (nI h) (nI aw) (nI li) (nI at') (nI N) (nI a) = _
          unfold fX11_plansTo_L27_b
          rw [(c18 hC k1).1, if_neg (nI_nlt (by omega) (by omega)), gd_t (ix_nI (by omega) (by omega)), tn_nI (by omega), acted_at a128 (by omega), b2_s eG, nI_1]
        rw [head]
        cases e : planS (nowC M0) li n goal m (nextS (nowC M0) li h (actS aw a)) (actS aw a) with
        | none =>
          rw [firstS_none (f := fun a => planS (nowC M0) li n goal m (nextS (nowC M0) li h (actS aw a)) (actS aw a)) e, if_pos (show isoS none = 0 from rfl)]
          exact ihc (a + 1) f M3 (by omega) (by omega) r2 r3 (fun k hk => by rw [w66 k (by omega), if_neg (by omega)]; exact q1 k hk)
        | some l' =>
          rw [firstS_some (f := fun a => planS (nowC M0) li n goal m (nextS (nowC M0) li h (actS aw a)) (actS aw a)) e, if_neg (show ¬ isoS (some l') = 0 by unfold isoS; simp)]
          refine ⟨M3, by unfold isoS; simp, r2, r3, fun k hk => by rw [w66 k (by omega), if_neg (by omega)]; exact q1 k hk, fun l hl i hi => ?_⟩
          have := Option.some.inj hl
          subst this
          cases i with
          | zero => rw [w66 (at' + 0) (by omega), if_pos (Nat.add_zero _)]; rfl
          | succ i =>
            have := r5 l' e i (by omega)
            rw [show at' + (i + 1) = at' + 1 + i by omega, this]
            rfl
    show ∃ M', fX11_plansTo_b (fX11_plansTo d) M (nI goal) (nI h) (nI aw) (nI li) (nI at') (nI N) = _ ∧ _
    unfold fX11_plansTo_b
    rw [b1_s (apart_at M hh hg), show nI N - nI at' = nI (m + 1) by rw [pk_sub (by omega)]; congr 1; omega]
    by_cases z : apS h goal ≤ m + 1
    · rw [if_pos (nI_le z (by omega)), if_pos (nI_lt (by omega) (by omega))]
      exact loop (n + 1) 0 5000 M (by omega) (by omega) hK hS (fun _ _ => rfl)
    · have e : planS (nowC M0) li n goal (m + 1) h aw = none := by
        cases e : planS (nowC M0) li n goal (m + 1) h aw with
        | none => rfl
        | some l => exact absurd (planS_ap hg (m + 1) h aw l hh e) z
      rw [if_neg (nI_ge (by omega) (by omega)), e]
      exact ⟨M, rfl, hK, hS, fun _ _ => rfl, fun l hl => absurd hl (by simp)⟩
/-- the model finds it too -/
theorem mplans {X : mM} {n li goal : Nat} (hg : goal < 24) : ∀ (m d h aw : Nat) (T : mM) (N : Nat), m < d → m ≤ N → N ≤ 4 → Vx X (T 1) n aw h li →
    ∃ T', fX12_finds d T (nI m) (nI N) (nI goal) = some (isoS (planS X li n goal m h aw), T') ∧ T' 1 = T 1 ∧ (∀ q, q ≠ 1 → q ≠ 3 → q ≠ 7 → T' q = T q) ∧ (∀ k, k < N - m → T' 7 k = T 7 k) ∧ ∀ l, planS X li n goal m h aw = some l → ∀ i, i < m → T' 7 (N - m + i) = nI (l.getD i 0) := by
  intro m
  induction m with
  | zero =>
    intro d h aw T N hd hN h4 hV
    obtain ⟨d, rfl⟩ : ∃ j, d = j + 1 := ⟨d - 1, by omega⟩
    have hh := hV.1.2.2.1
    refine ⟨T, ?_, rfl, fun _ _ _ _ => rfl, fun _ _ => rfl, fun l _ i hi => absurd hi (by omega)⟩
    show fX12_finds_b (fX12_finds d) T (nI 0) (nI N) (nI goal) = some (isoS (if h = goal then some [] else none), T)
    unfold fX12_finds_b
    rw [if_pos (show nI 0 = 0 from rfl), g1N, c1N, hV.2.2.1.2.1]
    by_cases z : h = goal
    · rw [if_pos z, if_pos (by rw [z])]; rfl
    · rw [if_neg z, if_neg (fun q => z ((nI_eq (by omega) (by omega)).mp q))]; rfl
  | succ m ih =>
    intro d h aw T N hd hN h4 hV
    obtain ⟨d, rfl⟩ : ∃ j, d = j + 1 := ⟨d - 1, by omega⟩
    have hh := hV.1.2.2.1
    have h7 := hV.1.1
    have ha := hV.1.2.1
    have e1 : nI (m + 1) - 1 = nI m := nI_pred m
    have iN : nI N - nI (m + 1) = nI (N - (m + 1)) := pk_sub hN
    have loop : ∀ (c a fuel : Nat) (T1 : mM), a + c = n + 1 → c + 1 < fuel → T1 1 = T 1 → (∀ q, q ≠ 1 → q ≠ 3 → q ≠ 7 → T1 q = T q) → (∀ k, k < N - (m + 1) → T1 7 k = T 7 k) →
        ∃ T', fX12_finds_L26 (fX12_finds d) fuel T1 (nI (m + 1)) (nI N) (nI goal) 0 (nI a) = some (isoS (firstS (fun a => planS X li n goal m (nextS X li h (actS aw a)) (actS aw a)) c a), T') ∧ T' 1 = T 1 ∧ (∀ q, q ≠ 1 → q ≠ 3 → q ≠ 7 → T' q = T q) ∧ (∀ k, k < N - (m + 1) → T' 7 k = T 7 k) ∧ ∀ l, firstS (fun a => planS X li n goal m (nextS X li h (actS aw a)) (actS aw a)) c a = some l → ∀ i, i < m + 1 → T' 7 (N - (m + 1) + i) = nI (l.getD i 0) := by
      intro c
      induction c with
      | zero =>
        intro a fuel T1 hac hf t1 q1 k1
        obtain ⟨f, rfl⟩ : ∃ j, fuel = j + 1 := ⟨fuel - 1, by omega⟩
        refine ⟨T1, ?_, t1, q1, k1, fun l e => absurd e (by simp [firstS])⟩
        show fX12_finds_L26_b (fX12_finds d) (fX12_finds_L26 (fX12_finds d) f) T1 (nI (m + 1)) (nI N) (nI goal) 0 (nI a) = _
        unfold fX12_finds_L26_b
        rw [g0N, c0N, t1, hV.2.2.1.1, if_pos (nI_lt (by omega) (by omega))]
        rfl
      | succ c ihc =>
        intro a fuel T1 hac hf t1 q1 k1
        obtain ⟨f, rfl⟩ : ∃ j, fuel = j + 1 := ⟨fuel - 1, by omega⟩
        have han : a ≤ n := by omega
        have V1 : Vx X (T1 1) n aw h li := by rw [t1]; exact hV
        obtain ⟨Ta, Tb, Tc, d1, d2, d3, d4, d5, d6, d7⟩ := mFwd V1 han
        obtain ⟨T3, r2, r5, r6, r7, r8⟩ := ih d (nextS X li h (actS aw a)) (actS aw a) Tc N (by omega) (by omega) h4 d5
        -- behind the try: back, with the act written or 0
        have back : ∀ v : Int32, ∃ T4, fX12_finds_L93 (fX12_finds d) (fX12_finds_L26 (fX12_finds d) f) T3 (nI (m + 1)) (nI N) (nI goal) (isoS (planS X li n goal m (nextS X li h (actS aw a)) (actS aw a))) (nI a) (byS X li h (actS aw a)) (nI (N - (m + 1))) v = fX12_finds_L26 (fX12_finds d) f T4 (nI (m + 1)) (nI N) (nI goal) (isoS (planS X li n goal m (nextS X li h (actS aw a)) (actS aw a))) (nI (a + 1)) ∧ T4 1 = T 1 ∧ (∀ q, q ≠ 1 → q ≠ 3 → q ≠ 7 → T4 q = T q) ∧ T4 7 = upd (T3 7) (N - (m + 1)) v := by
          intro v
          have e71 : wr T3 7 (N - (m + 1)) v 1 = T3 1 := wr_q _ _ (by omega)
          have V3 : Vx X (wr T3 7 (N - (m + 1)) v 1) n (actS aw a) (nextS X li h (actS aw a)) li := by rw [e71, r5]; exact d5
          obtain ⟨Td, Te, b1', b2', b3, b4, b5⟩ := mBack han ha hh V3
          have eT : Te 1 = T 1 := by
            have o1 : offE n (T1 1) (Tc 1) := d6
            have o2 := b4
            rw [e71, r5] at o2
            rw [t1] at o1
            exact Vx_uniq hV b3 (o1.trans o2)
          refine ⟨Te, ?_, eT, fun q h1 h3 h7 => (b5 q h1).trans ((wr_q _ _ h7).trans ((r6 q h1 h3 h7).trans ((d7 q h1 h3).trans (q1 q h1 h3 h7)))), ?_⟩
          · unfold fX12_finds_L93
            rw [gd_t (ix_nI (by omega) (by omega)), tn_nI (by omega), b2_s b1', b2_s b2', nI_1]
          · rw [b5 7 (by omega), wr_row]
        have head : fX12_finds_L26 (fX12_finds d) (f + 1) T1 (nI (m + 1)) (nI N) (nI goal) 0 (nI a) = if isoS (planS X li n goal m (nextS X li h (actS aw a)) (actS aw a)) = 0 then fX12_finds_L93 (fX12_finds d) (fX12_finds_L26 (fX12_finds d) f) T3 (nI (m + 1)) (nI N) (nI goal) (isoS (planS X li n goal m (nextS X li h (actS aw a)) (actS aw a))) (nI a) (byS X li h (actS aw a)) (nI (N - (m + 1))) 0 else fX12_finds_L93 (fX12_finds d) (fX12_finds_L26 (fX12_finds d) f) T3 (nI (m + 1)) (nI N) (nI goal) (isoS (planS X li n goal m (nextS X li h (actS aw a)) (actS aw a))) (nI a) (byS X li h (actS aw a)) (nI (N - (m + 1))) (nI a) := by
          show fX12_finds_L26_b (fX12_finds d) (fX12_finds_L26 (fX12_finds d) f) T1 (nI (m + 1)) (nI N) (nI goal) 0 (nI a) = _
          unfold fX12_finds_L26_b
          rw [g0N, c0N, t1, hV.2.2.1.1, if_neg (nI_nlt (by omega) (by omega)), if_pos rfl, b2_s d1, b2_s d2, b1_s d3, b2_s d4, e1, b2_s r2, iN]
        have r7' : ∀ k, k < N - (m + 1) + 1 → T3 7 k = T1 7 k := fun k hk => by rw [r7 k (by omega), d7 7 (by omega) (by omega)]
        rw [head]
        cases e : planS X li n goal m (nextS X li h (actS aw a)) (actS aw a) with
        | none =>
          rw [firstS_none (f := fun a => planS X li n goal m (nextS X li h (actS aw a)) (actS aw a)) e, if_pos (show isoS none = 0 from rfl)]
          rw [e] at back
          obtain ⟨T4, b1', b2', b3, b4⟩ := back 0
          rw [b1']
          exact ihc (a + 1) f T4 (by omega) (by omega) b2' b3 (fun k hk => by rw [b4, upd_ne (by omega), r7' k (by omega)]; exact k1 k hk)
        | some l' =>
          rw [firstS_some (f := fun a => planS X li n goal m (nextS X li h (actS aw a)) (actS aw a)) e, if_neg (show ¬ isoS (some l') = 0 by unfold isoS; simp)]
          rw [e] at back
          obtain ⟨T4, b1', b2', b3, b4⟩ := back (nI a)
          rw [b1']
          obtain ⟨f', rfl⟩ : ∃ j, f = j + 1 := ⟨f - 1, by omega⟩
          refine ⟨T4, ?_, b2', b3, fun k hk => by rw [b4, upd_ne (by omega), r7' k (by omega)]; exact k1 k hk, fun l hl i hi => ?_⟩
          · show fX12_finds_L26_b (fX12_finds d) (fX12_finds_L26 (fX12_finds d) f') T4 (nI (m + 1)) (nI N) (nI goal) (isoS (some l')) (nI (a + 1)) = _
            unfold fX12_finds_L26_b
            rw [show isoS (some l') = 1 from rfl, show isoS (some (a :: l')) = 1 from rfl, g0N, if_neg (show ¬ (1 : Int32) = 0 by decide), gd_t (show isB 1 = true from rfl), ite_self]
          · have := Option.some.inj hl
            subst this
            rw [b4]
            cases i with
            | zero => exact upd_eq
            | succ i =>
              rw [upd_ne (by omega)]
              have := r8 l' e i (by omega)
              rw [show N - (m + 1) + (i + 1) = N - m + i by omega, this]
              rfl
    show ∃ T', fX12_finds_b (fX12_finds d) T (nI (m + 1)) (nI N) (nI goal) = _ ∧ _
    unfold fX12_finds_b
    rw [if_neg (nI_ne0 (by omega) (by omega))]
    exact loop (n + 1) 0 5000 T (by omega) (by omega) rfl (fun _ _ _ _ => rfl) (fun _ _ => rfl)
def noS (z : Int32) (o : Option (Nat × List Nat)) : Int32 := match o with
  | some (j, _) => nI j
  | none => z
/-- both look for the shortest PLANS in the same way -/
theorem fewB {M0 T0 : mM} {n liM li goal aw h : Nat} (hC : Cc M0 (T0 1) n liM) (hg : goal < 24) (h5 : M0 1 5 = nI aw) (h6 : M0 1 6 = nI h) (hV : Vx (nowC M0) (T0 1) n aw h li) {most : Nat} (h4 : most ≤ 4) : ∀ (c k fuel fuel' : Nat) (M T : mM), k + c = most + 1 → c < fuel → c < fuel' → eqC M0 M → Rs M → T 1 = T0 1 → (∀ q, q ≠ 1 → q ≠ 3 → q ≠ 7 → T q = T0 q) →
    ∃ (o : Option (Nat × List Nat)) (M' T' : mM), fX11_firstPlan_L3 fuel M (nI goal) (nI li) (nI most) (nI k) = some (noS (-3) o, M') ∧ fX12_fewestFor_L2 fuel' T (nI goal) (nI most) (nI k) = some (noS (-1) o, T') ∧ eqC M0 M' ∧ Rs M' ∧ T' 1 = T0 1 ∧ (∀ q, q ≠ 1 → q ≠ 3 → q ≠ 7 → T' q = T0 q) ∧ ∀ j l, o = some (j, l) → j ≤ most ∧ l.length = j ∧ (∀ a, a ∈ l → a ≤ n) ∧ ∀ i, i < j → M' 66 i = nI (l.getD i 0) ∧ T' 7 i = nI (l.getD i 0) := by
  intro c
  induction c with
  | zero =>
    intro k fuel fuel' M T hk hf hf' hK hS hT hq
    obtain ⟨f, rfl⟩ : ∃ j, fuel = j + 1 := ⟨fuel - 1, by omega⟩
    obtain ⟨f', rfl⟩ : ∃ j, fuel' = j + 1 := ⟨fuel' - 1, by omega⟩
    have hlt : nI most < nI k := nI_lt (by omega) (by omega)
    refine ⟨none, M, T, ?_, ?_, hK, hS, hT, hq, fun j l e => absurd e (by simp)⟩
    · show fX11_firstPlan_L3_b (fX11_firstPlan_L3 f) M (nI goal) (nI li) (nI most) (nI k) = _
      unfold fX11_firstPlan_L3_b
      rw [if_pos hlt]; rfl
    · show fX12_fewestFor_L2_b (fX12_fewestFor_L2 f') T (nI goal) (nI most) (nI k) = _
      unfold fX12_fewestFor_L2_b
      rw [if_pos hlt, if_pos hlt]; rfl
  | succ c ih =>
    intro k fuel fuel' M T hk hf hf' hK hS hT hq
    obtain ⟨f, rfl⟩ : ∃ j, fuel = j + 1 := ⟨fuel - 1, by omega⟩
    obtain ⟨f', rfl⟩ : ∃ j, fuel' = j + 1 := ⟨fuel' - 1, by omega⟩
    have hlt : ¬ nI most < nI k := nI_nlt (by omega) (by omega)
    have hm5 : M 1 5 = nI aw := (congrFun (hK.1 1 (by omega) (by omega)) 5).trans h5
    have hm6 : M 1 6 = nI h := (congrFun (hK.1 1 (by omega) (by omega)) 6).trans h6
    obtain ⟨M1, m1, m2, m3, m4, m5⟩ := cplans (li := li) hC hg k 6 h aw M 0 k (by omega) (by omega) (by omega) hK hS hV.1.2.2.1 hV.1.2.1
    obtain ⟨T1, t1, t2, t3, t4, t5⟩ := mplans (li := li) hg k 6 h aw T k (by omega) (by omega) (by omega) (by rw [hT]; exact hV)
    have q1 : ∀ q, q ≠ 1 → q ≠ 3 → q ≠ 7 → T1 q = T0 q := fun q a b c => (t3 q a b c).trans (hq q a b c)
    have H1 : fX11_firstPlan_L3 (f + 1) M (nI goal) (nI li) (nI most) (nI k) = if isoS (planS (nowC M0) li n goal k h aw) = 0 then fX11_firstPlan_L3 f M1 (nI goal) (nI li) (nI most) (nI (k + 1)) else some (nI k, M1) := by
      show fX11_firstPlan_L3_b (fX11_firstPlan_L3 f) M (nI goal) (nI li) (nI most) (nI k) = _
      unfold fX11_firstPlan_L3_b
      rw [if_neg hlt, hm5, hm6, b2_s (show fX11_plansTo 6 M (nI goal) (nI h) (nI aw) (nI li) 0 (nI k) = _ from m1), nI_1]
    have H2 : fX12_fewestFor_L2 (f' + 1) T (nI goal) (nI most) (nI k) = if isoS (planS (nowC M0) li n goal k h aw) = 0 then fX12_fewestFor_L2 f' T1 (nI goal) (nI most) (nI (k + 1)) else some (nI k, T1) := by
      show fX12_fewestFor_L2_b (fX12_fewestFor_L2 f') T (nI goal) (nI most) (nI k) = _
      unfold fX12_fewestFor_L2_b
      rw [if_neg hlt, b2_s t1, nI_1, if_neg hlt]
    cases e : planS (nowC M0) li n goal k h aw with
    | none =>
      rw [e] at H1 H2
      rw [H1, H2, if_pos (show isoS none = 0 from rfl), if_pos (show isoS none = 0 from rfl)]
      exact ih (k + 1) f f' M1 T1 (by omega) (by omega) (by omega) m2 m3 (t2.trans hT) q1
    | some l =>
      rw [e] at H1 H2
      have ne : ¬ isoS (some l) = 0 := by unfold isoS; simp
      obtain ⟨l1, l2⟩ := planS_len k h aw l e
      refine ⟨some (k, l), M1, T1, ?_, ?_, m2, m3, t2.trans hT, q1, fun j l' ej => ?_⟩
      · rw [H1, if_neg ne]; rfl
      · rw [H2, if_neg ne]; rfl
      · have ej' := Option.some.inj ej
        have e1 : k = j := congrArg Prod.fst ej'
        have e2 : l = l' := congrArg Prod.snd ej'
        subst e1
        subst e2
        refine ⟨by omega, l1, l2, fun i hi => ⟨?_, ?_⟩⟩
        · have := m5 l e i hi
          rw [Nat.zero_add] at this; exact this
        · have := t5 l e i hi
          rw [Nat.sub_self, Nat.zero_add] at this; exact this
/-- the same over the whole of a call -/
theorem few_at {M T : mM} (hR : Rel M T) {n aw h no li la : Nat} (hV : Rv (nowC M) (T 1) n aw h no li la) (hX : Vx (nowC M) (T 1) n aw h li) {goal : Nat} (hg : goal < 24) :
    ∃ (o : Option (Nat × List Nat)) (M' T' : mM), fX11_firstPlan M (nI goal) (M 1 8) 4 = some (noS (-3) o, M') ∧ fX12_fewestFor T (nI goal) 4 = some (noS (-1) o, T') ∧ eqC M M' ∧ Rs M' ∧ T' 1 = T 1 ∧ (∀ q, q ≠ 1 → q ≠ 3 → q ≠ 7 → T' q = T q) ∧ Rel M' T' ∧ ∀ j l, o = some (j, l) → j ≤ 4 ∧ l.length = j ∧ (∀ a, a ∈ l → a ≤ n) ∧ ∀ i, i < j → M' 66 i = nI (l.getD i 0) ∧ T' 7 i = nI (l.getD i 0) := by
  have hC : Cc M (T 1) n li := ⟨hX.2.2.2.2, hX.vs, hV.2.1.2.2.2.2.1⟩
  obtain ⟨o, M', T', r1, r2, r3, r4, r5, r6, r7⟩ := fewB hC hg hV.2.1.2.1 hV.2.1.2.2.1 hX (most := 4) (by omega) 5 0 5000 5000 M T (by omega) (by omega) (by omega) (eqC.refl M) hR.2.1 rfl (fun _ _ _ _ => rfl)
  refine ⟨o, M', T', ?_, r2, r3, r4, r5, r6, hR.scr (fun q g1 g2 => r3.1 q g1 (by omega)) r3.2 r4 r5 (keepR_of (fun k hk => by rw [r6 0 (by omega) (by omega) (by omega)]) (fun q hq => r6 q (by omega) (by omega) (by omega))), r7⟩
  unfold fX11_firstPlan
  rw [show M 1 8 = nI li from hV.2.1.2.2.2.2.1]
  exact r1
theorem noS_ge {o : Option (Nat × List Nat)} (h : ∀ j l, o = some (j, l) → j ≤ 4) : (0 ≤ noS (-1) o ↔ o.isSome) ∧ (o.isSome → noS (-3) o = noS (-1) o) := by
  cases o with
  | none => exact ⟨⟨fun q => absurd q (by decide), fun q => absurd q (by simp)⟩, fun q => absurd q (by simp)⟩
  | some p =>
    obtain ⟨j, l⟩ := p
    have := h j l rfl
    exact ⟨⟨fun _ => rfl, fun _ => nI_pos' (by omega)⟩, fun _ => rfl⟩
theorem pm_fewest {M T : mM} (hR : Rel M T) (a0 : Int32) : ∃ (r : Int32) (M' : mM) (T' : mM), fX11_fewest M a0 = some (r, M') ∧ fX12_fewest T a0 = some (r, T') ∧ Rel M' T' := by
  obtain ⟨n, aw, h, no, li, la, hV, hX, -⟩ := hR.look
  unfold fX11_fewest fX12_fewest
  rw [isHour_eq]
  by_cases h1 : fX11_isHour a0 = 0
  · exact ⟨-1, M, T, by rw [if_pos h1], by rw [if_pos h1], hR⟩
  rw [if_neg h1, if_neg h1]
  obtain ⟨g, hg, rfl⟩ := isHour_yes h1
  obtain ⟨o, M', T', r1, r2, r3, r4, r5, r6, r7, r8⟩ := few_at hR hV hX hg
  obtain ⟨g1, g2⟩ := noS_ge (fun j l e => (r8 j l e).1)
  refine ⟨noS (-3) o, M', T', by rw [b2_s r1], ?_, r7⟩
  rw [b2_s r2]
  by_cases z : o.isSome
  · rw [if_pos (g1.mpr z), g2 z]
  · rw [if_neg (fun q => z (g1.mp q))]
    cases o with
    | none => rfl
    | some p => exact absurd rfl z
theorem pm_ith {M T : mM} (hR : Rel M T) (a0 : Int32) (a1 : Int32) : ∃ (r : Int32) (M' : mM) (T' : mM), fX11_ith M a0 a1 = some (r, M') ∧ fX12_ith T a0 a1 = some (r, T') ∧ Rel M' T' := by
  obtain ⟨n, aw, h, no, li, la, hV, hX, -⟩ := hR.look
  unfold fX11_ith fX12_ith
  rw [isHour_eq, show fX12_in (Int32.toInt64 a1) 0 3 = fX11_isIn a1 0 3 from in_eq a1 0 3]
  by_cases h1 : fX11_isHour a0 = 0
  · exact ⟨-1, M, T, by rw [if_pos h1], by rw [if_pos h1], hR⟩
  rw [if_neg h1, if_neg h1]
  by_cases h2 : fX11_isIn a1 0 3 = 0
  · exact ⟨-1, M, T, by rw [if_pos h2], by rw [if_pos h2], hR⟩
  rw [if_neg h2, if_neg h2]
  obtain ⟨g, hg, rfl⟩ := isHour_yes h1
  obtain ⟨i, -, hi, rfl⟩ := isIn_yes (a := 0) (b := 3) (by omega) (by omega) h2
  obtain ⟨o, M', T', r1, r2, r3, r4, r5, r6, r7, r8⟩ := few_at hR hV hX hg
  cases o with
  | none =>
    refine ⟨-3, M', T', ?_, ?_, r7⟩
    · rw [b2_s r1, if_pos (show noS (-3) none ≤ nI i from Int32.le_iff_toInt_le.mpr (by rw [nI_toInt (by omega)]; show (-3 : Int) ≤ i; omega))]
    · rw [b2_s r2, if_pos (show noS (-1) none ≤ nI i from Int32.le_iff_toInt_le.mpr (by rw [nI_toInt (by omega)]; show (-1 : Int) ≤ i; omega))]
  | some p =>
    obtain ⟨j, l⟩ := p
    obtain ⟨q1, q2, q3, q4⟩ := r8 j l rfl
    rw [b2_s r1, b2_s r2, show noS (-3) (some (j, l)) = nI j from rfl, show noS (-1) (some (j, l)) = nI j from rfl]
    by_cases z : j ≤ i
    · exact ⟨-3, M', T', by rw [if_pos (nI_le z (by omega))], by rw [if_pos (nI_le z (by omega))], r7⟩
    · refine ⟨nI (l.getD i 0), M', T', ?_, ?_, r7⟩
      · rw [if_neg (nI_ge (by omega) (by omega)), gd_t (ix_nI (by omega) (by omega)), tn_nI (by omega), (q4 i (by omega)).1]
      · rw [if_neg (nI_ge (by omega) (by omega)), gd_t (ix_nI (by omega) (by omega)), tn_nI (by omega), (q4 i (by omega)).2]
theorem Vx.limit {X : mM} {t : Nat → Int32} {n aw h li v : Nat} (hV : Vx X t n aw h li) (hv : v ≤ 99) : Vx X (upd t 3 (nI v)) n aw h v := by
  obtain ⟨a, b, c, hv', hl⟩ := hV
  refine ⟨⟨a.1, a.2.1, a.2.2.1, hv⟩, b, ⟨by rw [upd_ne (by omega)]; exact c.1, by rw [upd_ne (by omega)]; exact c.2.1, upd_eq⟩, fun p hp => ?_, Rl_eq (fun _ _ _ => rfl) (fun k hk _ => upd_ne (by omega)) hl⟩
  obtain ⟨k, w, g, c', x1, x2, z1, z2, z3, z4, z5⟩ := hv' p hp
  exact ⟨k, w, g, c', x1, x2, by rw [upd_ne (by omega)]; exact z1, by rw [upd_ne (by omega)]; exact z2, by rw [upd_ne (by omega)]; exact z3, by rw [upd_ne (by omega)]; exact z4, by rw [upd_ne (by omega)]; exact z5⟩
theorem upd_upd (f : Nat → Int32) (k : Nat) (x y : Int32) : upd (upd f k x) k y = upd f k y := by
  funext j
  by_cases e : j = k
  · rw [e, upd_eq, upd_eq]
  · rw [upd_ne e, upd_ne e, upd_ne e]
theorem upd_self (f : Nat → Int32) (k : Nat) : upd f k (f k) = f := by
  funext j
  by_cases e : j = k
  · rw [e, upd_eq]
  · rw [upd_ne e]
theorem limB {M T : mM} (hR : Rel M T) {n aw h no li la goal m : Nat} (hV : Rv (nowC M) (T 1) n aw h no li la) (hX : Vx (nowC M) (T 1) n aw h li) (hg : goal < 24) (hm : m ≤ 4) : ∀ (c : Nat) (fuel fuel' : Nat) (v : Int32) (M1 T1 : mM), v = nI c - 1 → c ≤ 100 → c < fuel → c < fuel' → eqC M M1 → Rs M1 → T1 1 = upd (T 1) 3 v → (∀ q, q ≠ 1 → q ≠ 3 → q ≠ 7 → T1 q = T q) →
    ∃ (r : Int32) (M' T' : mM), fX11_limitFor_L21 fuel M1 (nI goal) (nI m) v = some (r, M') ∧ fX12_limitFor_L40 fuel' T1 (nI goal) (nI m) (T 1 3) v = some (r, T') ∧ eqC M M' ∧ Rs M' ∧ T' 1 = T 1 ∧ ∀ q, q ≠ 1 → q ≠ 3 → q ≠ 7 → T' q = T q := by
  intro c
  induction c with
  | zero =>
    intro fuel fuel' v M1 T1 hv hc hf hf' hK hS hT hq
    obtain ⟨f, rfl⟩ : ∃ j, fuel = j + 1 := ⟨fuel - 1, by omega⟩
    obtain ⟨f', rfl⟩ : ∃ j, fuel' = j + 1 := ⟨fuel' - 1, by omega⟩
    have hv' : v = -1 := hv
    subst hv'
    refine ⟨-3, M1, wr T1 1 3 (T 1 3), ?_, ?_, hK, hS, ?_, fun q h1 h3 h7 => (wr_q _ _ h1).trans (hq q h1 h3 h7)⟩
    · show fX11_limitFor_L21_b (fX11_limitFor_L21 f) M1 (nI goal) (nI m) (-1) = _
      unfold fX11_limitFor_L21_b
      rw [if_pos (by decide)]
    · show fX12_limitFor_L40_b (fX12_limitFor_L40 f') T1 (nI goal) (nI m) (T 1 3) (-1) = _
      unfold fX12_limitFor_L40_b fX12_limitFor_L68
      rw [if_pos (by decide), g3N, c3N, if_pos (by decide)]
    · rw [wr_row, hT, upd_upd, upd_self]
  | succ c ih =>
    intro fuel fuel' v M1 T1 hv hc hf hf' hK hS hT hq
    obtain ⟨f, rfl⟩ : ∃ j, fuel = j + 1 := ⟨fuel - 1, by omega⟩
    obtain ⟨f', rfl⟩ : ∃ j, fuel' = j + 1 := ⟨fuel' - 1, by omega⟩
    rw [nI_pred] at hv
    subst hv
    have hC : Cc M (upd (T 1) 3 (nI c)) n li := ⟨(hX.limit (v := c) (by omega)).2.2.2.2, hX.vs, hV.2.1.2.2.2.2.1⟩
    have hX' : Vx (nowC M) (T1 1) n aw h c := by rw [hT]; exact hX.limit (by omega)
    have hC1 : Cc M (T1 1) n li := by rw [hT]; exact hC
    obtain ⟨o, M2, T2, r1, r2, r3, r4, r5, r6, r7⟩ := fewB (T0 := T1) hC1 hg hV.2.1.2.1 hV.2.1.2.2.1 hX' (most := m) hm (m + 1) 0 5000 5000 M1 T1 (by omega) (by omega) (by omega) hK hS rfl (fun _ _ _ _ => rfl)
    have n0 : ¬ nI c < 0 := nI_pos (by omega)
    have q2 : ∀ q, q ≠ 1 → q ≠ 3 → q ≠ 7 → T2 q = T q := fun q a b d => (r6 q a b d).trans (hq q a b d)
    have H1 : fX11_limitFor_L21 (f + 1) M1 (nI goal) (nI m) (nI c) = if noS (-3) o < 0 then fX11_limitFor_L21 f M2 (nI goal) (nI m) (nI c - 1) else some (nI c, M2) := by
      show fX11_limitFor_L21_b (fX11_limitFor_L21 f) M1 (nI goal) (nI m) (nI c) = _
      unfold fX11_limitFor_L21_b fX11_firstPlan
      rw [if_neg n0, b2_s (show fX11_firstPlan_L3 5000 M1 (nI goal) (nI c) (nI m) 0 = _ from r1), ← Int32.sub_eq_add_neg]
    have H2 : fX12_limitFor_L40 (f' + 1) T1 (nI goal) (nI m) (T 1 3) (nI c) = if 0 ≤ noS (-1) o then some (nI c, wr T2 1 3 (T 1 3)) else fX12_limitFor_L40 f' (wr T2 1 3 (nI c - 1)) (nI goal) (nI m) (T 1 3) (nI c - 1) := by
      show fX12_limitFor_L40_b (fX12_limitFor_L40 f') T1 (nI goal) (nI m) (T 1 3) (nI c) = _
      unfold fX12_limitFor_L40_b fX12_limitFor_L68 fX12_fewestFor
      rw [if_neg n0, b2_s (show fX12_fewestFor_L2 5000 T1 (nI goal) (nI m) 0 = _ from r2)]
      simp only [g3N, c3N, if_neg n0]
      rw [← Int32.sub_eq_add_neg]
    rw [H1, H2]
    cases o with
    | none =>
      rw [if_pos (show noS (-3) none < 0 by decide), if_neg (show ¬ 0 ≤ noS (-1) none by decide)]
      exact ih f f' _ M2 _ rfl (by omega) (by omega) (by omega) r3 r4 (by rw [wr_row, r5, hT, upd_upd]) (fun q a b d => (wr_q _ _ a).trans (q2 q a b d))
    | some p =>
      obtain ⟨j, l⟩ := p
      have hj := (r7 j l rfl).1
      rw [if_neg (show ¬ noS (-3) (some (j, l)) < 0 from nI_pos (by omega)), if_pos (show 0 ≤ noS (-1) (some (j, l)) from nI_pos' (by omega))]
      exact ⟨nI c, M2, _, rfl, rfl, r3, r4, by rw [wr_row, r5, hT, upd_upd, upd_self], fun q a b d => (wr_q _ _ a).trans (q2 q a b d)⟩
theorem pm_limitFor {M T : mM} (hR : Rel M T) (a0 : Int32) (a1 : Int32) : ∃ (r : Int32) (M' : mM) (T' : mM), fX11_limitFor M a0 a1 = some (r, M') ∧ fX12_limitFor T a0 a1 = some (r, T') ∧ Rel M' T' := by
  obtain ⟨n, aw, h, no, li, la, hV, hX, -⟩ := hR.look
  unfold fX11_limitFor fX12_limitFor
  rw [isHour_eq, show fX12_in (Int32.toInt64 a1) 1 3 = fX11_isIn a1 1 3 from in_eq a1 1 3]
  by_cases h1 : fX11_isHour a0 = 0
  · exact ⟨-1, M, T, by rw [if_pos h1], by rw [if_pos h1], hR⟩
  rw [if_neg h1, if_neg h1]
  by_cases h2 : fX11_isIn a1 1 3 = 0
  · exact ⟨-1, M, T, by rw [if_pos h2], by rw [if_pos h2], hR⟩
  rw [if_neg h2, if_neg h2]
  obtain ⟨g, hg, rfl⟩ := isHour_yes h1
  obtain ⟨m, -, hm, rfl⟩ := isIn_yes (a := 1) (b := 3) (by omega) (by omega) h2
  obtain ⟨r, M', T', r1, r2, r3, r4, r5, r6⟩ := limB hR hV hX hg (show m ≤ 4 by omega) 100 5000 5000 99 M (wr T 1 3 99) (by decide) (by omega) (by omega) (by omega) (eqC.refl M) hR.2.1 (wr_row _ _ _ _) (fun q h1 _ _ => wr_q _ _ h1)
  refine ⟨r, M', T', r1, ?_, hR.scr (fun q g1 g2 => r3.1 q g1 (by omega)) r3.2 r4 r5 (keepR_of (fun k hk => by rw [r6 0 (by omega) (by omega) (by omega)]) (fun q hq => r6 q (by omega) (by omega) (by omega)))⟩
  simp only [g3N, c3N]
  exact r2
