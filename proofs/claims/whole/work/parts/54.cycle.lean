/-! cycle -/
theorem itS_succ (g : Nat → Nat) : ∀ k h, itS g (k + 1) h = g (itS g k h) := by
  intro k
  induction k with
  | zero => intro h; rfl
  | succ k ih => intro h; show itS g (k + 1) (g h) = g (itS g k (g h)); exact ih (g h)
theorem itS_add (g : Nat → Nat) : ∀ j k h, itS g (k + j) h = itS g j (itS g k h) := by
  intro j
  induction j with
  | zero => intro k h; rfl
  | succ j ih => intro k h; rw [show k + (j + 1) = (k + j) + 1 by omega, itS_succ, ih]; exact (itS_succ g j (itS g k h)).symm
theorem holes : ∀ (m : Nat) (f : Nat → Nat), (∀ k, k < m + 1 → f k < m) → ∃ i j, i < j ∧ j < m + 1 ∧ f i = f j := by
  intro m
  induction m with
  | zero => intro f h; exact absurd (h 0 (by omega)) (by omega)
  | succ m ih =>
    intro f h
    by_cases e : ∃ i, i < m + 1 ∧ f i = f (m + 1)
    · obtain ⟨i, hi, he⟩ := e
      exact ⟨i, m + 1, hi, by omega, he⟩
    · have ne : ∀ i, i < m + 1 → f i ≠ f (m + 1) := fun i hi q => e ⟨i, hi, q⟩
      obtain ⟨i, j, h1, h2, h3⟩ := ih (fun k => if f k = m then f (m + 1) else f k) (fun k hk => by
        have a := h k (by omega)
        have b := h (m + 1) (by omega)
        have c := ne k hk
        show (if f k = m then f (m + 1) else f k) < m
        by_cases q : f k = m
        · rw [if_pos q]; omega
        · rw [if_neg q]; omega)
      refine ⟨i, j, h1, by omega, ?_⟩
      have ni := ne i (by omega)
      have nj := ne j (by omega)
      have h3' : (if f i = m then f (m + 1) else f i) = (if f j = m then f (m + 1) else f j) := h3
      by_cases q1 : f i = m
      · by_cases q2 : f j = m
        · omega
        · rw [if_pos q1, if_neg q2] at h3'; exact absurd h3'.symm nj
      · by_cases q2 : f j = m
        · rw [if_neg q1, if_pos q2] at h3'; exact absurd h3' ni
        · rw [if_neg q1, if_neg q2] at h3'; exact h3'
/-- where it begins to go round, and how long a round is -/
theorem round_at (A : Nat → Nat) (hA : ∀ k, A k < 24) : ∃ N i : Nat, i < N ∧ N ≤ 24 ∧ A i = A N ∧ ∀ j k, j < k → k < N → A j ≠ A k := by
  obtain ⟨i0, j0, h1, h2, h3⟩ := holes 24 A (fun k _ => hA k)
  obtain ⟨N, ⟨i, hi, he⟩, hm⟩ := pk_least (fun N => ∃ i, i < N ∧ A i = A N) ⟨j0, i0, h1, h3⟩
  refine ⟨N, i, hi, ?_, he, fun j k hjk hk e => hm k hk ⟨j, hjk, e⟩⟩
  rcases Nat.lt_or_ge j0 N with z | z
  · exact absurd ⟨i0, h1, h3⟩ (hm j0 z)
  · omega
theorem round_per {g : Nat → Nat} {h N i : Nat} (hi : i < N) (he : itS g i h = itS g N h) : ∀ k, i ≤ k → itS g (k + (N - i)) h = itS g k h := by
  intro k hk
  have e1 : k + (N - i) = N + (k - i) := by omega
  have e2 : k = i + (k - i) := by omega
  rw [e1, itS_add, ← he, ← itS_add, ← e2]
theorem round_mod {g : Nat → Nat} {h N i : Nat} (hi : i < N) (he : itS g i h = itS g N h) : ∀ d k, k = i + d → itS g k h = itS g (i + d % (N - i)) h := by
  intro d
  induction d using Nat.strongRecOn with
  | ind d ih =>
    intro k hk
    by_cases hd : d < N - i
    · rw [Nat.mod_eq_of_lt hd, hk]
    · have e := ih (d - (N - i)) (by omega) (i + (d - (N - i))) rfl
      rw [hk, show i + d = i + (d - (N - i)) + (N - i) by omega, round_per hi he _ (by omega), e, Nat.mod_eq_sub_mod (by omega : N - i ≤ d)]
theorem round_ne {g : Nat → Nat} {h N i : Nat} (hi : i < N) (he : itS g i h = itS g N h) (hd : ∀ j k, j < k → k < N → itS g j h ≠ itS g k h) {c m : Nat} (hc : i ≤ c) (h0 : 0 < m) (hm : m < N - i) : itS g (c + m) h ≠ itS g c h := by
  rw [round_mod hi he (c + m - i) (c + m) (by omega), round_mod hi he (c - i) c (by omega)]
  have l1 : (c + m - i) % (N - i) < N - i := Nat.mod_lt _ (by omega)
  have l2 : (c - i) % (N - i) < N - i := Nat.mod_lt _ (by omega)
  have ne : (c + m - i) % (N - i) ≠ (c - i) % (N - i) := by
    intro q
    have := Nat.sub_mod_eq_zero_of_mod_eq q
    rw [show c + m - i - (c - i) = m by omega, Nat.mod_eq_of_lt hm] at this
    omega
  rcases Nat.lt_or_ge ((c + m - i) % (N - i)) ((c - i) % (N - i)) with z | z
  · exact hd _ _ (by omega) (by omega)
  · exact (hd _ _ (by omega) (by omega)).symm
theorem cyc24 {M0 : mM} {t : Nat → Int32} {n li aw h N i : Nat} (hC : Cc M0 t n li) (ha : aw < 128) (h5 : M0 1 5 = nI aw) (hh : h < 24) (hi : i < N) (hN : N ≤ 24) (he : itS (fun h => nextS (nowC M0) li h aw) i h = itS (fun h => nextS (nowC M0) li h aw) N h) (hd : ∀ j k, j < k → k < N → itS (fun h => nextS (nowC M0) li h aw) j h ≠ itS (fun h => nextS (nowC M0) li h aw) k h) : ∀ (d k fuel : Nat) (M : mM), k + d = i → eqK M0 M → Rs M → d < fuel →
    ∃ M', fX11_noonsUntilRound_L24 fuel M (nI (itS (fun h => nextS (nowC M0) li h aw) k h)) (nI (itS (fun h => nextS (nowC M0) li h aw) (k + (N - i)) h)) (nI k) = some (nI i, M') ∧ eqK M0 M' ∧ Rs M' := by
  have hlt : ∀ k, itS (fun h => nextS (nowC M0) li h aw) k h < 24 := fun k => itS_lt (fun h hh => nextS_lt hh) k h hh
  intro d
  induction d with
  | zero =>
    intro k fuel M hk hK hS hf
    obtain ⟨j, rfl⟩ : ∃ j, fuel = j + 1 := ⟨fuel - 1, by omega⟩
    refine ⟨M, ?_, hK, hS⟩
    show fX11_noonsUntilRound_L24_b (fX11_noonsUntilRound_L24 j) M _ _ (nI k) = _
    unfold fX11_noonsUntilRound_L24_b
    rw [round_per hi he k (by omega), if_pos rfl, show k = i by omega]
  | succ d ih =>
    intro k fuel M hk hK hS hf
    obtain ⟨j, rfl⟩ : ∃ j, fuel = j + 1 := ⟨fuel - 1, by omega⟩
    obtain ⟨M1, m1, m2, m3⟩ := hourAfter_at hC ha h5 hK hS (hlt k) (show 1 < 5000 by omega)
    obtain ⟨M2, u1, u2, u3⟩ := hourAfter_at hC ha h5 m2 m3 (hlt (k + (N - i))) (show 1 < 5000 by omega)
    obtain ⟨M3, w1, w2, w3⟩ := ih (k + 1) j M2 (by omega) u2 u3 (by omega)
    refine ⟨M3, ?_, w2, w3⟩
    show fX11_noonsUntilRound_L24_b (fX11_noonsUntilRound_L24 j) M _ _ (nI k) = _
    unfold fX11_noonsUntilRound_L24_b
    have ne : ¬ nI (itS (fun h => nextS (nowC M0) li h aw) k h) = nI (itS (fun h => nextS (nowC M0) li h aw) (k + (N - i)) h) := fun q => by
      have a1 := hlt k
      have a2 := hlt (k + (N - i))
      exact hd k (k + (N - i)) (by omega) (by omega) ((nI_eq (by omega) (by omega)).mp q)
    rw [if_neg ne, if_neg (show ¬ (24 : Int32) ≤ nI k from nI_ge (b := 24) (by omega) (by omega)), b2_s (show fX11_hourAfter M _ 1 = _ from m1), b2_s (show fX11_hourAfter M1 _ 1 = _ from u1), nI_1]
    rw [itS_succ, show k + 1 + (N - i) = (k + (N - i)) + 1 by omega, itS_succ] at w1
    exact w1
theorem cyc35 {M0 : mM} {t : Nat → Int32} {n li aw h N i : Nat} (a0 : Int32) (h01 : a0 = 0 ∨ a0 = 1) (hC : Cc M0 t n li) (ha : aw < 128) (h5 : M0 1 5 = nI aw) (h6 : M0 1 6 = nI h) (hh : h < 24) (hi : i < N) (hN : N ≤ 24) (he : itS (fun h => nextS (nowC M0) li h aw) i h = itS (fun h => nextS (nowC M0) li h aw) N h) (hd : ∀ j k, j < k → k < N → itS (fun h => nextS (nowC M0) li h aw) j h ≠ itS (fun h => nextS (nowC M0) li h aw) k h) : ∀ (d k fuel : Nat) (M : mM), 1 ≤ k → k + d = N - i → eqK M0 M → Rs M → d < fuel →
    ∃ M', fX11_cycle_L35 fuel M a0 (nI (itS (fun h => nextS (nowC M0) li h aw) 24 h)) (nI k) (nI (itS (fun h => nextS (nowC M0) li h aw) (24 + k) h)) = some (if a0 = 0 then nI i else nI (N - i), M') ∧ eqK M0 M' ∧ Rs M' := by
  have hlt : ∀ k, itS (fun h => nextS (nowC M0) li h aw) k h < 24 := fun k => itS_lt (fun h hh => nextS_lt hh) k h hh
  intro d
  induction d with
  | zero =>
    intro k fuel M h1 hk hK hS hf
    obtain ⟨j, rfl⟩ : ∃ j, fuel = j + 1 := ⟨fuel - 1, by omega⟩
    have ek : k = N - i := by omega
    have key : ∃ M', fX11_cycle_L62 M a0 (nI k) = some (if a0 = 0 then nI i else nI (N - i), M') ∧ eqK M0 M' ∧ Rs M' := by
      unfold fX11_cycle_L62
      rcases h01 with rfl | rfl
      · rw [if_neg (by decide), if_pos rfl]
        obtain ⟨M1, m1, m2, m3⟩ := hourAfter_at hC ha h5 hK hS hh (show k < 5000 by omega)
        obtain ⟨M2, u1, u2, u3⟩ := cyc24 hC ha h5 hh hi hN he hd i 0 5000 M1 (by omega) m2 m3 (by omega)
        refine ⟨M2, ?_, u2, u3⟩
        have hM6 : M 1 6 = nI h := (congrFun (hK.1 1 (by omega) (by omega)) 6).trans h6
        have e : fX11_noonsUntilRound M (nI k) = some (nI i, M2) := by
          unfold fX11_noonsUntilRound
          rw [hM6, b2_s m1, ek]
          rw [Nat.zero_add] at u1
          exact u1
        rw [b2_s e]
      · rw [if_pos rfl, if_neg (by decide)]
        exact ⟨M, by rw [ek], hK, hS⟩
    obtain ⟨M', r1, r2, r3⟩ := key
    refine ⟨M', ?_, r2, r3⟩
    show fX11_cycle_L35_b (fX11_cycle_L35 j) M a0 _ (nI k) _ = _
    unfold fX11_cycle_L35_b
    rw [show 24 + k = 24 + (N - i) by omega, round_per hi he 24 (by omega), if_pos rfl]
    exact r1
  | succ d ih =>
    intro k fuel M h1 hk hK hS hf
    obtain ⟨j, rfl⟩ : ∃ j, fuel = j + 1 := ⟨fuel - 1, by omega⟩
    obtain ⟨M1, m1, m2, m3⟩ := hourAfter_at hC ha h5 hK hS (hlt (24 + k)) (show 1 < 5000 by omega)
    obtain ⟨M2, u1, u2, u3⟩ := ih (k + 1) j M1 (by omega) (by omega) m2 m3 (by omega)
    refine ⟨M2, ?_, u2, u3⟩
    show fX11_cycle_L35_b (fX11_cycle_L35 j) M a0 _ (nI k) _ = _
    unfold fX11_cycle_L35_b
    have ne : ¬ nI (itS (fun h => nextS (nowC M0) li h aw) (24 + k) h) = nI (itS (fun h => nextS (nowC M0) li h aw) 24 h) := fun q => by
      have a1 := hlt 24
      have a2 := hlt (24 + k)
      exact round_ne hi he hd (c := 24) (m := k) (by omega) (by omega) (by omega) ((nI_eq (by omega) (by omega)).mp q)
    rw [if_neg ne, if_neg (show ¬ (24 : Int32) ≤ nI k from nI_ge (b := 24) (by omega) (by omega)), b2_s (show fX11_hourAfter M _ 1 = _ from m1), nI_1]
    rw [show 24 + (k + 1) = 24 + k + 1 by omega, itS_succ _ (24 + k)] at u1
    exact u1
theorem seenL : ∀ (d j fuel : Nat) (T : mM) (a0 : Int32), j + d = 24 → d < fuel → ∃ T' : mM, fX12_cycle_L14 fuel T a0 (nI j) = (b2 (fX12_thinks T') fun r3 M5 => fX12_cycle_L39 5000 M5 a0 0) ∧ (∀ q, q ≠ 6 → T' q = T q) ∧ (∀ v, v < j → T' 6 v = T 6 v) ∧ ∀ v, j ≤ v → v < 24 → T' 6 v = -1 := by
  intro d
  induction d with
  | zero =>
    intro j fuel T a0 h hf
    obtain ⟨k, rfl⟩ : ∃ k, fuel = k + 1 := ⟨fuel - 1, by omega⟩
    refine ⟨T, ?_, fun _ _ => rfl, fun _ _ => rfl, fun v h1 h2 => absurd h1 (by omega)⟩
    show fX12_cycle_L14_b (fX12_cycle_L14 k) T a0 (nI j) = _
    unfold fX12_cycle_L14_b
    rw [if_pos (show (24 : Int32) ≤ nI j from nI_le (a := 24) (by omega) (by omega))]
  | succ d ih =>
    intro j fuel T a0 h hf
    obtain ⟨k, rfl⟩ : ∃ k, fuel = k + 1 := ⟨fuel - 1, by omega⟩
    obtain ⟨T', t0, h1, h2, h3⟩ := ih (j + 1) k (wr T 6 j (-1)) a0 (by omega) (by omega)
    refine ⟨T', ?_, fun q hq => (h1 q hq).trans (wr_q _ _ hq), fun v hv => (h2 v (by omega)).trans (wr_k _ (by omega)), fun v g1 g2 => ?_⟩
    · show fX12_cycle_L14_b (fX12_cycle_L14 k) T a0 (nI j) = _
      unfold fX12_cycle_L14_b
      rw [if_neg (show ¬ (24 : Int32) ≤ nI j from nI_ge (b := 24) (by omega) (by omega)), gd_t (ix_nI (by omega) (by omega)), tn_nI (by omega), nI_1]
      exact t0
    · by_cases e : v = j
      · rw [h2 v (by omega), e, wr_s]
      · exact h3 v (by omega) g2
theorem cyc39 {X T0 : mM} {n aw li h N i : Nat} (a0 : Int32) (hV0 : Vx X (T0 1) n aw h li) (hi : i < N) (hN : N ≤ 24) (he : itS (fun h => nextS X li h aw) i h = itS (fun h => nextS X li h aw) N h) (hd : ∀ j k, j < k → k < N → itS (fun h => nextS X li h aw) j h ≠ itS (fun h => nextS X li h aw) k h) :
    ∀ (d k fuel : Nat) (T : mM), k + d = N → Vx X (T 1) n aw (itS (fun h => nextS X li h aw) k h) li → offE n (T0 1) (T 1) → (∀ q, q ≠ 0 → q ≠ 1 → q ≠ 3 → q ≠ 6 → T q = T0 q) → T 0 = upd (T0 0) 12 (nI h) → (∀ j, j < k → T 6 (itS (fun h => nextS X li h aw) j h) = nI j) → (∀ v, v < 24 → (∀ j, j < k → itS (fun h => nextS X li h aw) j h ≠ v) → T 6 v = -1) → d < fuel →
    ∃ T', fX12_cycle_L39 fuel T a0 (nI k) = some (if a0 = 0 then nI i else nI (N - i), T') ∧ T' 1 = T0 1 ∧ (∀ q, q ≠ 0 → q ≠ 1 → q ≠ 3 → q ≠ 6 → T' q = T0 q) ∧ T' 0 = upd (T0 0) 12 (nI h) := by
  have hh := hV0.1.2.2.1
  have hlt : ∀ k, itS (fun h => nextS X li h aw) k h < 24 := fun k => itS_lt (fun h hh => nextS_lt hh) k h hh
  intro d
  induction d with
  | zero =>
    intro k fuel T hk hV ho hq h12 s1 s2 hf
    obtain ⟨j, rfl⟩ : ∃ j, fuel = j + 1 := ⟨fuel - 1, by omega⟩
    have ek : k = N := by omega
    subst ek
    have h12' : T 0 12 = nI h := by rw [h12, upd_eq]
    have e6 : T 6 (itS (fun h => nextS X li h aw) k h) = nI i := by rw [← he]; exact s1 i hi
    refine ⟨wr T 1 1 (T 0 12), ?_, laid hV0 hV ho h12', fun q h0 h1 h3 h6 => (wr_q _ _ h1).trans (hq q h0 h1 h3 h6), (wr_q _ _ (by omega)).trans h12⟩
    show fX12_cycle_L39_b (fX12_cycle_L39 j) T a0 (nI k) = _
    unfold fX12_cycle_L39_b
    have hl := hlt k
    simp only [g1N, c1N, hV.2.2.1.2.1, gd_t (ix_nI hl (show (24 : Nat) ≤ 2 ^ 31 by omega)), tn_nI (show itS (fun h => nextS X li h aw) k h < 2 ^ 31 by omega), e6]
    rw [if_pos (nI_pos' (by omega)), b2_s (laysBack_at T), show nI k - nI i = nI (k - i) from pk_sub (by omega)]
    by_cases z : a0 = 0
    · rw [if_pos z, if_pos z]
    · rw [if_neg z, if_neg z]
  | succ d ih =>
    intro k fuel T hk hV ho hq h12 s1 s2 hf
    obtain ⟨j, rfl⟩ : ∃ j, fuel = j + 1 := ⟨fuel - 1, by omega⟩
    have hl := hlt k
    have e6 : T 6 (itS (fun h => nextS X li h aw) k h) = -1 := s2 _ hl (fun j hj => hd j k hj (by omega))
    have e1 : wr T 6 (itS (fun h => nextS X li h aw) k h) (nI k) 1 = T 1 := wr_q _ _ (by omega)
    obtain ⟨T1, t1, t2, t3, t4, t5, t6, t7⟩ := mNoon (T := wr T 6 (itS (fun h => nextS X li h aw) k h) (nI k)) (by rw [e1]; exact hV)
    rw [e1] at t6
    have x6 : ∀ v, wr T1 1 1 (nI (nextS X li (itS (fun h => nextS X li h aw) k h) aw)) 6 v = if v = itS (fun h => nextS X li h aw) k h then nI k else T 6 v := fun v => by
      rw [t7 6 (by omega) (by omega), wr_at]; simp
    obtain ⟨T2, u1, u2⟩ := ih (k + 1) j (wr T1 1 1 (nI (nextS X li (itS (fun h => nextS X li h aw) k h) aw))) (by omega) (by rw [itS_succ]; exact t5) (ho.trans t6) (fun q h0 h1 h3 h6 => (t7 q h1 h3).trans ((wr_q _ _ h6).trans (hq q h0 h1 h3 h6))) ((t7 0 (by omega) (by omega)).trans ((wr_q _ _ (by omega)).trans h12)) (fun j hj => by
        rw [x6]
        by_cases z : j = k
        · rw [z, if_pos rfl]
        · rw [if_neg (hd j k (by omega) (by omega))]; exact s1 j (by omega)) (fun v hv hn => by
        rw [x6, if_neg (fun q => hn k (by omega) q.symm)]
        exact s2 v hv (fun j hj => hn j (by omega))) (by omega)
    refine ⟨T2, ?_, u2⟩
    show fX12_cycle_L39_b (fX12_cycle_L39 j) T a0 (nI k) = _
    unfold fX12_cycle_L39_b
    simp only [g1N, c1N, hV.2.2.1.2.1, gd_t (ix_nI hl (show (24 : Nat) ≤ 2 ^ 31 by omega)), tn_nI (show itS (fun h => nextS X li h aw) k h < 2 ^ 31 by omega), e6]
    rw [if_neg (by decide), b2_s t1, b1_s t3, b2_s t4, nI_1]
    exact u1
theorem pm_cycle {M T : mM} (hR : Rel M T) (a0 : Int32) : ∃ (r : Int32) (M' : mM) (T' : mM), fX11_cycle M a0 = some (r, M') ∧ fX12_cycle T a0 = some (r, T') ∧ Rel M' T' := by
  obtain ⟨n, aw, h, no, li, la, hV, hX, hC, a128, h24, n2, a5, h6, l8⟩ := hR.look
  unfold fX11_cycle fX12_cycle
  rw [show fX12_in (Int32.toInt64 a0) 0 1 = fX11_isIn a0 0 1 from in_eq a0 0 1]
  by_cases h1 : fX11_isIn a0 0 1 = 0
  · exact ⟨-1, M, T, by rw [if_pos h1], by rw [if_pos h1], hR⟩
  rw [if_neg h1, if_neg h1]
  obtain ⟨x, -, hx, rfl⟩ := isIn_yes (a := 0) (b := 1) (by omega) (by omega) h1
  have h01 : nI x = 0 ∨ nI x = 1 := by
    rcases (by omega : x = 0 ∨ x = 1) with rfl | rfl
    · exact Or.inl rfl
    · exact Or.inr rfl
  have hlt : ∀ k, itS (fun h => nextS (nowC M) li h aw) k h < 24 := fun k => itS_lt (fun h hh => nextS_lt hh) k h h24
  obtain ⟨N, i, hi, hN, he, hd⟩ := round_at (fun k => itS (fun h => nextS (nowC M) li h aw) k h) hlt
  obtain ⟨M1, m1, m2, m3⟩ := hourAfter_at hC a128 a5 (eqK.refl M) hR.2.1 h24 (show 24 < 5000 by omega)
  obtain ⟨M2, u1, u2, u3⟩ := hourAfter_at hC a128 a5 m2 m3 (hlt 24) (show 1 < 5000 by omega)
  obtain ⟨M3, w1, w2, w3⟩ := cyc35 (nI x) h01 hC a128 a5 h6 h24 hi hN he hd (N - i - 1) 1 5000 M2 (by omega) (by omega) u2 u3 (by omega)
  -- the model
  have key : ∃ T', fX12_cycle_L14 5000 T (nI x) 0 = some (if nI x = 0 then nI i else nI (N - i), T') ∧ T' 1 = T 1 ∧ (∀ q, q ≠ 0 → q ≠ 1 → q ≠ 3 → q ≠ 6 → T' q = T q) ∧ T' 0 = upd (T 0) 12 (nI h) := by
    obtain ⟨T1, t0, g1, -, g3⟩ := seenL 24 0 5000 T (nI x) (by omega) (by omega)
    have e0 : wr T1 0 12 (nI h) 1 = T 1 := (wr_q _ _ (by omega)).trans (g1 1 (by omega))
    obtain ⟨T', t1, t2⟩ := cyc39 (T0 := T) (nI x) hX hi hN he hd N 0 5000 (wr T1 0 12 (nI h)) (by omega) (by rw [e0]; exact hX) (by rw [e0]; exact offE.refl _ _) (fun q h0 h1 h3 h6 => (wr_q _ _ h0).trans (g1 q h6)) (by rw [wr_row, g1 0 (by omega)]) (fun j hj => absurd hj (by omega)) (fun v hv _ => by rw [wr_q _ _ (by omega)]; exact g3 v (by omega) hv) (by omega)
    refine ⟨T', ?_, t2⟩
    rw [show fX12_cycle_L14 5000 T (nI x) 0 = _ from t0, b2_s (thinks_at (by rw [g1 1 (by omega)]; exact hX.2.2.1.2.1))]
    exact t1
  obtain ⟨T', t1, t2, t3, t4⟩ := key
  refine ⟨if nI x = 0 then nI i else nI (N - i), M3, T', ?_, t1, hR.scr (fun q g1 g2 => w2.1 q g1 (by omega)) w2.2 w3 t2 (keepR_of (fun k hk => by rw [t4, upd_ne (by omega)]) (fun q hq => t3 q (by omega) (by omega) (by omega) (by omega)))⟩
  rw [h6, b2_s (show fX11_hourAfter M (nI h) 24 = _ from m1), b2_s (show fX11_hourAfter M1 _ 1 = _ from u1)]
  rw [itS_succ _ 24] at w1
  exact w1
