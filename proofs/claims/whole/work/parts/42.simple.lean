/-! SIMPLE CALLS -/
theorem nowC_wr (M : mM) (q k : Nat) (v : Int32) : nowC (wr M (1 + q) k v) = wr (nowC M) q k v := by
  funext j i
  show wr M (1 + q) k v (1 + j) i = wr (nowC M) q k v j i
  rw [wr_at, wr_at]
  by_cases h : j = q
  · subst h; simp
  · rw [if_neg (fun z => h (by omega)), if_neg (fun z => h z.1)]
theorem wr_row (T : mM) (q k : Nat) (v : Int32) : (wr T q k v) q = upd (T q) k v := by
  funext i
  rw [wr_at]
  by_cases h : i = k <;> simp [upd, h]
theorem upd_ne {f : Nat → Int32} {k j : Nat} {x : Int32} (h : j ≠ k) : upd f k x j = f j := by simp [upd, h]
theorem upd_eq {f : Nat → Int32} {k : Nat} {x : Int32} : upd f k x k = x := by simp [upd]
theorem Rp_vals {X : mM} {t : Nat → Int32} (hp : Rp X t) : (∃ n : Nat, n ≤ 7 ∧ X 0 0 = nI n ∧ t 0 = nI n) ∧ (∃ h : Nat, h < 24 ∧ X 0 6 = nI h ∧ t 1 = nI h) ∧ (∃ no : Nat, no ≤ 9999 ∧ X 0 7 = nI no ∧ t 2 = nI no) ∧ (∃ li : Nat, li ≤ 99 ∧ X 0 8 = nI li ∧ t 3 = nI li) ∧ (∃ la : Nat, la < 24 ∧ X 0 9 = nI la ∧ t 4 = nI la) ∧ t 5 = X 0 10 ∧ (∃ rp : Nat, rp ≤ 6 ∧ X 0 11 = nI rp ∧ t 6 = nI rp) := by
  obtain ⟨⟨n, aw, h, no, li, la, ⟨a1, a2, a3, a4, a5, a6⟩, ⟨b1, b2, b3, b4, b5, b6⟩, ⟨c1, c2, c3, c4, c5, c6⟩, -⟩, ⟨rp, d1, d2, d3, -⟩, -⟩ := hp
  exact ⟨⟨n, a1, b1, c1⟩, ⟨h, a3, b3, c2⟩, ⟨no, a4, b4, c3⟩, ⟨li, a5, b5, c4⟩, ⟨la, a6, b6, c5⟩, c6, ⟨rp, d1, d2, d3⟩⟩
theorem Rp_scal {X X' : mM} {t t' : Nat → Int32} (hp : Rp X t) (hq : ∀ q, 1 ≤ q → X' q = X q) (ht : ∀ k, 7 ≤ k → t' k = t k) (h0 : X' 0 0 = X 0 0 ∧ X' 0 5 = X 0 5 ∧ t' 0 = t 0) (h6 : ∃ h : Nat, h < 24 ∧ X' 0 6 = nI h ∧ t' 1 = nI h) (h7 : ∃ no : Nat, no ≤ 9999 ∧ X' 0 7 = nI no ∧ t' 2 = nI no) (h8 : ∃ li : Nat, li ≤ 99 ∧ X' 0 8 = nI li ∧ t' 3 = nI li) (h9 : ∃ la : Nat, la < 24 ∧ X' 0 9 = nI la ∧ t' 4 = nI la) (h10 : t' 5 = X' 0 10) (h11 : (X' 0 11 = X 0 11 ∧ t' 6 = t 6) ∨ (X' 0 11 = 0 ∧ t' 6 = 0)) : Rp X' t' := by
  obtain ⟨⟨n, aw, h, no, li, la, ⟨a1, a2, a3, a4, a5, a6⟩, ⟨b1, b2, b3, b4, b5, b6⟩, ⟨c1, c2, c3, c4, c5, c6⟩, hv⟩, ⟨rp, d1, d2, d3, d4⟩, hl⟩ := hp
  obtain ⟨h', g1, g2, g3⟩ := h6
  obtain ⟨no', i1, i2, i3⟩ := h7
  obtain ⟨li', j1, j2, j3⟩ := h8
  obtain ⟨la', k1, k2, k3⟩ := h9
  refine ⟨⟨n, aw, h', no', li', la', ⟨a1, a2, g1, i1, j1, k1⟩, ⟨h0.1.trans b1, h0.2.1.trans b2, g2, i2, j2, k2⟩, ⟨h0.2.2.trans c1, g3, i3, j3, k3, h10⟩, fun p hp => ?_⟩, ?_, Rl_eq (fun q h _ => hq q (by omega)) (fun k h _ => ht k (by omega)) hl⟩
  · obtain ⟨k, w, g, c, x1, x2, x3⟩ := hv p hp
    refine ⟨k, w, g, c, x1, ?_, ?_⟩
    · rw [hq 1 (by omega), hq 2 (by omega), hq 3 (by omega), hq 4 (by omega)]; exact x2
    · rw [ht _ (by omega), ht _ (by omega), ht _ (by omega), ht _ (by omega), ht _ (by omega)]; exact x3
  · rcases h11 with ⟨l1, l2⟩ | ⟨l1, l2⟩
    · refine ⟨rp, d1, l1.trans d2, l2.trans d3, fun k hk => ?_⟩
      obtain ⟨a, b, x1, x2, x3, x4, x5, x6⟩ := d4 k hk
      exact ⟨a, b, x1, x2, by rw [hq 5 (by omega)]; exact x3, by rw [hq 6 (by omega)]; exact x4, by rw [ht _ (by omega)]; exact x5, by rw [ht _ (by omega)]; exact x6⟩
    · exact ⟨0, by omega, l1, l2, fun k hk => absurd hk (by omega)⟩
theorem keepC_wr1 (M : mM) (k : Nat) (v : Int32) : keepC M (wr M 1 k v) := ⟨wr_q _ _ (by omega), fun q h _ => wr_q _ _ (by omega), wr_q _ _ (by omega)⟩
theorem keepR_wr1 (T : mM) (k : Nat) (v : Int32) : keepR T (wr T 1 k v) := by
  refine ⟨⟨?_, ?_, ?_, ?_⟩, wr_q _ _ (by omega), wr_q _ _ (by omega), fun q h => wr_q _ _ (by omega)⟩ <;> rw [wr_q _ _ (by omega)]
theorem eqX_wr0 (M : mM) (k : Nat) (v : Int32) (h : k ≠ 0) : eqX (nowC M) (nowC (wr M 1 k v)) := by
  rw [nowC_wr M 0]
  exact ⟨wr_k _ (Ne.symm h), fun q h1 _ _ => wr_q _ _ (by omega), fun j _ => by rw [wr_q _ _ (by omega)]⟩
/-- a scalar of the republic is set, on both sides -/
theorem Rel.scal {M T : mM} (hR : Rel M T) (k j : Nat) (v : Int32) (hk : k ≠ 0) (h : Rp (wr (nowC M) 0 k v) (upd (T 1) j v)) : Rel (wr M 1 k v) (wr T 1 j v) := by
  refine hR.now ?_ (hR.2.1.keep (wr_q _ _ (by omega)) (eqX_wr0 M k v hk)) (keepC_wr1 M k v) (keepR_wr1 T j v)
  rw [nowC_wr M 0, wr_row]
  exact h
theorem pm_clock {M T : mM} (hR : Rel M T) (a0 : Int32) : ∃ (r : Int32) (M' : mM) (T' : mM), fX11_clock M a0 = some (r, M') ∧ fX12_clock T a0 = some (r, T') ∧ Rel M' T' := by
  unfold fX11_clock fX12_clock
  rw [isHour_eq]
  by_cases h : fX11_isHour a0 = 0
  · exact ⟨-1, M, T, by rw [if_pos h], by rw [if_pos h], hR⟩
  · obtain ⟨n, hn, rfl⟩ := isHour_yes h
    obtain ⟨v0, ⟨hh, q1, q2, q3⟩, v2, v3, v4, v5, v6⟩ := Rp_vals hR.1
    refine ⟨M 1 6, wr M 1 6 (nI n), wr T 1 1 (nI n), by rw [if_neg h], ?_, ?_⟩
    · rw [if_neg h, b2_s (show fX12_becomes T 1 (nI n) = _ from becomes_at T 1 (nI n) (by omega))]
      exact congrArg (fun z => some (z, wr T 1 1 (nI n))) (q3.trans q2.symm)
    · refine hR.scal 6 1 _ (by omega) (Rp_scal hR.1 (fun q h => wr_q _ _ (by omega)) (fun k h => upd_ne (by omega)) ⟨wr_k _ (by omega), wr_k _ (by omega), upd_ne (by omega)⟩ ⟨n, hn, wr_s _ _ _ _, upd_eq⟩ ?_ ?_ ?_ ?_ ?_)
      · rw [wr_k _ (by omega), upd_ne (by omega)]; exact v2
      · rw [wr_k _ (by omega), upd_ne (by omega)]; exact v3
      · rw [wr_k _ (by omega), upd_ne (by omega)]; exact v4
      · rw [wr_k _ (by omega), upd_ne (by omega)]; exact v5
      · exact Or.inl ⟨wr_k _ (by omega), upd_ne (by omega)⟩
theorem pm_limit {M T : mM} (hR : Rel M T) (a0 : Int32) : ∃ (r : Int32) (M' : mM) (T' : mM), fX11_limit M a0 = some (r, M') ∧ fX12_limit T a0 = some (r, T') ∧ Rel M' T' := by
  unfold fX11_limit fX12_limit
  rw [show fX12_in (Int32.toInt64 a0) 0 99 = fX11_isIn a0 0 99 from in_eq a0 0 99]
  by_cases h : fX11_isIn a0 0 99 = 0
  · exact ⟨-1, M, T, by rw [if_pos h], by rw [if_pos h], hR⟩
  · obtain ⟨n, -, hn, rfl⟩ := isIn_yes (a := 0) (b := 99) (by omega) (by omega) h
    obtain ⟨v0, v1, v2, ⟨hh, q1, q2, q3⟩, v4, v5, v6⟩ := Rp_vals hR.1
    refine ⟨M 1 8, wr M 1 8 (nI n), wr T 1 3 (nI n), by rw [if_neg h], ?_, ?_⟩
    · rw [if_neg h, b2_s (show fX12_becomes T 3 (nI n) = _ from becomes_at T 3 (nI n) (by omega))]
      exact congrArg (fun z => some (z, wr T 1 3 (nI n))) (q3.trans q2.symm)
    · refine hR.scal 8 3 _ (by omega) (Rp_scal hR.1 (fun q h => wr_q _ _ (by omega)) (fun k h => upd_ne (by omega)) ⟨wr_k _ (by omega), wr_k _ (by omega), upd_ne (by omega)⟩ ?_ ?_ ⟨n, hn, wr_s _ _ _ _, upd_eq⟩ ?_ ?_ ?_)
      · rw [wr_k _ (by omega), upd_ne (by omega)]; exact v1
      · rw [wr_k _ (by omega), upd_ne (by omega)]; exact v2
      · rw [wr_k _ (by omega), upd_ne (by omega)]; exact v4
      · rw [wr_k _ (by omega), upd_ne (by omega)]; exact v5
      · exact Or.inl ⟨wr_k _ (by omega), upd_ne (by omega)⟩
theorem pm_seed {M T : mM} (hR : Rel M T) (a0 : Int32) : ∃ (r : Int32) (M' : mM) (T' : mM), fX11_seed M a0 = some (r, M') ∧ fX12_seed T a0 = some (r, T') ∧ Rel M' T' := by
  unfold fX11_seed fX12_seed
  obtain ⟨v0, v1, v2, v3, v4, v5, v6⟩ := Rp_vals hR.1
  refine ⟨M 1 10, wr M 1 10 a0, wr T 1 5 a0, rfl, ?_, ?_⟩
  · rw [b2_s (show fX12_becomes T 5 a0 = _ from becomes_at T 5 a0 (by omega))]
    exact congrArg (fun z => some (z, wr T 1 5 a0)) v5
  · refine hR.scal 10 5 _ (by omega) (Rp_scal hR.1 (fun q h => wr_q _ _ (by omega)) (fun k h => upd_ne (by omega)) ⟨wr_k _ (by omega), wr_k _ (by omega), upd_ne (by omega)⟩ ?_ ?_ ?_ ?_ (by rw [upd_eq, wr_s]) ?_)
    · rw [wr_k _ (by omega), upd_ne (by omega)]; exact v1
    · rw [wr_k _ (by omega), upd_ne (by omega)]; exact v2
    · rw [wr_k _ (by omega), upd_ne (by omega)]; exact v3
    · rw [wr_k _ (by omega), upd_ne (by omega)]; exact v4
    · exact Or.inl ⟨wr_k _ (by omega), upd_ne (by omega)⟩
theorem pm_forget {M T : mM} (hR : Rel M T) : ∃ (r : Int32) (M' : mM) (T' : mM), fX11_forget M = some (r, M') ∧ fX12_forget T = some (r, T') ∧ Rel M' T' := by
  unfold fX11_forget fX12_forget
  obtain ⟨v0, v1, v2, v3, v4, v5, ⟨rp, q1, q2, q3⟩⟩ := Rp_vals hR.1
  refine ⟨M 1 11, wr M 1 11 0, wr T 1 6 0, rfl, ?_, ?_⟩
  · rw [b2_s (show fX12_becomes T 6 0 = _ from becomes_at T 6 0 (by omega))]
    exact congrArg (fun z => some (z, wr T 1 6 0)) (q3.trans q2.symm)
  · refine hR.scal 11 6 _ (by omega) (Rp_scal hR.1 (fun q h => wr_q _ _ (by omega)) (fun k h => upd_ne (by omega)) ⟨wr_k _ (by omega), wr_k _ (by omega), upd_ne (by omega)⟩ ?_ ?_ ?_ ?_ ?_ ?_)
    · rw [wr_k _ (by omega), upd_ne (by omega)]; exact v1
    · rw [wr_k _ (by omega), upd_ne (by omega)]; exact v2
    · rw [wr_k _ (by omega), upd_ne (by omega)]; exact v3
    · rw [wr_k _ (by omega), upd_ne (by omega)]; exact v4
    · rw [wr_k _ (by omega), upd_ne (by omega)]; exact v5
    · exact Or.inr ⟨wr_s _ _ _ _, upd_eq⟩
