/-! PURE ROWS -/
theorem ix_nI {j n : Nat} (h : j < n) (hn : n ≤ 2 ^ 31) : ix (nI j) n = true := by
  simp only [ix, Bool.and_eq_true, decide_eq_true_eq]
  exact ⟨nI_pos' (by omega), by rw [nI_clamp (by omega)]; exact h⟩
theorem gd_t {α : Type} {b : Bool} {x : Option α} (h : b = true) : gd b x = x := by subst h; rfl
theorem b1_s {α β : Type} {o : Option α} {k : α → Option β} {r : α} (h : o = some r) : b1 o k = k r := by subst h; rfl
theorem b2_s {α β γ : Type} {o : Option (α × β)} {k : α → β → Option γ} {r : α} {M : β} (h : o = some (r, M)) : b2 o k = k r M := by subst h; rfl
theorem wr_s (M : mM) (q k : Nat) (v : Int32) : wr M q k v q k = v := by simp [wr, va_up, upd]
theorem wr_q {M : mM} {q q' : Nat} (k : Nat) (v : Int32) (h : q' ≠ q) : wr M q k v q' = M q' := by simp [wr, va_up, h]
theorem wr_k {M : mM} {q k k' : Nat} (v : Int32) (h : k' ≠ k) : wr M q k v q k' = M q k' := by simp [wr, va_up, upd, h]
theorem wr_at (M : mM) (q k : Nat) (v : Int32) (q' k' : Nat) : wr M q k v q' k' = if q' = q ∧ k' = k then v else M q' k' := by
  by_cases h : q' = q
  · subst h
    by_cases g : k' = k
    · subst g; simp [wr_s]
    · simp [wr_k v g, g]
  · simp [wr_q k v h, h]
theorem fill63 : ∀ (d fuel j e : Nat) (M : mM) (v : Int32), j + d = e → e ≤ 3072 → d < fuel → fJ7_fill_53178C_q63_L5 fuel M v (nI j) (nI e) = some (0, va_up M 63 (fun k => if j ≤ k ∧ k < e then v else M 63 k)) := by
  intro d
  induction d with
  | zero =>
    intro fuel j e M v h he hf
    obtain ⟨n, rfl⟩ : ∃ n, fuel = n + 1 := ⟨fuel - 1, by omega⟩
    show fJ7_fill_53178C_q63_L5_b (fJ7_fill_53178C_q63_L5 n) M v (nI j) (nI e) = _
    unfold fJ7_fill_53178C_q63_L5_b
    have hj : j = e := by omega
    subst hj
    rw [if_pos (nI_le (Nat.le_refl _) (by omega))]
    have e1 : va_up M 63 (fun k => if j ≤ k ∧ k < j then v else M 63 k) = M := by
      funext q k
      by_cases hq : q = 63
      · subst hq; rw [va_up_self, if_neg (by omega)]
      · rw [va_up_ne _ _ hq]
    rw [e1]
  | succ d ih =>
    intro fuel j e M v h he hf
    obtain ⟨n, rfl⟩ : ∃ n, fuel = n + 1 := ⟨fuel - 1, by omega⟩
    show fJ7_fill_53178C_q63_L5_b (fJ7_fill_53178C_q63_L5 n) M v (nI j) (nI e) = _
    unfold fJ7_fill_53178C_q63_L5_b
    rw [if_neg (nI_ge (by omega) (by omega)), gd_t (ix_nI (by omega) (by omega)), nI_clamp (by omega), nI_1, ih n (j + 1) e _ v (by omega) he (by omega)]
    congr 2
    funext q k
    by_cases hq : q = 63
    · subst hq
      rw [va_up_self, va_up_self]
      by_cases hk : k = j
      · subst hk
        rw [if_neg (by omega), wr_s, if_pos (by omega)]
      · rw [wr_k _ hk]
        by_cases h1 : j + 1 ≤ k ∧ k < e
        · rw [if_pos h1, if_pos (by omega)]
        · rw [if_neg h1, if_neg (by omega)]
    · rw [va_up_ne _ _ hq, va_up_ne _ _ hq, wr_q _ _ hq]
theorem fill65 : ∀ (d fuel j e : Nat) (M : mM) (v : Int32), j + d = e → e ≤ 24 → d < fuel → fJ7_fill_53178C_q65_L5 fuel M v (nI j) (nI e) = some (0, va_up M 65 (fun k => if j ≤ k ∧ k < e then v else M 65 k)) := by
  intro d
  induction d with
  | zero =>
    intro fuel j e M v h he hf
    obtain ⟨n, rfl⟩ : ∃ n, fuel = n + 1 := ⟨fuel - 1, by omega⟩
    show fJ7_fill_53178C_q65_L5_b (fJ7_fill_53178C_q65_L5 n) M v (nI j) (nI e) = _
    unfold fJ7_fill_53178C_q65_L5_b
    have hj : j = e := by omega
    subst hj
    rw [if_pos (nI_le (Nat.le_refl _) (by omega))]
    have e1 : va_up M 65 (fun k => if j ≤ k ∧ k < j then v else M 65 k) = M := by
      funext q k
      by_cases hq : q = 65
      · subst hq; rw [va_up_self, if_neg (by omega)]
      · rw [va_up_ne _ _ hq]
    rw [e1]
  | succ d ih =>
    intro fuel j e M v h he hf
    obtain ⟨n, rfl⟩ : ∃ n, fuel = n + 1 := ⟨fuel - 1, by omega⟩
    show fJ7_fill_53178C_q65_L5_b (fJ7_fill_53178C_q65_L5 n) M v (nI j) (nI e) = _
    unfold fJ7_fill_53178C_q65_L5_b
    rw [if_neg (nI_ge (by omega) (by omega)), gd_t (ix_nI (by omega) (by omega)), nI_clamp (by omega), nI_1, ih n (j + 1) e _ v (by omega) he (by omega)]
    congr 2
    funext q k
    by_cases hq : q = 65
    · subst hq
      rw [va_up_self, va_up_self]
      by_cases hk : k = j
      · subst hk
        rw [if_neg (by omega), wr_s, if_pos (by omega)]
      · rw [wr_k _ hk]
        by_cases h1 : j + 1 ≤ k ∧ k < e
        · rw [if_pos h1, if_pos (by omega)]
        · rw [if_neg h1, if_neg (by omega)]
    · rw [va_up_ne _ _ hq, va_up_ne _ _ hq, wr_q _ _ hq]
/-- the cache of SUMS is emptied -/
def cl63 (M : mM) : mM := va_up M 63 (fun k => if k < 3072 then -1000000 else M 63 k)
theorem p_forgetSums (M : mM) : fX11_forgetSums M = some (0, cl63 M) := by
  unfold fX11_forgetSums
  have h : fJ7_fill_53178C_q63 M (-1000000) = some (0, cl63 M) := by
    unfold fJ7_fill_53178C_q63
    have := fill63 3072 5000 0 3072 M (-1000000) (by omega) (by omega) (by omega)
    show fJ7_fill_53178C_q63_L5 5000 M (-1000000) (nI 0) (nI 3072) = _
    rw [this]
    simp [cl63]
  rw [b2_s h]
