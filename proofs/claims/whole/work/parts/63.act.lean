/-! act: the bodies that run, in both -/
def acS (M0 T0 : mM) (k : Nat) (p w : Int32) (M T : mM) (b : Bool) : Prop := Ra M T ∧ (M (50 + k) 1 = p ∧ M (50 + k) 2 = w) ∧ (T 0 30 = nI k ∧ T 0 31 = p ∧ T 0 32 = w) ∧ (M 47 1 = bI b ∧ T 0 33 = bI b) ∧ (∀ q, q ≠ 47 → q ≠ 48 → M q = M0 q) ∧ (∀ q, q ≠ 0 → q ≠ 16 → T q = T0 q) ∧ ∀ j, j < 29 → T 0 j = T0 0 j
theorem ac_run {M0 T0 M T : mM} {k : Nat} {p w : Int32} {b : Bool} (h : acS M0 T0 k p w M T b) (body : Int32) : ∃ M' T', fX10_begins M body = some (0, M') ∧ fX12_runs T body = some (0, T') ∧ acS M0 T0 k p w M' T' b := by
  obtain ⟨⟨c, c1, c2, c3, c4⟩, ⟨m1, m2⟩, ⟨t1, t2, t3⟩, ⟨b1', b2'⟩, f1, f2, f3⟩ := id h
  unfold fX10_begins fX12_runs
  by_cases z : c = 30
  · subst z
    refine ⟨M, T, ?_, ?_, h⟩
    · rw [c2, if_pos (show (30 : Int32) ≤ nI 30 by decide)]
    · rw [c3, if_pos (show (30 : Int32) ≤ nI 30 by decide)]
  · have hc : ¬ (30 : Int32) ≤ nI c := nI_ge (b := 30) (by omega) (by omega)
    refine ⟨wr (wr M 48 c body) 47 0 (nI (c + 1)), wr (wr T 16 c body) 0 29 (nI (c + 1)), ?_, ?_, ⟨c + 1, by omega, wr_s _ _ _ _, wr_s _ _ _ _, fun i hi => ?_⟩, ⟨?_, ?_⟩, ⟨?_, ?_, ?_⟩, ⟨?_, ?_⟩, fun q q1 q2 => ?_, fun q q1 q2 => ?_, fun j hj => ?_⟩
    · rw [c2, if_neg hc, gd_t (ix_nI (by omega) (by omega)), tn_nI (by omega), wr_q _ _ (show (47 : Nat) ≠ 48 by omega), c2, nI_1]
    · rw [c3, if_neg hc, gd_t (ix_nI (by omega) (by omega)), tn_nI (by omega), wr_q _ _ (show (0 : Nat) ≠ 16 by omega), c3, nI_1]
    · rw [wr_q _ _ (show (48 : Nat) ≠ 47 by omega), wr_q _ _ (show (16 : Nat) ≠ 0 by omega)]
      by_cases e : i = c
      · rw [e, wr_s, wr_s]
      · rw [wr_k _ e, wr_k _ e]; exact c4 i (by omega)
    · rw [wr_q _ _ (by omega), wr_q _ _ (by omega)]; exact m1
    · rw [wr_q _ _ (by omega), wr_q _ _ (by omega)]; exact m2
    · rw [wr_k _ (by omega), wr_q _ _ (by omega)]; exact t1
    · rw [wr_k _ (by omega), wr_q _ _ (by omega)]; exact t2
    · rw [wr_k _ (by omega), wr_q _ _ (by omega)]; exact t3
    · rw [wr_k _ (by omega), wr_q _ _ (by omega)]; exact b1'
    · rw [wr_k _ (by omega), wr_q _ _ (by omega)]; exact b2'
    · rw [wr_q _ _ q1, wr_q _ _ q2]; exact f1 q q1 q2
    · rw [wr_q _ _ q1, wr_q _ _ q2]; exact f2 q q1 q2
    · rw [wr_k _ (by omega), wr_q _ _ (by omega)]; exact f3 j hj
theorem ac_wi1 {M0 T0 M T : mM} {p w : Int32} {b : Bool} (h : acS M0 T0 1 p w M T b) (x : Int32) : ∃ (r : Int32) (M' T' : mM), fX3_wishes_q51 M x = some (r, M') ∧ fX12_wishes T x = some (r, T') ∧ acS M0 T0 1 p w M' T' b := by
  obtain ⟨M1, T1, a1, a2, a3⟩ := ac_run h 20
  obtain ⟨M2, T2, u1, u2, u3⟩ := ac_run a3 10
  have e : fX9_wishes_q51 M1 x = some (x + w, M2) := by
    unfold fX9_wishes_q51
    rw [b2_s u1, show M2 51 2 = w from u3.2.1.2]
  refine ⟨(x + w) * 2, M2, T2, ?_, ?_, u3⟩
  · unfold fX3_wishes_q51
    rw [b2_s a1, b2_s e]
  · unfold fX12_wishes
    rw [h.2.2.1.1, if_pos (show nI 1 = 1 from rfl), b2_s a2, b2_s u2, u3.2.2.1.2.2, Int32.mul_comm]
theorem ac_ps1 {M0 T0 M T : mM} {p w : Int32} {b : Bool} (h : acS M0 T0 1 p w M T b) (x : Int32) : ∃ (r : Int32) (M' T' : mM), fX9_sways_q51 M x = some (r, M') ∧ fX12_plainSways T x = some (r, T') ∧ acS M0 T0 1 p w M' T' b := by
  obtain ⟨M1, T1, a1, a2, a3⟩ := ac_run h 11
  obtain ⟨r, M2, T2, u1, u2, u3⟩ := ac_wi1 a3 x
  refine ⟨r - p, M2, T2, ?_, ?_, u3⟩
  · unfold fX9_sways_q51
    rw [b2_s a1, b2_s u1, show M2 51 1 = p from u3.2.1.1]
  · unfold fX12_plainSways
    rw [b2_s a2, b2_s u2, u3.2.2.1.2.1]
theorem ac_sw1 {M0 T0 M T : mM} {p w : Int32} {b : Bool} (h : acS M0 T0 1 p w M T b) (x : Int32) : ∃ (r : Int32) (M' T' : mM), fX9_sways_q51 M x = some (r, M') ∧ fX12_sways T x = some (r, T') ∧ acS M0 T0 1 p w M' T' b := by
  obtain ⟨r, M2, T2, u1, u2, u3⟩ := ac_ps1 h x
  refine ⟨r, M2, T2, u1, ?_, u3⟩
  unfold fX12_sways
  rw [h.2.2.1.1, if_neg (show ¬ nI 1 = 2 by decide), if_neg (show ¬ nI 1 = 3 by decide), if_neg (show ¬ nI 1 = 5 by decide), b2_s u2]
theorem ac_pt1 {M0 T0 M T : mM} {p w : Int32} {b : Bool} (h : acS M0 T0 1 p w M T b) (x : Int32) : ∃ (r : Int32) (M' T' : mM), fX9_tells_q51 M x = some (r, M') ∧ fX12_plainTells T x = some (r, T') ∧ acS M0 T0 1 p w M' T' b := by
  obtain ⟨M1, T1, a1, a2, a3⟩ := ac_run h 13
  obtain ⟨r, M2, T2, u1, u2, u3⟩ := ac_sw1 a3 x
  refine ⟨r ^^^ w, M2, T2, ?_, ?_, u3⟩
  · unfold fX9_tells_q51
    rw [b2_s a1, b2_s u1, show M2 51 2 = w from u3.2.1.2]
  · unfold fX12_plainTells
    rw [b2_s a2, b2_s u2, u3.2.2.1.2.2]
theorem ac_ph1 {M0 T0 M T : mM} {p w : Int32} (h : acS M0 T0 1 p w M T false) (x : Int32) : ∃ (r : Int32) (M' T' : mM) (b' : Bool), fX9_shares_q51 M x = some (r, M') ∧ fX12_plainShares T x = some (r, T') ∧ acS M0 T0 1 p w M' T' b' := by
  obtain ⟨M1, T1, a1, a2, a3⟩ := ac_run h 12
  obtain ⟨c, ⟨m1, m2⟩, ⟨t1, t2, t3⟩, ⟨b1', b2'⟩, f1, f2, f3⟩ := id a3
  have m1' : M1 51 1 = p := m1
  have m2' : M1 51 2 = w := m2
  have w31 : ∀ v, wr T1 0 33 v 0 31 = p := fun v => by rw [wr_k _ (by omega)]; exact t2
  have w32 : ∀ v, wr T1 0 33 v 0 32 = w := fun v => by rw [wr_k _ (by omega)]; exact t3
  have b3' : T1 0 33 = 0 := b2'
  by_cases z : w = p
  · refine ⟨0, wr M1 47 1 1, wr T1 0 33 1, true, ?_, ?_, ?_, ⟨?_, ?_⟩, ⟨?_, w31 1, w32 1⟩, ⟨wr_s _ _ _ _, wr_s _ _ _ _⟩, fun q q1 q2 => (wr_q _ _ q1).trans (f1 q q1 q2), fun q q1 q2 => (wr_q _ _ q1).trans (f2 q q1 q2), fun j hj => (wr_k _ (by omega)).trans (f3 j hj)⟩
    · unfold fX9_shares_q51
      rw [b2_s a1, m1', m2', if_pos (by rw [z]; exact Int32.sub_self p)]
    · unfold fX12_plainShares fX12_plainShares_L25 fX12_plainShares_L30
      rw [b2_s a2, b3', if_pos rfl, t2, t3, if_pos z, w31, w32, if_pos z]
      rfl
    · obtain ⟨c, c1, c2, c3, c4⟩ := c
      exact ⟨c, c1, by rw [wr_k _ (by omega)]; exact c2, by rw [wr_k _ (by omega)]; exact c3, fun i hi => by rw [wr_q _ _ (by omega), wr_q _ _ (by omega)]; exact c4 i hi⟩
    · rw [wr_q _ _ (by omega)]; exact m1
    · rw [wr_q _ _ (by omega)]; exact m2
    · rw [wr_k _ (by omega)]; exact t1
  · have ne : ¬ w - p = 0 := fun q => z (by
      have := congrArg (fun v => v + p) q
      simpa using this)
    refine ⟨x / (w - p), M1, wr T1 0 33 0, false, ?_, ?_, ?_, ⟨m1, m2⟩, ⟨?_, w31 0, w32 0⟩, ⟨b1', wr_s _ _ _ _⟩, f1, fun q q1 q2 => (wr_q _ _ q1).trans (f2 q q1 q2), fun j hj => (wr_k _ (by omega)).trans (f3 j hj)⟩
    · unfold fX9_shares_q51
      rw [b2_s a1, m1', m2', if_neg ne, gd_t (show nz (w - p) = true by simp [nz, ne])]
    · unfold fX12_plainShares fX12_plainShares_L25 fX12_plainShares_L30
      rw [b2_s a2, b3', if_pos rfl, t2, t3, if_neg z, w31, w32, if_neg z, gd_t (show isB 0 = true from rfl), gd_t (show nz (w - p) = true by simp [nz, ne])]
    · obtain ⟨c, c1, c2, c3, c4⟩ := c
      exact ⟨c, c1, c2, by rw [wr_k _ (by omega)]; exact c3, fun i hi => by rw [wr_q _ _ (by omega)]; exact c4 i hi⟩
    · rw [wr_k _ (by omega)]; exact t1
theorem ac_sh1 {M0 T0 M T : mM} {p w : Int32} (h : acS M0 T0 1 p w M T false) (x : Int32) : ∃ (r : Int32) (M' T' : mM) (b' : Bool), fX9_shares_q51 M x = some (r, M') ∧ fX12_shares T x = some (r, T') ∧ acS M0 T0 1 p w M' T' b' := by
  obtain ⟨r, M2, T2, b', u1, u2, u3⟩ := ac_ph1 h x
  refine ⟨r, M2, T2, b', u1, ?_, u3⟩
  unfold fX12_shares
  rw [h.2.2.1.1, if_neg (show ¬ nI 1 = 5 by decide), if_neg (show ¬ nI 1 = 4 by decide), b2_s u2]
theorem ac_te1 {M0 T0 M T : mM} {p w : Int32} (h : acS M0 T0 1 p w M T false) (x : Int32) : ∃ (r : Int32) (M' T' : mM) (b' : Bool), fX9_tells_q51 M x = some (r, M') ∧ fX12_tells T x = some (r, T') ∧ acS M0 T0 1 p w M' T' b' := by
  obtain ⟨r, M2, T2, u1, u2, u3⟩ := ac_pt1 h x
  refine ⟨r, M2, T2, false, u1, ?_, u3⟩
  unfold fX12_tells
  rw [h.2.2.1.1, if_neg (show ¬ nI 1 = 3 by decide), b2_s u2]
theorem ac_wi2 {M0 T0 M T : mM} {p w : Int32} {b : Bool} (h : acS M0 T0 2 p w M T b) (x : Int32) : ∃ (r : Int32) (M' T' : mM), fX9_wishes_q52 M x = some (r, M') ∧ fX12_wishes T x = some (r, T') ∧ acS M0 T0 2 p w M' T' b := by
  obtain ⟨M2, T2, u1, u2, u3⟩ := ac_run h 10
  refine ⟨x + w, M2, T2, ?_, ?_, u3⟩
  · unfold fX9_wishes_q52
    rw [b2_s u1, show M2 52 2 = w from u3.2.1.2]
  · unfold fX12_wishes
    rw [h.2.2.1.1, if_neg (show ¬ nI 2 = 1 by decide), if_neg (show ¬ nI 2 = 3 by decide), b2_s u2, u3.2.2.1.2.2]
theorem ac_ps2 {M0 T0 M T : mM} {p w : Int32} {b : Bool} (h : acS M0 T0 2 p w M T b) (x : Int32) : ∃ (r : Int32) (M' T' : mM), fX9_sways_q52 M x = some (r, M') ∧ fX12_plainSways T x = some (r, T') ∧ acS M0 T0 2 p w M' T' b := by
  obtain ⟨M1, T1, a1, a2, a3⟩ := ac_run h 11
  obtain ⟨r, M2, T2, u1, u2, u3⟩ := ac_wi2 a3 x
  refine ⟨r - p, M2, T2, ?_, ?_, u3⟩
  · unfold fX9_sways_q52
    rw [b2_s a1, b2_s u1, show M2 52 1 = p from u3.2.1.1]
  · unfold fX12_plainSways
    rw [b2_s a2, b2_s u2, u3.2.2.1.2.1]
theorem ac_sw2 {M0 T0 M T : mM} {p w : Int32} {b : Bool} (h : acS M0 T0 2 p w M T b) (x : Int32) : ∃ (r : Int32) (M' T' : mM), fX1_sways_q52 M x = some (r, M') ∧ fX12_sways T x = some (r, T') ∧ acS M0 T0 2 p w M' T' b := by
  obtain ⟨M1, T1, a1, a2, a3⟩ := ac_run h 30
  obtain ⟨r, M2, T2, u1, u2, u3⟩ := ac_ps2 a3 x
  refine ⟨r ^^^ p, M2, T2, ?_, ?_, u3⟩
  · unfold fX1_sways_q52
    rw [b2_s a1, b2_s u1, show M2 52 1 = p from u3.2.1.1]
  · unfold fX12_sways fX12_sways_L16
    rw [h.2.2.1.1, if_pos (show nI 2 = 2 from rfl), b2_s a2, b2_s u2, u3.2.2.1.2.1]
theorem ac_pt2 {M0 T0 M T : mM} {p w : Int32} {b : Bool} (h : acS M0 T0 2 p w M T b) (x : Int32) : ∃ (r : Int32) (M' T' : mM), fX9_tells_q52 M x = some (r, M') ∧ fX12_plainTells T x = some (r, T') ∧ acS M0 T0 2 p w M' T' b := by
  obtain ⟨M1, T1, a1, a2, a3⟩ := ac_run h 13
  obtain ⟨r, M2, T2, u1, u2, u3⟩ := ac_sw2 a3 x
  refine ⟨r ^^^ w, M2, T2, ?_, ?_, u3⟩
  · unfold fX9_tells_q52
    rw [b2_s a1, b2_s u1, show M2 52 2 = w from u3.2.1.2]
  · unfold fX12_plainTells
    rw [b2_s a2, b2_s u2, u3.2.2.1.2.2]
theorem ac_ph2 {M0 T0 M T : mM} {p w : Int32} (h : acS M0 T0 2 p w M T false) (x : Int32) : ∃ (r : Int32) (M' T' : mM) (b' : Bool), fX9_shares_q52 M x = some (r, M') ∧ fX12_plainShares T x = some (r, T') ∧ acS M0 T0 2 p w M' T' b' := by
  obtain ⟨M1, T1, a1, a2, a3⟩ := ac_run h 12
  obtain ⟨c, ⟨m1, m2⟩, ⟨t1, t2, t3⟩, ⟨b1', b2'⟩, f1, f2, f3⟩ := id a3
  have m1' : M1 52 1 = p := m1
  have m2' : M1 52 2 = w := m2
  have w31 : ∀ v, wr T1 0 33 v 0 31 = p := fun v => by rw [wr_k _ (by omega)]; exact t2
  have w32 : ∀ v, wr T1 0 33 v 0 32 = w := fun v => by rw [wr_k _ (by omega)]; exact t3
  have b3' : T1 0 33 = 0 := b2'
  by_cases z : w = p
  · refine ⟨0, wr M1 47 1 1, wr T1 0 33 1, true, ?_, ?_, ?_, ⟨?_, ?_⟩, ⟨?_, w31 1, w32 1⟩, ⟨wr_s _ _ _ _, wr_s _ _ _ _⟩, fun q q1 q2 => (wr_q _ _ q1).trans (f1 q q1 q2), fun q q1 q2 => (wr_q _ _ q1).trans (f2 q q1 q2), fun j hj => (wr_k _ (by omega)).trans (f3 j hj)⟩
    · unfold fX9_shares_q52
      rw [b2_s a1, m1', m2', if_pos (by rw [z]; exact Int32.sub_self p)]
    · unfold fX12_plainShares fX12_plainShares_L25 fX12_plainShares_L30
      rw [b2_s a2, b3', if_pos rfl, t2, t3, if_pos z, w31, w32, if_pos z]
      rfl
    · obtain ⟨c, c1, c2, c3, c4⟩ := c
      exact ⟨c, c1, by rw [wr_k _ (by omega)]; exact c2, by rw [wr_k _ (by omega)]; exact c3, fun i hi => by rw [wr_q _ _ (by omega), wr_q _ _ (by omega)]; exact c4 i hi⟩
    · rw [wr_q _ _ (by omega)]; exact m1
    · rw [wr_q _ _ (by omega)]; exact m2
    · rw [wr_k _ (by omega)]; exact t1
  · have ne : ¬ w - p = 0 := fun q => z (by
      have := congrArg (fun v => v + p) q
      simpa using this)
    refine ⟨x / (w - p), M1, wr T1 0 33 0, false, ?_, ?_, ?_, ⟨m1, m2⟩, ⟨?_, w31 0, w32 0⟩, ⟨b1', wr_s _ _ _ _⟩, f1, fun q q1 q2 => (wr_q _ _ q1).trans (f2 q q1 q2), fun j hj => (wr_k _ (by omega)).trans (f3 j hj)⟩
    · unfold fX9_shares_q52
      rw [b2_s a1, m1', m2', if_neg ne, gd_t (show nz (w - p) = true by simp [nz, ne])]
    · unfold fX12_plainShares fX12_plainShares_L25 fX12_plainShares_L30
      rw [b2_s a2, b3', if_pos rfl, t2, t3, if_neg z, w31, w32, if_neg z, gd_t (show isB 0 = true from rfl), gd_t (show nz (w - p) = true by simp [nz, ne])]
    · obtain ⟨c, c1, c2, c3, c4⟩ := c
      exact ⟨c, c1, c2, by rw [wr_k _ (by omega)]; exact c3, fun i hi => by rw [wr_q _ _ (by omega)]; exact c4 i hi⟩
    · rw [wr_k _ (by omega)]; exact t1
theorem ac_sh2 {M0 T0 M T : mM} {p w : Int32} (h : acS M0 T0 2 p w M T false) (x : Int32) : ∃ (r : Int32) (M' T' : mM) (b' : Bool), fX9_shares_q52 M x = some (r, M') ∧ fX12_shares T x = some (r, T') ∧ acS M0 T0 2 p w M' T' b' := by
  obtain ⟨r, M2, T2, b', u1, u2, u3⟩ := ac_ph2 h x
  refine ⟨r, M2, T2, b', u1, ?_, u3⟩
  unfold fX12_shares
  rw [h.2.2.1.1, if_neg (show ¬ nI 2 = 5 by decide), if_neg (show ¬ nI 2 = 4 by decide), b2_s u2]
theorem ac_te2 {M0 T0 M T : mM} {p w : Int32} (h : acS M0 T0 2 p w M T false) (x : Int32) : ∃ (r : Int32) (M' T' : mM) (b' : Bool), fX9_tells_q52 M x = some (r, M') ∧ fX12_tells T x = some (r, T') ∧ acS M0 T0 2 p w M' T' b' := by
  obtain ⟨r, M2, T2, u1, u2, u3⟩ := ac_pt2 h x
  refine ⟨r, M2, T2, false, u1, ?_, u3⟩
  unfold fX12_tells
  rw [h.2.2.1.1, if_neg (show ¬ nI 2 = 3 by decide), b2_s u2]
theorem ac_wi3 {M0 T0 M T : mM} {p w : Int32} {b : Bool} (h : acS M0 T0 3 p w M T b) (x : Int32) : ∃ (r : Int32) (M' T' : mM), fX7_wishes_q53 M x = some (r, M') ∧ fX12_wishes T x = some (r, T') ∧ acS M0 T0 3 p w M' T' b := by
  obtain ⟨M1, T1, a1, a2, a3⟩ := ac_run h 50
  obtain ⟨M2, T2, u1, u2, u3⟩ := ac_run a3 10
  have e : fX9_wishes_q53 M1 x = some (x + w, M2) := by
    unfold fX9_wishes_q53
    rw [b2_s u1, show M2 53 2 = w from u3.2.1.2]
  refine ⟨x + w - 1, M2, T2, ?_, ?_, u3⟩
  · unfold fX7_wishes_q53
    rw [b2_s a1, b2_s e]
  · unfold fX12_wishes
    rw [h.2.2.1.1, if_neg (show ¬ nI 3 = 1 by decide), if_pos (show nI 3 = 3 from rfl), b2_s a2, b2_s u2, u3.2.2.1.2.2]
theorem ac_ps3 {M0 T0 M T : mM} {p w : Int32} {b : Bool} (h : acS M0 T0 3 p w M T b) (x : Int32) : ∃ (r : Int32) (M' T' : mM), fX9_sways_q53 M x = some (r, M') ∧ fX12_plainSways T x = some (r, T') ∧ acS M0 T0 3 p w M' T' b := by
  obtain ⟨M1, T1, a1, a2, a3⟩ := ac_run h 11
  obtain ⟨r, M2, T2, u1, u2, u3⟩ := ac_wi3 a3 x
  refine ⟨r - p, M2, T2, ?_, ?_, u3⟩
  · unfold fX9_sways_q53
    rw [b2_s a1, b2_s u1, show M2 53 1 = p from u3.2.1.1]
  · unfold fX12_plainSways
    rw [b2_s a2, b2_s u2, u3.2.2.1.2.1]
theorem ac_sw3 {M0 T0 M T : mM} {p w : Int32} {b : Bool} (h : acS M0 T0 3 p w M T b) (x : Int32) : ∃ (r : Int32) (M' T' : mM), fX1_sways_q53 M x = some (r, M') ∧ fX12_sways T x = some (r, T') ∧ acS M0 T0 3 p w M' T' b := by
  obtain ⟨M1, T1, a1, a2, a3⟩ := ac_run h 30
  obtain ⟨r, M2, T2, u1, u2, u3⟩ := ac_ps3 a3 x
  refine ⟨r ^^^ p, M2, T2, ?_, ?_, u3⟩
  · unfold fX1_sways_q53
    rw [b2_s a1, b2_s u1, show M2 53 1 = p from u3.2.1.1]
  · unfold fX12_sways fX12_sways_L16
    rw [h.2.2.1.1, if_neg (show ¬ nI 3 = 2 by decide), if_pos (show nI 3 = 3 from rfl), b2_s a2, b2_s u2, u3.2.2.1.2.1]
theorem ac_pt3 {M0 T0 M T : mM} {p w : Int32} {b : Bool} (h : acS M0 T0 3 p w M T b) (x : Int32) : ∃ (r : Int32) (M' T' : mM), fX9_tells_q53 M x = some (r, M') ∧ fX12_plainTells T x = some (r, T') ∧ acS M0 T0 3 p w M' T' b := by
  obtain ⟨M1, T1, a1, a2, a3⟩ := ac_run h 13
  obtain ⟨r, M2, T2, u1, u2, u3⟩ := ac_sw3 a3 x
  refine ⟨r ^^^ w, M2, T2, ?_, ?_, u3⟩
  · unfold fX9_tells_q53
    rw [b2_s a1, b2_s u1, show M2 53 2 = w from u3.2.1.2]
  · unfold fX12_plainTells
    rw [b2_s a2, b2_s u2, u3.2.2.1.2.2]
theorem ac_ph3 {M0 T0 M T : mM} {p w : Int32} (h : acS M0 T0 3 p w M T false) (x : Int32) : ∃ (r : Int32) (M' T' : mM) (b' : Bool), fX9_shares_q53 M x = some (r, M') ∧ fX12_plainShares T x = some (r, T') ∧ acS M0 T0 3 p w M' T' b' := by
  obtain ⟨M1, T1, a1, a2, a3⟩ := ac_run h 12
  obtain ⟨c, ⟨m1, m2⟩, ⟨t1, t2, t3⟩, ⟨b1', b2'⟩, f1, f2, f3⟩ := id a3
  have m1' : M1 53 1 = p := m1
  have m2' : M1 53 2 = w := m2
  have w31 : ∀ v, wr T1 0 33 v 0 31 = p := fun v => by rw [wr_k _ (by omega)]; exact t2
  have w32 : ∀ v, wr T1 0 33 v 0 32 = w := fun v => by rw [wr_k _ (by omega)]; exact t3
  have b3' : T1 0 33 = 0 := b2'
  by_cases z : w = p
  · refine ⟨0, wr M1 47 1 1, wr T1 0 33 1, true, ?_, ?_, ?_, ⟨?_, ?_⟩, ⟨?_, w31 1, w32 1⟩, ⟨wr_s _ _ _ _, wr_s _ _ _ _⟩, fun q q1 q2 => (wr_q _ _ q1).trans (f1 q q1 q2), fun q q1 q2 => (wr_q _ _ q1).trans (f2 q q1 q2), fun j hj => (wr_k _ (by omega)).trans (f3 j hj)⟩
    · unfold fX9_shares_q53
      rw [b2_s a1, m1', m2', if_pos (by rw [z]; exact Int32.sub_self p)]
    · unfold fX12_plainShares fX12_plainShares_L25 fX12_plainShares_L30
      rw [b2_s a2, b3', if_pos rfl, t2, t3, if_pos z, w31, w32, if_pos z]
      rfl
    · obtain ⟨c, c1, c2, c3, c4⟩ := c
      exact ⟨c, c1, by rw [wr_k _ (by omega)]; exact c2, by rw [wr_k _ (by omega)]; exact c3, fun i hi => by rw [wr_q _ _ (by omega), wr_q _ _ (by omega)]; exact c4 i hi⟩
    · rw [wr_q _ _ (by omega)]; exact m1
    · rw [wr_q _ _ (by omega)]; exact m2
    · rw [wr_k _ (by omega)]; exact t1
  · have ne : ¬ w - p = 0 := fun q => z (by
      have := congrArg (fun v => v + p) q
      simpa using this)
    refine ⟨x / (w - p), M1, wr T1 0 33 0, false, ?_, ?_, ?_, ⟨m1, m2⟩, ⟨?_, w31 0, w32 0⟩, ⟨b1', wr_s _ _ _ _⟩, f1, fun q q1 q2 => (wr_q _ _ q1).trans (f2 q q1 q2), fun j hj => (wr_k _ (by omega)).trans (f3 j hj)⟩
    · unfold fX9_shares_q53
      rw [b2_s a1, m1', m2', if_neg ne, gd_t (show nz (w - p) = true by simp [nz, ne])]
    · unfold fX12_plainShares fX12_plainShares_L25 fX12_plainShares_L30
      rw [b2_s a2, b3', if_pos rfl, t2, t3, if_neg z, w31, w32, if_neg z, gd_t (show isB 0 = true from rfl), gd_t (show nz (w - p) = true by simp [nz, ne])]
    · obtain ⟨c, c1, c2, c3, c4⟩ := c
      exact ⟨c, c1, c2, by rw [wr_k _ (by omega)]; exact c3, fun i hi => by rw [wr_q _ _ (by omega)]; exact c4 i hi⟩
    · rw [wr_k _ (by omega)]; exact t1
theorem ac_sh3 {M0 T0 M T : mM} {p w : Int32} (h : acS M0 T0 3 p w M T false) (x : Int32) : ∃ (r : Int32) (M' T' : mM) (b' : Bool), fX9_shares_q53 M x = some (r, M') ∧ fX12_shares T x = some (r, T') ∧ acS M0 T0 3 p w M' T' b' := by
  obtain ⟨r, M2, T2, b', u1, u2, u3⟩ := ac_ph3 h x
  refine ⟨r, M2, T2, b', u1, ?_, u3⟩
  unfold fX12_shares
  rw [h.2.2.1.1, if_neg (show ¬ nI 3 = 5 by decide), if_neg (show ¬ nI 3 = 4 by decide), b2_s u2]
theorem ac_te3 {M0 T0 M T : mM} {p w : Int32} (h : acS M0 T0 3 p w M T false) (x : Int32) : ∃ (r : Int32) (M' T' : mM) (b' : Bool), fX7_tells_q53 M x = some (r, M') ∧ fX12_tells T x = some (r, T') ∧ acS M0 T0 3 p w M' T' b' := by
  obtain ⟨M1, T1, a1, a2, a3⟩ := ac_run h 51
  obtain ⟨r, M2, T2, u1, u2, u3⟩ := ac_pt3 a3 x
  obtain ⟨r3, M3, T3, b', v1, v2, v3⟩ := ac_sh3 u3 w
  refine ⟨r + r3, M3, T3, b', ?_, ?_, v3⟩
  · unfold fX7_tells_q53
    rw [b2_s a1, b2_s u1, show M2 53 2 = w from u3.2.1.2, b2_s v1]
  · unfold fX12_tells
    rw [h.2.2.1.1, if_pos (show nI 3 = 3 from rfl), b2_s a2, b2_s u2, u3.2.2.1.2.2, b2_s v2]
theorem ac_wi4 {M0 T0 M T : mM} {p w : Int32} {b : Bool} (h : acS M0 T0 4 p w M T b) (x : Int32) : ∃ (r : Int32) (M' T' : mM), fX9_wishes_q54 M x = some (r, M') ∧ fX12_wishes T x = some (r, T') ∧ acS M0 T0 4 p w M' T' b := by
  obtain ⟨M2, T2, u1, u2, u3⟩ := ac_run h 10
  refine ⟨x + w, M2, T2, ?_, ?_, u3⟩
  · unfold fX9_wishes_q54
    rw [b2_s u1, show M2 54 2 = w from u3.2.1.2]
  · unfold fX12_wishes
    rw [h.2.2.1.1, if_neg (show ¬ nI 4 = 1 by decide), if_neg (show ¬ nI 4 = 3 by decide), b2_s u2, u3.2.2.1.2.2]
theorem ac_ps4 {M0 T0 M T : mM} {p w : Int32} {b : Bool} (h : acS M0 T0 4 p w M T b) (x : Int32) : ∃ (r : Int32) (M' T' : mM), fX9_sways_q54 M x = some (r, M') ∧ fX12_plainSways T x = some (r, T') ∧ acS M0 T0 4 p w M' T' b := by
  obtain ⟨M1, T1, a1, a2, a3⟩ := ac_run h 11
  obtain ⟨r, M2, T2, u1, u2, u3⟩ := ac_wi4 a3 x
  refine ⟨r - p, M2, T2, ?_, ?_, u3⟩
  · unfold fX9_sways_q54
    rw [b2_s a1, b2_s u1, show M2 54 1 = p from u3.2.1.1]
  · unfold fX12_plainSways
    rw [b2_s a2, b2_s u2, u3.2.2.1.2.1]
theorem ac_sw4 {M0 T0 M T : mM} {p w : Int32} {b : Bool} (h : acS M0 T0 4 p w M T b) (x : Int32) : ∃ (r : Int32) (M' T' : mM), fX9_sways_q54 M x = some (r, M') ∧ fX12_sways T x = some (r, T') ∧ acS M0 T0 4 p w M' T' b := by
  obtain ⟨r, M2, T2, u1, u2, u3⟩ := ac_ps4 h x
  refine ⟨r, M2, T2, u1, ?_, u3⟩
  unfold fX12_sways
  rw [h.2.2.1.1, if_neg (show ¬ nI 4 = 2 by decide), if_neg (show ¬ nI 4 = 3 by decide), if_neg (show ¬ nI 4 = 5 by decide), b2_s u2]
theorem ac_pt4 {M0 T0 M T : mM} {p w : Int32} {b : Bool} (h : acS M0 T0 4 p w M T b) (x : Int32) : ∃ (r : Int32) (M' T' : mM), fX9_tells_q54 M x = some (r, M') ∧ fX12_plainTells T x = some (r, T') ∧ acS M0 T0 4 p w M' T' b := by
  obtain ⟨M1, T1, a1, a2, a3⟩ := ac_run h 13
  obtain ⟨r, M2, T2, u1, u2, u3⟩ := ac_sw4 a3 x
  refine ⟨r ^^^ w, M2, T2, ?_, ?_, u3⟩
  · unfold fX9_tells_q54
    rw [b2_s a1, b2_s u1, show M2 54 2 = w from u3.2.1.2]
  · unfold fX12_plainTells
    rw [b2_s a2, b2_s u2, u3.2.2.1.2.2]
theorem ac_ph4 {M0 T0 M T : mM} {p w : Int32} (h : acS M0 T0 4 p w M T false) (x : Int32) : ∃ (r : Int32) (M' T' : mM) (b' : Bool), fX9_shares_q54 M x = some (r, M') ∧ fX12_plainShares T x = some (r, T') ∧ acS M0 T0 4 p w M' T' b' := by
  obtain ⟨M1, T1, a1, a2, a3⟩ := ac_run h 12
  obtain ⟨c, ⟨m1, m2⟩, ⟨t1, t2, t3⟩, ⟨b1', b2'⟩, f1, f2, f3⟩ := id a3
  have m1' : M1 54 1 = p := m1
  have m2' : M1 54 2 = w := m2
  have w31 : ∀ v, wr T1 0 33 v 0 31 = p := fun v => by rw [wr_k _ (by omega)]; exact t2
  have w32 : ∀ v, wr T1 0 33 v 0 32 = w := fun v => by rw [wr_k _ (by omega)]; exact t3
  have b3' : T1 0 33 = 0 := b2'
  by_cases z : w = p
  · refine ⟨0, wr M1 47 1 1, wr T1 0 33 1, true, ?_, ?_, ?_, ⟨?_, ?_⟩, ⟨?_, w31 1, w32 1⟩, ⟨wr_s _ _ _ _, wr_s _ _ _ _⟩, fun q q1 q2 => (wr_q _ _ q1).trans (f1 q q1 q2), fun q q1 q2 => (wr_q _ _ q1).trans (f2 q q1 q2), fun j hj => (wr_k _ (by omega)).trans (f3 j hj)⟩
    · unfold fX9_shares_q54
      rw [b2_s a1, m1', m2', if_pos (by rw [z]; exact Int32.sub_self p)]
    · unfold fX12_plainShares fX12_plainShares_L25 fX12_plainShares_L30
      rw [b2_s a2, b3', if_pos rfl, t2, t3, if_pos z, w31, w32, if_pos z]
      rfl
    · obtain ⟨c, c1, c2, c3, c4⟩ := c
      exact ⟨c, c1, by rw [wr_k _ (by omega)]; exact c2, by rw [wr_k _ (by omega)]; exact c3, fun i hi => by rw [wr_q _ _ (by omega), wr_q _ _ (by omega)]; exact c4 i hi⟩
    · rw [wr_q _ _ (by omega)]; exact m1
    · rw [wr_q _ _ (by omega)]; exact m2
    · rw [wr_k _ (by omega)]; exact t1
  · have ne : ¬ w - p = 0 := fun q => z (by
      have := congrArg (fun v => v + p) q
      simpa using this)
    refine ⟨x / (w - p), M1, wr T1 0 33 0, false, ?_, ?_, ?_, ⟨m1, m2⟩, ⟨?_, w31 0, w32 0⟩, ⟨b1', wr_s _ _ _ _⟩, f1, fun q q1 q2 => (wr_q _ _ q1).trans (f2 q q1 q2), fun j hj => (wr_k _ (by omega)).trans (f3 j hj)⟩
    · unfold fX9_shares_q54
      rw [b2_s a1, m1', m2', if_neg ne, gd_t (show nz (w - p) = true by simp [nz, ne])]
    · unfold fX12_plainShares fX12_plainShares_L25 fX12_plainShares_L30
      rw [b2_s a2, b3', if_pos rfl, t2, t3, if_neg z, w31, w32, if_neg z, gd_t (show isB 0 = true from rfl), gd_t (show nz (w - p) = true by simp [nz, ne])]
    · obtain ⟨c, c1, c2, c3, c4⟩ := c
      exact ⟨c, c1, c2, by rw [wr_k _ (by omega)]; exact c3, fun i hi => by rw [wr_q _ _ (by omega)]; exact c4 i hi⟩
    · rw [wr_k _ (by omega)]; exact t1
theorem ac_bh4 {M0 T0 M T : mM} {p w : Int32} (h : acS M0 T0 4 p w M T false) (x : Int32) : ∃ (r : Int32) (M' T' : mM) (b' : Bool), fX0_shares_q54 M x = some (r, M') ∧ fX12_bakerShares T x = some (r, T') ∧ acS M0 T0 4 p w M' T' b' := by
  obtain ⟨M1, T1, a1, a2, a3⟩ := ac_run h 40
  obtain ⟨r, M2, T2, b', u1, u2, u3⟩ := ac_ph4 a3 (x - 3)
  refine ⟨r, M2, T2, b', ?_, ?_, u3⟩
  · unfold fX0_shares_q54
    rw [b2_s a1, b2_s u1]
  · unfold fX12_bakerShares
    rw [b2_s a2, b2_s u2]
theorem ac_sh4 {M0 T0 M T : mM} {p w : Int32} (h : acS M0 T0 4 p w M T false) (x : Int32) : ∃ (r : Int32) (M' T' : mM) (b' : Bool), fX0_shares_q54 M x = some (r, M') ∧ fX12_shares T x = some (r, T') ∧ acS M0 T0 4 p w M' T' b' := by
  obtain ⟨r, M2, T2, b', u1, u2, u3⟩ := ac_bh4 h x
  refine ⟨r, M2, T2, b', u1, ?_, u3⟩
  unfold fX12_shares
  rw [h.2.2.1.1, if_neg (show ¬ nI 4 = 5 by decide), if_pos (show nI 4 = 4 from rfl), b2_s u2]
theorem ac_te4 {M0 T0 M T : mM} {p w : Int32} (h : acS M0 T0 4 p w M T false) (x : Int32) : ∃ (r : Int32) (M' T' : mM) (b' : Bool), fX9_tells_q54 M x = some (r, M') ∧ fX12_tells T x = some (r, T') ∧ acS M0 T0 4 p w M' T' b' := by
  obtain ⟨r, M2, T2, u1, u2, u3⟩ := ac_pt4 h x
  refine ⟨r, M2, T2, false, u1, ?_, u3⟩
  unfold fX12_tells
  rw [h.2.2.1.1, if_neg (show ¬ nI 4 = 3 by decide), b2_s u2]
theorem ac_wi5 {M0 T0 M T : mM} {p w : Int32} {b : Bool} (h : acS M0 T0 5 p w M T b) (x : Int32) : ∃ (r : Int32) (M' T' : mM), fX9_wishes_q55 M x = some (r, M') ∧ fX12_wishes T x = some (r, T') ∧ acS M0 T0 5 p w M' T' b := by
  obtain ⟨M2, T2, u1, u2, u3⟩ := ac_run h 10
  refine ⟨x + w, M2, T2, ?_, ?_, u3⟩
  · unfold fX9_wishes_q55
    rw [b2_s u1, show M2 55 2 = w from u3.2.1.2]
  · unfold fX12_wishes
    rw [h.2.2.1.1, if_neg (show ¬ nI 5 = 1 by decide), if_neg (show ¬ nI 5 = 3 by decide), b2_s u2, u3.2.2.1.2.2]
theorem ac_ps5 {M0 T0 M T : mM} {p w : Int32} {b : Bool} (h : acS M0 T0 5 p w M T b) (x : Int32) : ∃ (r : Int32) (M' T' : mM), fX9_sways_q55 M x = some (r, M') ∧ fX12_plainSways T x = some (r, T') ∧ acS M0 T0 5 p w M' T' b := by
  obtain ⟨M1, T1, a1, a2, a3⟩ := ac_run h 11
  obtain ⟨r, M2, T2, u1, u2, u3⟩ := ac_wi5 a3 x
  refine ⟨r - p, M2, T2, ?_, ?_, u3⟩
  · unfold fX9_sways_q55
    rw [b2_s a1, b2_s u1, show M2 55 1 = p from u3.2.1.1]
  · unfold fX12_plainSways
    rw [b2_s a2, b2_s u2, u3.2.2.1.2.1]
theorem ac_sw5 {M0 T0 M T : mM} {p w : Int32} {b : Bool} (h : acS M0 T0 5 p w M T b) (x : Int32) : ∃ (r : Int32) (M' T' : mM), fX8_sways_q55 M x = some (r, M') ∧ fX12_sways T x = some (r, T') ∧ acS M0 T0 5 p w M' T' b := by
  obtain ⟨M1, T1, a1, a2, a3⟩ := ac_run h 60
  obtain ⟨r, M2, T2, u1, u2, u3⟩ := ac_ps5 a3 x
  refine ⟨-r, M2, T2, ?_, ?_, u3⟩
  · unfold fX8_sways_q55
    rw [b2_s a1, b2_s u1, Int32.zero_sub]
  · unfold fX12_sways
    rw [h.2.2.1.1, if_neg (show ¬ nI 5 = 2 by decide), if_neg (show ¬ nI 5 = 3 by decide), if_pos (show nI 5 = 5 from rfl), b2_s a2, b2_s u2]
theorem ac_pt5 {M0 T0 M T : mM} {p w : Int32} {b : Bool} (h : acS M0 T0 5 p w M T b) (x : Int32) : ∃ (r : Int32) (M' T' : mM), fX9_tells_q55 M x = some (r, M') ∧ fX12_plainTells T x = some (r, T') ∧ acS M0 T0 5 p w M' T' b := by
  obtain ⟨M1, T1, a1, a2, a3⟩ := ac_run h 13
  obtain ⟨r, M2, T2, u1, u2, u3⟩ := ac_sw5 a3 x
  refine ⟨r ^^^ w, M2, T2, ?_, ?_, u3⟩
  · unfold fX9_tells_q55
    rw [b2_s a1, b2_s u1, show M2 55 2 = w from u3.2.1.2]
  · unfold fX12_plainTells
    rw [b2_s a2, b2_s u2, u3.2.2.1.2.2]
theorem ac_ph5 {M0 T0 M T : mM} {p w : Int32} (h : acS M0 T0 5 p w M T false) (x : Int32) : ∃ (r : Int32) (M' T' : mM) (b' : Bool), fX9_shares_q55 M x = some (r, M') ∧ fX12_plainShares T x = some (r, T') ∧ acS M0 T0 5 p w M' T' b' := by
  obtain ⟨M1, T1, a1, a2, a3⟩ := ac_run h 12
  obtain ⟨c, ⟨m1, m2⟩, ⟨t1, t2, t3⟩, ⟨b1', b2'⟩, f1, f2, f3⟩ := id a3
  have m1' : M1 55 1 = p := m1
  have m2' : M1 55 2 = w := m2
  have w31 : ∀ v, wr T1 0 33 v 0 31 = p := fun v => by rw [wr_k _ (by omega)]; exact t2
  have w32 : ∀ v, wr T1 0 33 v 0 32 = w := fun v => by rw [wr_k _ (by omega)]; exact t3
  have b3' : T1 0 33 = 0 := b2'
  by_cases z : w = p
  · refine ⟨0, wr M1 47 1 1, wr T1 0 33 1, true, ?_, ?_, ?_, ⟨?_, ?_⟩, ⟨?_, w31 1, w32 1⟩, ⟨wr_s _ _ _ _, wr_s _ _ _ _⟩, fun q q1 q2 => (wr_q _ _ q1).trans (f1 q q1 q2), fun q q1 q2 => (wr_q _ _ q1).trans (f2 q q1 q2), fun j hj => (wr_k _ (by omega)).trans (f3 j hj)⟩
    · unfold fX9_shares_q55
      rw [b2_s a1, m1', m2', if_pos (by rw [z]; exact Int32.sub_self p)]
    · unfold fX12_plainShares fX12_plainShares_L25 fX12_plainShares_L30
      rw [b2_s a2, b3', if_pos rfl, t2, t3, if_pos z, w31, w32, if_pos z]
      rfl
    · obtain ⟨c, c1, c2, c3, c4⟩ := c
      exact ⟨c, c1, by rw [wr_k _ (by omega)]; exact c2, by rw [wr_k _ (by omega)]; exact c3, fun i hi => by rw [wr_q _ _ (by omega), wr_q _ _ (by omega)]; exact c4 i hi⟩
    · rw [wr_q _ _ (by omega)]; exact m1
    · rw [wr_q _ _ (by omega)]; exact m2
    · rw [wr_k _ (by omega)]; exact t1
  · have ne : ¬ w - p = 0 := fun q => z (by
      have := congrArg (fun v => v + p) q
      simpa using this)
    refine ⟨x / (w - p), M1, wr T1 0 33 0, false, ?_, ?_, ?_, ⟨m1, m2⟩, ⟨?_, w31 0, w32 0⟩, ⟨b1', wr_s _ _ _ _⟩, f1, fun q q1 q2 => (wr_q _ _ q1).trans (f2 q q1 q2), fun j hj => (wr_k _ (by omega)).trans (f3 j hj)⟩
    · unfold fX9_shares_q55
      rw [b2_s a1, m1', m2', if_neg ne, gd_t (show nz (w - p) = true by simp [nz, ne])]
    · unfold fX12_plainShares fX12_plainShares_L25 fX12_plainShares_L30
      rw [b2_s a2, b3', if_pos rfl, t2, t3, if_neg z, w31, w32, if_neg z, gd_t (show isB 0 = true from rfl), gd_t (show nz (w - p) = true by simp [nz, ne])]
    · obtain ⟨c, c1, c2, c3, c4⟩ := c
      exact ⟨c, c1, c2, by rw [wr_k _ (by omega)]; exact c3, fun i hi => by rw [wr_q _ _ (by omega)]; exact c4 i hi⟩
    · rw [wr_k _ (by omega)]; exact t1
theorem ac_bh5 {M0 T0 M T : mM} {p w : Int32} (h : acS M0 T0 5 p w M T false) (x : Int32) : ∃ (r : Int32) (M' T' : mM) (b' : Bool), fX0_shares_q55 M x = some (r, M') ∧ fX12_bakerShares T x = some (r, T') ∧ acS M0 T0 5 p w M' T' b' := by
  obtain ⟨M1, T1, a1, a2, a3⟩ := ac_run h 40
  obtain ⟨r, M2, T2, b', u1, u2, u3⟩ := ac_ph5 a3 (x - 3)
  refine ⟨r, M2, T2, b', ?_, ?_, u3⟩
  · unfold fX0_shares_q55
    rw [b2_s a1, b2_s u1]
  · unfold fX12_bakerShares
    rw [b2_s a2, b2_s u2]
theorem ac_sh5 {M0 T0 M T : mM} {p w : Int32} (h : acS M0 T0 5 p w M T false) (x : Int32) : ∃ (r : Int32) (M' T' : mM) (b' : Bool), fX8_shares_q55 M x = some (r, M') ∧ fX12_shares T x = some (r, T') ∧ acS M0 T0 5 p w M' T' b' := by
  obtain ⟨M1, T1, a1, a2, a3⟩ := ac_run h 61
  obtain ⟨r, M2, T2, b', u1, u2, u3⟩ := ac_bh5 a3 x
  cases b'
  · obtain ⟨r3, M3, T3, v1, v2, v3⟩ := ac_wi5 u3 p
    refine ⟨r - r3, M3, T3, false, ?_, ?_, v3⟩
    · unfold fX8_shares_q55
      rw [b2_s a1, b2_s u1, if_pos (show M2 47 1 = 0 from u3.2.2.2.1.1), show M2 55 1 = p from u3.2.1.1, b2_s v1]
    · unfold fX12_shares
      rw [h.2.2.1.1, if_pos (show nI 5 = 5 from rfl), b2_s a2, b2_s u2, if_pos (show T2 0 33 = 0 from u3.2.2.2.1.2), u3.2.2.1.2.1, b2_s v2]
  · refine ⟨0, M2, T2, true, ?_, ?_, u3⟩
    · unfold fX8_shares_q55
      rw [b2_s a1, b2_s u1, if_neg (show ¬ M2 47 1 = 0 by rw [u3.2.2.2.1.1]; decide)]
    · unfold fX12_shares
      rw [h.2.2.1.1, if_pos (show nI 5 = 5 from rfl), b2_s a2, b2_s u2, if_neg (show ¬ T2 0 33 = 0 by rw [u3.2.2.2.1.2]; decide)]
theorem ac_te5 {M0 T0 M T : mM} {p w : Int32} (h : acS M0 T0 5 p w M T false) (x : Int32) : ∃ (r : Int32) (M' T' : mM) (b' : Bool), fX9_tells_q55 M x = some (r, M') ∧ fX12_tells T x = some (r, T') ∧ acS M0 T0 5 p w M' T' b' := by
  obtain ⟨r, M2, T2, u1, u2, u3⟩ := ac_pt5 h x
  refine ⟨r, M2, T2, false, u1, ?_, u3⟩
  unfold fX12_tells
  rw [h.2.2.1.1, if_neg (show ¬ nI 5 = 3 by decide), b2_s u2]
/-- only what ran changes -/
theorem Rel.ran {M T M' T' : mM} (hR : Rel M T) (hc : ∀ q, q < 47 ∨ 55 < q → M' q = M q) (ht : ∀ q, q ≠ 0 → q ≠ 16 → T' q = T q) (h0 : ∀ j, j < 29 → T' 0 j = T 0 j) (h : Ra M' T') : Rel M' T' := by
  obtain ⟨p, s, k, t, w, hh, -⟩ := hR
  refine ⟨?_, ?_, ?_, ?_, ?_, ?_, h⟩
  · rw [ht 1 (by omega) (by omega)]
    exact Rp_eq (fun q hq => hc (1 + q) (by omega)) p
  · exact s.keep (hc 63 (by omega)) ⟨congrFun (hc 1 (by omega)) 0, fun q h1 h2 _ => hc (1 + q) (by omega), fun k _ => congrFun (hc 16 (by omega)) k⟩
  · unfold Rk
    rw [hc 0 (by omega), h0 2 (by omega), ht 2 (by omega) (by omega)]
    rcases k with k | ⟨k1, k2, k3⟩
    · exact Or.inl k
    · exact Or.inr ⟨k1, k2, Rp_eq (fun q hq => hc (17 + q) (by omega)) k3⟩
  · unfold Rt
    rw [hc 33 (by omega), hc 43 (by omega), h0 5 (by omega), ht 4 (by omega) (by omega)]
    exact t
  · unfold Rw
    rw [hc 0 (by omega), hc 67 (by omega), h0 20 (by omega), ht 9 (by omega) (by omega)]
    exact w
  · unfold Rh
    rw [hc 57 (by omega), hc 58 (by omega), hc 59 (by omega), hc 60 (by omega), hc 61 (by omega), hc 62 (by omega), ht 10 (by omega) (by omega), ht 11 (by omega) (by omega), ht 12 (by omega) (by omega), ht 13 (by omega) (by omega), ht 14 (by omega) (by omega), ht 15 (by omega) (by omega)]
    exact hh
theorem voterOn4_at {M : mM} {s : Nat} (hs : s < 4) : fX11_voterOn M (nI s) = some (if M 58 s = 0 then M 60 s else -3) := by
  unfold fX11_voterOn fX11_voterOn_L25 fX11_voterOn_L26
  rw [show fX11_isIn (nI s) 0 3 = 1 from isIn_t (a := 0) (b := 3) (by omega) (by omega) (by omega), if_neg (by decide), gd_t (ix_nI hs (by omega)), gd_t (ix_nI hs (by omega)), tn_nI (by omega)]
  by_cases z : M 58 s = 0
  · rw [if_pos z, if_pos z, if_neg (by decide)]
  · rw [if_neg z, if_neg z, if_pos rfl]
theorem not_voterN3 (M : mM) : fX11_isVoter M (-3) = 0 := by
  unfold fX11_isVoter
  rw [if_pos (by decide)]
theorem pm_act {M T : mM} (hR : Rel M T) (a0 : Int32) (a1 : Int32) (a2 : Int32) : ∃ (r : Int32) (M' : mM) (T' : mM), fX11_act M a0 a1 a2 = some (r, M') ∧ fX12_act T a0 a1 a2 = some (r, T') ∧ Rel M' T' := by
  obtain ⟨n, aw, hr, no, li, la, hV, hX, -, a128, h24, n2, a5, h6, l8⟩ := hR.look
  have h7 := hX.1.1
  have eM : ∀ q, q ≠ 47 → wr (wr M 47 0 0) 47 1 0 q = M q := fun q hq => by rw [wr_q _ _ hq, wr_q _ _ hq]
  have eT : ∀ q, q ≠ 0 → wr T 0 29 0 q = T q := fun q hq => wr_q _ _ hq
  have R0 : Ra (wr (wr M 47 0 0) 47 1 0) (wr T 0 29 0) := ⟨0, by omega, by rw [wr_k _ (by omega), wr_s]; rfl, by rw [wr_s]; rfl, fun i hi => absurd hi (by omega)⟩
  have hR0 : Rel (wr (wr M 47 0 0) 47 1 0) (wr T 0 29 0) := hR.ran (fun q hq => eM q (by omega)) (fun q q1 _ => eT q q1) (fun j hj => wr_k _ (by omega)) R0
  unfold fX11_act fX12_act
  rw [isFour_eq, isFour_eq]
  by_cases h1 : fX11_isIn a0 0 3 = 0
  · refine ⟨0, _, _, ?_, by rw [if_pos h1], hR0⟩
    have e : fX11_voterOn (wr (wr M 47 0 0) 47 1 0) a0 = some (-3) := by
      unfold fX11_voterOn fX11_voterOn_L25 fX11_voterOn_L26
      rw [if_pos h1, if_pos rfl]
    rw [b1_s e, if_pos (not_voterN3 _)]
  rw [if_neg h1]
  obtain ⟨s, hs, rfl⟩ := four_yes h1
  obtain ⟨y1, y2⟩ := hR.2.2.2.2.2.1.2 s hs
  have e58 : wr (wr M 47 0 0) 47 1 0 58 s = M 58 s := congrFun (eM 58 (by omega)) s
  have e60 : wr (wr M 47 0 0) 47 1 0 60 s = M 60 s := congrFun (eM 60 (by omega)) s
  have e13 : wr T 0 29 0 13 s = M 58 s := (congrFun (eT 13 (by omega)) s).trans y1.symm
  rw [b1_s (voterOn4_at hs), e58, e60]
  have isH : fX12_isHeld (wr T 0 29 0) (nI s) = if M 58 s = 0 then (b1 (fX12_isVoter (wr T 0 29 0) (wr T 0 29 0 14 s)) fun r3 => (if r3 = 0 then (some 0) else (some 1))) else some 0 := by
    unfold fX12_isHeld
    rw [gd_t (ix_nI hs (by omega)), gd_t (ix_nI hs (by omega)), tn_nI (by omega), e13]
  by_cases hz : M 58 s = 0
  · obtain ⟨p, hp7, p1, p2⟩ : ∃ p : Nat, p < 7 ∧ M 60 s = nI p ∧ T 14 s = nI p := by
      rcases y2 with ⟨-, z⟩ | ⟨z, -⟩ | z
      · exact z
      · rw [hz] at z; exact absurd z (by decide)
      · rw [hz] at z; exact absurd z (by decide)
    have e14 : wr T 0 29 0 14 s = nI p := (congrFun (eT 14 (by omega)) s).trans p2
    have v1 := voter_eq (M := wr (wr M 47 0 0) 47 1 0) (T := wr T 0 29 0) (n := n) (by rw [eM 1 (by omega)]; exact n2) (by rw [eT 1 (by omega)]; exact hX.2.2.1.1) h7 (nI p)
    rw [if_pos hz, p1, isH, if_pos hz, e14, b1_s v1]
    by_cases hv : fX11_isVoter (wr (wr M 47 0 0) 47 1 0) (nI p) = 0
    · refine ⟨0, _, _, by rw [if_pos hv], ?_, hR0⟩
      rw [if_pos hv, b1_s rfl, if_pos rfl, ite_self]
    · rw [if_neg hv, if_neg hv]
      by_cases h2 : fX11_isIn a1 0 3 = 0
      · exact ⟨0, _, _, by rw [if_pos h2], by rw [if_pos h2], hR0⟩
      · rw [if_neg h2, if_neg h2, b1_s rfl, if_neg (show ¬ (1 : Int32) = 0 by decide)]
        obtain ⟨p', hp, ep⟩ := voter_yes (M := wr (wr M 47 0 0) 47 1 0) (n := n) (by rw [eM 1 (by omega)]; exact n2) hv
        have epp : p' = p := (nI_eq (by omega) (by omega)).mp ep.symm
        subst epp
        obtain ⟨j, hj, rfl⟩ := four_yes h2
        obtain ⟨k, w, g, c, x1, x2, z1, z2, z3, z4, z5⟩ := hX.2.2.2.1 p' hp
        have i2 : wr (wr M 47 0 0) 47 1 0 2 p' = nI k := (congrFun (eM 2 (by omega)) p').trans x2.1
        have T1e : wr T 0 29 0 1 = T 1 := eT 1 (by omega)
        have w31 : wr (wr T 0 29 0) 0 31 (nI p') 0 31 = nI p' := wr_s _ _ _ _
        have w31' : wr (wr (wr T 0 29 0) 0 31 (nI p')) 0 30 (nI k) 0 31 = nI p' := by rw [wr_k _ (by omega), wr_s]
        have i7 : fX12_its (wr (wr T 0 29 0) 0 31 (nI p')) (nI p') 0 = some (nI k) := by
          rw [its0 _ (by omega), wr_q _ _ (by omega), T1e, z1]
        have i9 : fX12_its (wr (wr (wr T 0 29 0) 0 31 (nI p')) 0 30 (nI k)) (nI p') 1 = some (nI w) := by
          rw [its1 _ (by omega), wr_q _ _ (by omega), wr_q _ _ (by omega), T1e, show 8 + 5 * p' + 1 = 9 + 5 * p' by omega, z2]
        simp only [gd_t (ix_nI hs (show (4 : Nat) ≤ 2 ^ 31 by omega)), tn_nI (show s < 2 ^ 31 by omega), e14, w31, b1_s i7, w31', b1_s i9, gd_t (ix_nI (show p' < 7 by omega) (show (7 : Nat) ≤ 2 ^ 31 by omega)), tn_nI (show p' < 2 ^ 31 by omega), i2, gd_t (ix_nI (show k < 6 by omega) (show (6 : Nat) ≤ 2 ^ 31 by omega))]
        -- at the start nothing is parted
        have S0 : ∀ k', k' < 6 → acS (wr (wr (wr (wr M 47 0 0) 47 1 0) (50 + k') 1 (nI p')) (50 + k') 2 (nI w)) (wr (wr (wr (wr (wr T 0 29 0) 0 31 (nI p')) 0 30 (nI k')) 0 32 (nI w)) 0 33 0) k' (nI p') (nI w) (wr (wr (wr (wr M 47 0 0) 47 1 0) (50 + k') 1 (nI p')) (50 + k') 2 (nI w)) (wr (wr (wr (wr (wr T 0 29 0) 0 31 (nI p')) 0 30 (nI k')) 0 32 (nI w)) 0 33 0) false := by
          intro k' hk'
          refine ⟨⟨0, by omega, ?_, ?_, fun i hi => absurd hi (by omega)⟩, ⟨by rw [wr_k _ (by omega), wr_s], wr_s _ _ _ _⟩, ⟨?_, ?_, ?_⟩, ⟨?_, wr_s _ _ _ _⟩, fun _ _ _ => rfl, fun _ _ _ => rfl, fun _ _ => rfl⟩
          · rw [wr_q _ _ (by omega), wr_q _ _ (by omega), wr_k _ (by omega), wr_s]; rfl
          · rw [wr_k _ (by omega), wr_k _ (by omega), wr_k _ (by omega), wr_k _ (by omega), wr_s]; rfl
          · rw [wr_k _ (by omega), wr_k _ (by omega), wr_s]
          · rw [wr_k _ (by omega), wr_k _ (by omega), wr_k _ (by omega), wr_s]
          · rw [wr_k _ (by omega), wr_s]
          · rw [wr_q _ _ (by omega), wr_q _ _ (by omega), wr_s]; rfl
        have fin : ∀ (k' : Nat) (r : Int32) (M' T' : mM) (b : Bool), k' < 6 → acS (wr (wr (wr (wr M 47 0 0) 47 1 0) (50 + k') 1 (nI p')) (50 + k') 2 (nI w)) (wr (wr (wr (wr (wr T 0 29 0) 0 31 (nI p')) 0 30 (nI k')) 0 32 (nI w)) 0 33 0) k' (nI p') (nI w) M' T' b → ∃ (r' : Int32) (M'' T'' : mM), fX11_act_L129 M' r = some (r', M'') ∧ fX12_act_L113 T' r = some (r', T'') ∧ Rel M'' T'' := by
          intro k' r M' T' b hk' hA
          obtain ⟨c, -, -, ⟨b1', b2'⟩, f1, f2, f3⟩ := hA
          refine ⟨if b then -15 else r, M', T', ?_, ?_, hR.ran (fun q hq => ?_) (fun q q1 q2 => ?_) (fun i hi => ?_) c⟩
          · unfold fX11_act_L129
            rw [b1']
            cases b <;> rfl
          · unfold fX12_act_L113
            rw [b2']
            cases b <;> rfl
          · rw [f1 q (by omega) (by omega), wr_q _ _ (by omega), wr_q _ _ (by omega), eM q (by omega)]
          · rw [f2 q q1 q2, wr_q _ _ q1, wr_q _ _ q1, wr_q _ _ q1, wr_q _ _ q1, wr_q _ _ q1]
          · rw [f3 i hi, wr_k _ (by omega), wr_k _ (by omega), wr_k _ (by omega), wr_k _ (by omega), wr_k _ (by omega)]
        have m3 : ∀ (k' : Nat), k' < 6 → wr (wr (wr M 47 0 0) 47 1 0) (50 + k') 1 (nI p') 3 p' = nI w := fun k' hk' => by
          rw [wr_q _ _ (by omega), eM 3 (by omega)]; exact x2.2.1
        rcases (by omega : k = 1 ∨ k = 2 ∨ k = 3 ∨ k = 4 ∨ k = 5) with rfl | rfl | rfl | rfl | rfl
        · simp only [if_neg (show ¬ nI 1 = 0 by decide), if_pos (show nI 1 = 1 from rfl), show wr (wr (wr M 47 0 0) 47 1 0) 51 1 (nI p') 3 p' = nI w from m3 1 (by omega)]
          rcases (by omega : j = 0 ∨ j = 1 ∨ j = 2 ∨ j = 3) with rfl | rfl | rfl | rfl
          · obtain ⟨r, M', T', u1, u2, u3⟩ := ac_wi1 (S0 1 (by omega)) a2
            simp only [if_pos (show nI 0 = 0 from rfl), b2_s u1, b2_s u2]
            exact fin 1 r M' T' _ (by omega) u3
          · obtain ⟨r, M', T', u1, u2, u3⟩ := ac_sw1 (S0 1 (by omega)) a2
            simp only [if_neg (show ¬ nI 1 = 0 by decide), if_pos (show nI 1 = 1 from rfl), b2_s u1, b2_s u2]
            exact fin 1 r M' T' _ (by omega) u3
          · obtain ⟨r, M', T', b', u1, u2, u3⟩ := ac_sh1 (S0 1 (by omega)) a2
            simp only [if_neg (show ¬ nI 2 = 0 by decide), if_neg (show ¬ nI 2 = 1 by decide), if_pos (show nI 2 = 2 from rfl), b2_s u1, b2_s u2]
            exact fin 1 r M' T' _ (by omega) u3
          · obtain ⟨r, M', T', b', u1, u2, u3⟩ := ac_te1 (S0 1 (by omega)) a2
            simp only [if_neg (show ¬ nI 3 = 0 by decide), if_neg (show ¬ nI 3 = 1 by decide), if_neg (show ¬ nI 3 = 2 by decide), b2_s u1, b2_s u2]
            exact fin 1 r M' T' _ (by omega) u3
        · simp only [if_neg (show ¬ nI 2 = 0 by decide), if_neg (show ¬ nI 2 = 1 by decide), if_pos (show nI 2 = 2 from rfl), show wr (wr (wr M 47 0 0) 47 1 0) 52 1 (nI p') 3 p' = nI w from m3 2 (by omega)]
          rcases (by omega : j = 0 ∨ j = 1 ∨ j = 2 ∨ j = 3) with rfl | rfl | rfl | rfl
          · obtain ⟨r, M', T', u1, u2, u3⟩ := ac_wi2 (S0 2 (by omega)) a2
            simp only [if_pos (show nI 0 = 0 from rfl), b2_s u1, b2_s u2]
            exact fin 2 r M' T' _ (by omega) u3
          · obtain ⟨r, M', T', u1, u2, u3⟩ := ac_sw2 (S0 2 (by omega)) a2
            simp only [if_neg (show ¬ nI 1 = 0 by decide), if_pos (show nI 1 = 1 from rfl), b2_s u1, b2_s u2]
            exact fin 2 r M' T' _ (by omega) u3
          · obtain ⟨r, M', T', b', u1, u2, u3⟩ := ac_sh2 (S0 2 (by omega)) a2
            simp only [if_neg (show ¬ nI 2 = 0 by decide), if_neg (show ¬ nI 2 = 1 by decide), if_pos (show nI 2 = 2 from rfl), b2_s u1, b2_s u2]
            exact fin 2 r M' T' _ (by omega) u3
          · obtain ⟨r, M', T', b', u1, u2, u3⟩ := ac_te2 (S0 2 (by omega)) a2
            simp only [if_neg (show ¬ nI 3 = 0 by decide), if_neg (show ¬ nI 3 = 1 by decide), if_neg (show ¬ nI 3 = 2 by decide), b2_s u1, b2_s u2]
            exact fin 2 r M' T' _ (by omega) u3
        · simp only [if_neg (show ¬ nI 3 = 0 by decide), if_neg (show ¬ nI 3 = 1 by decide), if_neg (show ¬ nI 3 = 2 by decide), if_pos (show nI 3 = 3 from rfl), show wr (wr (wr M 47 0 0) 47 1 0) 53 1 (nI p') 3 p' = nI w from m3 3 (by omega)]
          rcases (by omega : j = 0 ∨ j = 1 ∨ j = 2 ∨ j = 3) with rfl | rfl | rfl | rfl
          · obtain ⟨r, M', T', u1, u2, u3⟩ := ac_wi3 (S0 3 (by omega)) a2
            simp only [if_pos (show nI 0 = 0 from rfl), b2_s u1, b2_s u2]
            exact fin 3 r M' T' _ (by omega) u3
          · obtain ⟨r, M', T', u1, u2, u3⟩ := ac_sw3 (S0 3 (by omega)) a2
            simp only [if_neg (show ¬ nI 1 = 0 by decide), if_pos (show nI 1 = 1 from rfl), b2_s u1, b2_s u2]
            exact fin 3 r M' T' _ (by omega) u3
          · obtain ⟨r, M', T', b', u1, u2, u3⟩ := ac_sh3 (S0 3 (by omega)) a2
            simp only [if_neg (show ¬ nI 2 = 0 by decide), if_neg (show ¬ nI 2 = 1 by decide), if_pos (show nI 2 = 2 from rfl), b2_s u1, b2_s u2]
            exact fin 3 r M' T' _ (by omega) u3
          · obtain ⟨r, M', T', b', u1, u2, u3⟩ := ac_te3 (S0 3 (by omega)) a2
            simp only [if_neg (show ¬ nI 3 = 0 by decide), if_neg (show ¬ nI 3 = 1 by decide), if_neg (show ¬ nI 3 = 2 by decide), b2_s u1, b2_s u2]
            exact fin 3 r M' T' _ (by omega) u3
        · simp only [if_neg (show ¬ nI 4 = 0 by decide), if_neg (show ¬ nI 4 = 1 by decide), if_neg (show ¬ nI 4 = 2 by decide), if_neg (show ¬ nI 4 = 3 by decide), if_pos (show nI 4 = 4 from rfl), show wr (wr (wr M 47 0 0) 47 1 0) 54 1 (nI p') 3 p' = nI w from m3 4 (by omega)]
          rcases (by omega : j = 0 ∨ j = 1 ∨ j = 2 ∨ j = 3) with rfl | rfl | rfl | rfl
          · obtain ⟨r, M', T', u1, u2, u3⟩ := ac_wi4 (S0 4 (by omega)) a2
            simp only [if_pos (show nI 0 = 0 from rfl), b2_s u1, b2_s u2]
            exact fin 4 r M' T' _ (by omega) u3
          · obtain ⟨r, M', T', u1, u2, u3⟩ := ac_sw4 (S0 4 (by omega)) a2
            simp only [if_neg (show ¬ nI 1 = 0 by decide), if_pos (show nI 1 = 1 from rfl), b2_s u1, b2_s u2]
            exact fin 4 r M' T' _ (by omega) u3
          · obtain ⟨r, M', T', b', u1, u2, u3⟩ := ac_sh4 (S0 4 (by omega)) a2
            simp only [if_neg (show ¬ nI 2 = 0 by decide), if_neg (show ¬ nI 2 = 1 by decide), if_pos (show nI 2 = 2 from rfl), b2_s u1, b2_s u2]
            exact fin 4 r M' T' _ (by omega) u3
          · obtain ⟨r, M', T', b', u1, u2, u3⟩ := ac_te4 (S0 4 (by omega)) a2
            simp only [if_neg (show ¬ nI 3 = 0 by decide), if_neg (show ¬ nI 3 = 1 by decide), if_neg (show ¬ nI 3 = 2 by decide), b2_s u1, b2_s u2]
            exact fin 4 r M' T' _ (by omega) u3
        · simp only [if_neg (show ¬ nI 5 = 0 by decide), if_neg (show ¬ nI 5 = 1 by decide), if_neg (show ¬ nI 5 = 2 by decide), if_neg (show ¬ nI 5 = 3 by decide), if_neg (show ¬ nI 5 = 4 by decide), show wr (wr (wr M 47 0 0) 47 1 0) 55 1 (nI p') 3 p' = nI w from m3 5 (by omega)]
          rcases (by omega : j = 0 ∨ j = 1 ∨ j = 2 ∨ j = 3) with rfl | rfl | rfl | rfl
          · obtain ⟨r, M', T', u1, u2, u3⟩ := ac_wi5 (S0 5 (by omega)) a2
            simp only [if_pos (show nI 0 = 0 from rfl), b2_s u1, b2_s u2]
            exact fin 5 r M' T' _ (by omega) u3
          · obtain ⟨r, M', T', u1, u2, u3⟩ := ac_sw5 (S0 5 (by omega)) a2
            simp only [if_neg (show ¬ nI 1 = 0 by decide), if_pos (show nI 1 = 1 from rfl), b2_s u1, b2_s u2]
            exact fin 5 r M' T' _ (by omega) u3
          · obtain ⟨r, M', T', b', u1, u2, u3⟩ := ac_sh5 (S0 5 (by omega)) a2
            simp only [if_neg (show ¬ nI 2 = 0 by decide), if_neg (show ¬ nI 2 = 1 by decide), if_pos (show nI 2 = 2 from rfl), b2_s u1, b2_s u2]
            exact fin 5 r M' T' _ (by omega) u3
          · obtain ⟨r, M', T', b', u1, u2, u3⟩ := ac_te5 (S0 5 (by omega)) a2
            simp only [if_neg (show ¬ nI 3 = 0 by decide), if_neg (show ¬ nI 3 = 1 by decide), if_neg (show ¬ nI 3 = 2 by decide), b2_s u1, b2_s u2]
            exact fin 5 r M' T' _ (by omega) u3
  · rw [if_neg hz, if_pos (not_voterN3 _), isH, if_neg hz, b1_s rfl, if_pos rfl]
    exact ⟨0, _, _, rfl, by rw [ite_self], hR0⟩
