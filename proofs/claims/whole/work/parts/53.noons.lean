/-! NOONS: how the clock goes on, in both -/
theorem turn3 (s l : Int32) : fX11_turnOf s l = 1 ∨ fX11_turnOf s l = -1 ∨ fX11_turnOf s l = 0 := by
  unfold fX11_turnOf
  by_cases h1 : s ≤ l
  · rw [if_pos h1]
    by_cases h2 : -l ≤ s
    · rw [if_pos h2]; exact Or.inr (Or.inr rfl)
    · rw [if_neg h2]; exact Or.inr (Or.inl rfl)
  · rw [if_neg h1]; exact Or.inl rfl
def mvS (h : Nat) (b : Int32) : Nat := if b = 1 then (h + 1) % 24 else if b = -1 then (h + 23) % 24 else h
theorem mvS_lt {h : Nat} (hh : h < 24) (b : Int32) : mvS h b < 24 := by
  unfold mvS
  split
  · exact Nat.mod_lt _ (by omega)
  · split
    · exact Nat.mod_lt _ (by omega)
    · exact hh
theorem mvS_back {h : Nat} (hh : h < 24) {b : Int32} (hb : b = 1 ∨ b = -1 ∨ b = 0) : mvS (mvS h b) (-b) = h := by
  have e : ∀ h, h < 24 → mvS (mvS h 1) (-1) = h ∧ mvS (mvS h (-1)) (-(-1)) = h ∧ mvS (mvS h 0) (-0) = h := by decide +kernel
  obtain ⟨e1, e2, e3⟩ := e h hh
  rcases hb with rfl | rfl | rfl
  · exact e1
  · exact e2
  · exact e3
theorem neg3 {b : Int32} (hb : b = 1 ∨ b = -1 ∨ b = 0) : -b = 1 ∨ -b = -1 ∨ -b = 0 := by
  rcases hb with rfl | rfl | rfl
  · exact Or.inr (Or.inl rfl)
  · exact Or.inl rfl
  · exact Or.inr (Or.inr rfl)
theorem mv_c : ∀ h, h < 24 → fX11_moved (fun _ _ => 0) (nI h) 1 = some (nI (mvS h 1)) ∧ fX11_moved (fun _ _ => 0) (nI h) (-1) = some (nI (mvS h (-1))) ∧ fX11_moved (fun _ _ => 0) (nI h) 0 = some (nI (mvS h 0)) := by decide +kernel
theorem mv_m : ∀ h, h < 24 → fX12_around (nI h + 1) = nI (mvS h 1) ∧ fX12_around (nI h + (-1)) = nI (mvS h (-1)) ∧ fX12_around (nI h + 0) = nI (mvS h 0) := by decide +kernel
theorem moved_at (M : mM) {h : Nat} (hh : h < 24) {b : Int32} (hb : b = 1 ∨ b = -1 ∨ b = 0) : fX11_moved M (nI h) b = some (nI (mvS h b)) := by
  obtain ⟨e1, e2, e3⟩ := mv_c h hh
  rcases hb with rfl | rfl | rfl
  · exact e1
  · exact e2
  · exact e3
theorem around_at {h : Nat} (hh : h < 24) {b : Int32} (hb : b = 1 ∨ b = -1 ∨ b = 0) : fX12_around (nI h + b) = nI (mvS h b) := by
  obtain ⟨e1, e2, e3⟩ := mv_m h hh
  rcases hb with rfl | rfl | rfl
  · exact e1
  · exact e2
  · exact e3
/-- which way the clock is moved, and the HOUR then -/
def byS (X : mM) (li h aw : Nat) : Int32 := fX11_turnOf (SUM X h aw) (nI li)
def nextS (X : mM) (li h aw : Nat) : Nat := mvS h (byS X li h aw)
theorem nextS_lt {X : mM} {li h aw : Nat} (hh : h < 24) : nextS X li h aw < 24 := mvS_lt hh _
theorem byS3 (X : mM) (li h aw : Nat) : byS X li h aw = 1 ∨ byS X li h aw = -1 ∨ byS X li h aw = 0 := turn3 _ _
/-- what stands of the class's memory all along -/
def Cc (M0 : mM) (t : Nat → Int32) (n li : Nat) : Prop := Rl (nowC M0) t ∧ Vs (nowC M0) n ∧ M0 1 8 = nI li
theorem cSum {M0 M : mM} {t : Nat → Int32} {n li h aw : Nat} (hC : Cc M0 t n li) (hK : eqK M0 M) (hS : Rs M) (hh : h < 24) (ha : aw < 128) : ∃ M', fX11_sumAt M (nI h) (nI aw) = some (SUM (nowC M0) h aw, M') ∧ eqK M M' ∧ eqK M0 M' ∧ Rs M' := by
  obtain ⟨M', m1, m2, m3⟩ := sumAt_at hS (hK.L hC.1) (hC.2.1.keep hK.X) hh ha
  exact ⟨M', by rw [m1, SUM_eq hK.X], m2, hK.trans m2, m3⟩
theorem cHour {M0 M : mM} {t : Nat → Int32} {n li h aw : Nat} (hC : Cc M0 t n li) (hK : eqK M0 M) (hS : Rs M) (hh : h < 24) (ha : aw < 128) : ∃ M', fX11_hourBehind M (nI h) (nI aw) = some (nI (nextS (nowC M0) li h aw), M') ∧ eqK M M' ∧ eqK M0 M' ∧ Rs M' := by
  obtain ⟨M', m1, m2, m3, m4⟩ := cSum hC hK hS hh ha
  refine ⟨M', ?_, m2, m3, m4⟩
  unfold fX11_hourBehind
  rw [b2_s m1, show M' 1 8 = nI li from (congrFun (m3.1 1 (by omega) (by omega)) 8).trans hC.2.2, b1_s (moved_at M' hh (turn3 _ _))]
  rfl
-- the model
theorem moveBy_at {T : mM} {li : Nat} (h : T 1 3 = nI li) (s : Int32) : fX12_moveBy T s = some (fX11_turnOf s (nI li)) := by
  unfold fX12_moveBy fX11_turnOf
  rw [g3N, g3N, c3N, h]
  by_cases h1 : s ≤ nI li
  · rw [if_pos h1, if_pos h1]
    by_cases h2 : -nI li ≤ s
    · rw [if_pos h2, if_pos h2]
    · rw [if_neg h2, if_neg h2]
  · rw [if_neg h1, if_neg h1]
theorem turns_at {T : mM} {h : Nat} (hT : T 1 1 = nI h) (hh : h < 24) {b : Int32} (hb : b = 1 ∨ b = -1 ∨ b = 0) : fX12_turns T b = some (0, wr T 1 1 (nI (mvS h b))) := by
  unfold fX12_turns
  rw [g1N, g1N, c1N, hT, around_at hh hb]
theorem Vx.hour {X : mM} {t : Nat → Int32} {n aw h li h' : Nat} (hV : Vx X t n aw h li) (hh : h' < 24) : Vx X (upd t 1 (nI h')) n aw h' li := by
  obtain ⟨a, b, c, hv, hl⟩ := hV
  refine ⟨⟨a.1, a.2.1, hh, a.2.2.2⟩, b, ⟨by rw [upd_ne (by omega)]; exact c.1, upd_eq, by rw [upd_ne (by omega)]; exact c.2.2⟩, fun p hp => ?_, Rl_eq (fun _ _ _ => rfl) (fun k hk _ => upd_ne (by omega)) hl⟩
  obtain ⟨k, w, g, c', x1, x2, z1, z2, z3, z4, z5⟩ := hv p hp
  exact ⟨k, w, g, c', x1, x2, by rw [upd_ne (by omega)]; exact z1, by rw [upd_ne (by omega)]; exact z2, by rw [upd_ne (by omega)]; exact z3, by rw [upd_ne (by omega)]; exact z4, by rw [upd_ne (by omega)]; exact z5⟩
/-- all but the HOUR and who is awake -/
def offE (n : Nat) (t t' : Nat → Int32) : Prop := ∀ k, k ≠ 1 → (∀ p, p < n → k ≠ 12 + 5 * p) → t' k = t k
theorem offE.refl (n : Nat) (t : Nat → Int32) : offE n t t := fun _ _ _ => rfl
theorem offE.trans {n : Nat} {a b c : Nat → Int32} (h : offE n a b) (g : offE n b c) : offE n a c := fun k h1 h2 => (g k h1 h2).trans (h k h1 h2)
theorem offE.symm {n : Nat} {a b : Nat → Int32} (h : offE n a b) : offE n b a := fun k h1 h2 => (h k h1 h2).symm
theorem offE_hour (n : Nat) (t : Nat → Int32) (v : Int32) : offE n t (upd t 1 v) := fun _ h1 _ => upd_ne h1
theorem offE_bit {n p : Nat} (hp : p < n) (t : Nat → Int32) (v : Int32) : offE n t (upd t (12 + 5 * p) v) := fun _ _ h2 => upd_ne (h2 p hp)
theorem Vx_uniq {X : mM} {t t' : Nat → Int32} {n aw h li li' : Nat} (h1 : Vx X t n aw h li) (h2 : Vx X t' n aw h li') (ho : offE n t t') : t' = t := by
  funext k
  by_cases k1 : k = 1
  · rw [k1, h1.2.2.1.2.1, h2.2.2.1.2.1]
  · by_cases kp : ∃ p, p < n ∧ k = 12 + 5 * p
    · obtain ⟨p, hp, rfl⟩ := kp
      rw [bit_of (h1.2.2.2.1 p hp), bit_of (h2.2.2.2.1 p hp)]
    · exact ho k k1 (fun p hp e => kp ⟨p, hp, e⟩)
/-- a NOON in the model, nothing but the clock moved -/
theorem mNoon {X T : mM} {n aw h li : Nat} (hV : Vx X (T 1) n aw h li) : ∃ T1 : mM, fX12_sumNow T = some (SUM X h aw, T1) ∧ (∀ q, q ≠ 3 → T1 q = T q) ∧ fX12_moveBy T1 (SUM X h aw) = some (byS X li h aw) ∧ fX12_turns T1 (byS X li h aw) = some (0, wr T1 1 1 (nI (nextS X li h aw))) ∧ Vx X (wr T1 1 1 (nI (nextS X li h aw)) 1) n aw (nextS X li h aw) li ∧ offE n (T 1) (wr T1 1 1 (nI (nextS X li h aw)) 1) ∧ ∀ q, q ≠ 1 → q ≠ 3 → wr T1 1 1 (nI (nextS X li h aw)) q = T q := by
  obtain ⟨T1, t1, t2⟩ := sumNow_at hV
  have e1 : T1 1 = T 1 := t2 1 (by omega)
  obtain ⟨a, b, c, hv, hl⟩ := id hV
  refine ⟨T1, t1, t2, moveBy_at (by rw [e1]; exact c.2.2) _, turns_at (by rw [e1]; exact c.2.1) a.2.2.1 (byS3 _ _ _ _), ?_, ?_, fun q h1 h3 => (wr_q _ _ h1).trans (t2 q h3)⟩
  · rw [wr_row, e1]; exact hV.hour (nextS_lt a.2.2.1)
  · rw [wr_row, e1]; exact offE_hour _ _ _
-- what is left alone by a look ahead
theorem Rel.scr {M T M' T' : mM} (hR : Rel M T) (h1 : ∀ q, q ≠ 16 → q < 63 ∨ q = 67 → M' q = M q) (h2 : ∀ k, 5 ≤ k → M' 16 k = M 16 k) (hs : Rs M') (t1 : T' 1 = T 1) (ht : keepR T T') : Rel M' T' := by
  refine hR.now ?_ hs ⟨h1 0 (by omega) (by omega), fun q g1 g2 => h1 q (by omega) (by omega), h1 67 (by omega) (by omega)⟩ ht
  rw [t1]
  obtain ⟨⟨n, aw, hh, no, li, la, v1⟩, ⟨rp, v2⟩, v3⟩ := hR.1
  have e : ∀ q, q ≤ 14 → nowC M' q = nowC M q := fun q hq => h1 (1 + q) (by omega) (by omega)
  refine ⟨⟨n, aw, hh, no, li, la, ?_⟩, ⟨rp, ?_⟩, ?_⟩
  · unfold Rv Rvo at v1 ⊢
    rw [e 0 (by omega), e 1 (by omega), e 2 (by omega), e 3 (by omega), e 4 (by omega)]
    exact v1
  · unfold Rr at v2 ⊢
    rw [e 0 (by omega), e 5 (by omega), e 6 (by omega)]
    exact v2
  · refine Rl_cpy v3 ?_ (fun r _ => ?_) (fun j _ => ?_) (fun v g1 _ => h2 v g1) (fun _ _ _ => rfl)
    · rw [e 7 (by omega)]; exact ⟨rfl, rfl, rfl⟩
    · rw [e 8 (by omega), e 9 (by omega), e 10 (by omega), e 11 (by omega)]; exact ⟨rfl, rfl, rfl, rfl⟩
    · rw [e 12 (by omega), e 13 (by omega), e 14 (by omega)]; exact ⟨rfl, rfl, rfl⟩
theorem keepR_of {T T' : mM} (h0 : ∀ k, k = 2 ∨ k = 5 ∨ k = 20 ∨ k = 29 → T' 0 k = T 0 k) (h : ∀ q, q = 2 ∨ q = 4 ∨ 9 ≤ q → T' q = T q) : keepR T T' :=
  ⟨⟨h0 2 (by omega), h0 5 (by omega), h0 20 (by omega), h0 29 (by omega)⟩, h 2 (by omega), h 4 (by omega), fun q hq => h q (by omega)⟩
/-- the start of a look: both sides by their numbers -/
theorem Rel.look {M T : mM} (hR : Rel M T) : ∃ n aw h no li la : Nat, Rv (nowC M) (T 1) n aw h no li la ∧ Vx (nowC M) (T 1) n aw h li ∧ Cc M (T 1) n li ∧ aw < 128 ∧ h < 24 ∧ M 1 0 = nI n ∧ M 1 5 = nI aw ∧ M 1 6 = nI h ∧ M 1 8 = nI li := by
  obtain ⟨n, aw, h, no, li, la, hV, hX⟩ := Rp_Vx hR.1
  exact ⟨n, aw, h, no, li, la, hV, hX, ⟨hX.2.2.2.2, hX.vs, hV.2.1.2.2.2.2.1⟩, pow_le7 hX.1.1 hX.1.2.1, hX.1.2.2.1, hV.2.1.1, hV.2.1.2.1, hV.2.1.2.2.1, hV.2.1.2.2.2.2.1⟩
-- noon
theorem Rel.setHour {M T : mM} (hR : Rel M T) {h : Nat} (hh : h < 24) : Rel (wr M 1 6 (nI h)) (wr T 1 1 (nI h)) := by
  obtain ⟨v0, v1, v2, v3, v4, v5, v6⟩ := Rp_vals hR.1
  refine hR.scal 6 1 _ (by omega) (Rp_scal hR.1 (fun q h => wr_q _ _ (by omega)) (fun k h => upd_ne (by omega)) ⟨wr_k _ (by omega), wr_k _ (by omega), upd_ne (by omega)⟩ ⟨h, hh, wr_s _ _ _ _, upd_eq⟩ ?_ ?_ ?_ ?_ ?_)
  · rw [wr_k _ (by omega), upd_ne (by omega)]; exact v2
  · rw [wr_k _ (by omega), upd_ne (by omega)]; exact v3
  · rw [wr_k _ (by omega), upd_ne (by omega)]; exact v4
  · rw [wr_k _ (by omega), upd_ne (by omega)]; exact v5
  · exact Or.inl ⟨wr_k _ (by omega), upd_ne (by omega)⟩
theorem Rel.setLag {M T : mM} (hR : Rel M T) {h : Nat} (hh : h < 24) : Rel (wr M 1 9 (nI h)) (wr T 1 4 (nI h)) := by
  obtain ⟨v0, v1, v2, v3, v4, v5, v6⟩ := Rp_vals hR.1
  refine hR.scal 9 4 _ (by omega) (Rp_scal hR.1 (fun q h => wr_q _ _ (by omega)) (fun k h => upd_ne (by omega)) ⟨wr_k _ (by omega), wr_k _ (by omega), upd_ne (by omega)⟩ ?_ ?_ ?_ ⟨h, hh, wr_s _ _ _ _, upd_eq⟩ ?_ ?_)
  · rw [wr_k _ (by omega), upd_ne (by omega)]; exact v1
  · rw [wr_k _ (by omega), upd_ne (by omega)]; exact v2
  · rw [wr_k _ (by omega), upd_ne (by omega)]; exact v3
  · rw [wr_k _ (by omega), upd_ne (by omega)]; exact v5
  · exact Or.inl ⟨wr_k _ (by omega), upd_ne (by omega)⟩
theorem Rel.setNoons {M T : mM} (hR : Rel M T) {h : Nat} (hh : h ≤ 9999) : Rel (wr M 1 7 (nI h)) (wr T 1 2 (nI h)) := by
  obtain ⟨v0, v1, v2, v3, v4, v5, v6⟩ := Rp_vals hR.1
  refine hR.scal 7 2 _ (by omega) (Rp_scal hR.1 (fun q h => wr_q _ _ (by omega)) (fun k h => upd_ne (by omega)) ⟨wr_k _ (by omega), wr_k _ (by omega), upd_ne (by omega)⟩ ?_ ⟨h, hh, wr_s _ _ _ _, upd_eq⟩ ?_ ?_ ?_ ?_)
  · rw [wr_k _ (by omega), upd_ne (by omega)]; exact v1
  · rw [wr_k _ (by omega), upd_ne (by omega)]; exact v3
  · rw [wr_k _ (by omega), upd_ne (by omega)]; exact v4
  · rw [wr_k _ (by omega), upd_ne (by omega)]; exact v5
  · exact Or.inl ⟨wr_k _ (by omega), upd_ne (by omega)⟩
/-- a NOON goes on in both, by any sum -/
theorem goOn_both {M T : mM} (hR : Rel M T) {n aw h no li la : Nat} (hV : Rv (nowC M) (T 1) n aw h no li la) (hno : no < 9999) (s : Int32) :
    ∃ (r : Int32) (M' T' : mM), fX4_goOn_q1 M (fX11_turnOf s (nI li)) = some (r, M') ∧ fX12_noonBy T s = some (r, T') ∧ Rel M' T' := by
  obtain ⟨a, b, c, hv⟩ := id hV
  have hb := turn3 s (nI li)
  refine ⟨nI (mvS h (fX11_turnOf s (nI li))), wr (wr (wr M 1 6 (nI (mvS h (fX11_turnOf s (nI li))))) 1 9 (nI (mvS la (fX11_turnOf s (nI li))))) 1 7 (nI (no + 1)), wr (wr (wr T 1 1 (nI (mvS h (fX11_turnOf s (nI li))))) 1 4 (nI (mvS la (fX11_turnOf s (nI li))))) 1 2 (nI (no + 1)), ?_, ?_, ((hR.setHour (mvS_lt a.2.2.1 _)).setLag (mvS_lt a.2.2.2.2.2 _)).setNoons (by omega)⟩
  · unfold fX4_goOn_q1
    have w1 : wr M 1 6 (nI (mvS h (fX11_turnOf s (nI li)))) 1 9 = nI la := by rw [wr_k _ (by omega)]; exact b.2.2.2.2.2
    have w2 : wr (wr M 1 6 (nI (mvS h (fX11_turnOf s (nI li))))) 1 9 (nI (mvS la (fX11_turnOf s (nI li)))) 1 7 = nI no := by rw [wr_k _ (by omega), wr_k _ (by omega)]; exact b.2.2.2.1
    rw [show M 1 6 = nI h from b.2.2.1, b1_s (moved_at M a.2.2.1 hb), w1, b1_s (moved_at _ a.2.2.2.2.2 hb), w2, nI_1]
    rw [wr_k _ (by omega), wr_k _ (by omega), wr_s]
  · unfold fX12_noonBy
    have w1 : wr T 1 1 (nI (mvS h (fX11_turnOf s (nI li)))) 1 4 = nI la := by rw [wr_k _ (by omega)]; exact c.2.2.2.2.1
    have w2 : wr (wr T 1 1 (nI (mvS h (fX11_turnOf s (nI li))))) 1 4 (nI (mvS la (fX11_turnOf s (nI li)))) 1 2 = nI no := by rw [wr_k _ (by omega), wr_k _ (by omega)]; exact c.2.2.1
    simp only [g4N, g2N, g1N, c4N, c2N, c1N]
    rw [b1_s (moveBy_at c.2.2.2.1 s), b2_s (turns_at c.2.1 a.2.2.1 hb), w1, around_at a.2.2.2.2.2 hb, w2, nI_1]
    rw [wr_k _ (by omega), wr_k _ (by omega), wr_s]
theorem pm_noon {M T : mM} (hR : Rel M T) : ∃ (r : Int32) (M' : mM) (T' : mM), fX11_noon M = some (r, M') ∧ fX12_noon T = some (r, T') ∧ Rel M' T' := by
  obtain ⟨n, aw, h, no, li, la, hV, hX, hC, a128, h24, n2, a5, h6, l8⟩ := hR.look
  unfold fX11_noon fX12_noon
  rw [show M 1 7 = nI no from hV.2.1.2.2.2.1, g2N, c2N, show T 1 2 = nI no from hV.2.2.1.2.2.1]
  by_cases h9 : no = 9999
  · subst h9
    exact ⟨-4, M, T, by rw [if_neg (by decide)], by rw [if_pos (by decide)], hR⟩
  · have hno : no < 9999 := by have := hV.1.2.2.2.1; omega
    rw [if_pos (show nI no < 9999 from nI_lt (b := 9999) hno (by omega)), if_neg (show ¬ nI no = 9999 from fun q => h9 ((nI_eq (b := 9999) (by omega) (by omega)).mp q))]
    obtain ⟨M', m1, m2, m3⟩ := sumAt_at hR.2.1 hX.2.2.2.2 hX.vs h24 a128
    obtain ⟨T', t1, t2⟩ := sumNow_at hX
    have hR' := hR.eqK m2 m3 t2
    have hV' : Rv (nowC M') (T' 1) n aw h no li la := by
      rw [t2 1 (by omega)]
      have e : ∀ q, q ≤ 14 → nowC M' q = nowC M q := fun q hq => m2.1 (1 + q) (by omega) (by omega)
      unfold Rv Rvo at hV ⊢
      rw [e 0 (by omega), e 1 (by omega), e 2 (by omega), e 3 (by omega), e 4 (by omega)]
      exact hV
    obtain ⟨r, M2, T2, r1, r2, r3⟩ := goOn_both hR' hV' hno (SUM (nowC M) h aw)
    refine ⟨r, M2, T2, ?_, ?_, r3⟩
    · have e : fX11_turnNow M = some (fX11_turnOf (SUM (nowC M) h aw) (nI li), M') := by
        unfold fX11_turnNow
        rw [h6, a5, b2_s m1, show M' 1 8 = nI li from hV'.2.1.2.2.2.2.1]
      rw [b2_s e, b2_s r1]
    · rw [b2_s t1, b2_s r2]
-- on
def itS (g : Nat → Nat) : Nat → Nat → Nat
  | 0, h => h
  | k + 1, h => itS g k (g h)
theorem itS_lt {g : Nat → Nat} (hg : ∀ h, h < 24 → g h < 24) : ∀ k h, h < 24 → itS g k h < 24 := by
  intro k
  induction k with
  | zero => intro h hh; exact hh
  | succ k ih => intro h hh; exact ih (g h) (hg h hh)
theorem hourAfterL {M0 : mM} {t : Nat → Int32} {n li aw : Nat} (hC : Cc M0 t n li) (ha : aw < 128) (h5 : M0 1 5 = nI aw) : ∀ (d k e h fuel : Nat) (M : mM), eqK M0 M → Rs M → h < 24 → k + d = e → e < 2 ^ 31 → d < fuel →
    ∃ M', fX11_hourAfter_L5 fuel M (nI e) (nI h) (nI k) = some (nI (itS (fun h => nextS (nowC M0) li h aw) d h), M') ∧ eqK M0 M' ∧ Rs M' := by
  intro d
  induction d with
  | zero =>
    intro k e h fuel M hK hS hh hk he hf
    obtain ⟨j, rfl⟩ : ∃ j, fuel = j + 1 := ⟨fuel - 1, by omega⟩
    refine ⟨M, ?_, hK, hS⟩
    show fX11_hourAfter_L5_b (fX11_hourAfter_L5 j) M (nI e) (nI h) (nI k) = _
    unfold fX11_hourAfter_L5_b
    rw [if_pos (nI_le (by omega) (by omega))]
    rfl
  | succ d ih =>
    intro k e h fuel M hK hS hh hk he hf
    obtain ⟨j, rfl⟩ : ∃ j, fuel = j + 1 := ⟨fuel - 1, by omega⟩
    obtain ⟨M1, m1, -, m2, m3⟩ := cHour hC hK hS hh ha
    obtain ⟨M2, u1, u2, u3⟩ := ih (k + 1) e _ j M1 m2 m3 (nextS_lt (li := li) (aw := aw) (X := nowC M0) hh) (by omega) he (by omega)
    refine ⟨M2, ?_, u2, u3⟩
    show fX11_hourAfter_L5_b (fX11_hourAfter_L5 j) M (nI e) (nI h) (nI k) = _
    unfold fX11_hourAfter_L5_b
    rw [if_neg (nI_ge (by omega) he), show M 1 5 = nI aw from (congrFun (hK.1 1 (by omega) (by omega)) 5).trans h5, b2_s m1, nI_1, u1]
    rfl
theorem hourAfter_at {M0 M : mM} {t : Nat → Int32} {n li aw : Nat} (hC : Cc M0 t n li) (ha : aw < 128) (h5 : M0 1 5 = nI aw) (hK : eqK M0 M) (hS : Rs M) {h : Nat} (hh : h < 24) {d : Nat} (hd : d < 5000) :
    ∃ M', fX11_hourAfter M (nI h) (nI d) = some (nI (itS (fun h => nextS (nowC M0) li h aw) d h), M') ∧ eqK M0 M' ∧ Rs M' :=
  hourAfterL hC ha h5 d 0 d h 5000 M hK hS hh (by omega) (by omega) hd
theorem thinks_at {T : mM} {h : Nat} (hT : T 1 1 = nI h) : fX12_thinks T = some (0, wr T 0 12 (nI h)) := by
  unfold fX12_thinks
  rw [g1N, c1N, hT]
theorem laysBack_at (T : mM) : fX12_laysBack T = some (0, wr T 1 1 (T 0 12)) := by
  unfold fX12_laysBack
  rw [g1N, c1N]
/-- after laying the HOUR back, the model's row is as it was -/
theorem laid {X T0 T : mM} {n aw h h' li li' : Nat} (h0 : Vx X (T0 1) n aw h li) (hT : Vx X (T 1) n aw h' li') (ho : offE n (T0 1) (T 1)) (h12 : T 0 12 = nI h) : wr T 1 1 (T 0 12) 1 = T0 1 := by
  rw [wr_row, h12]
  exact Vx_uniq h0 (hT.hour h0.1.2.2.1) (ho.trans (offE_hour _ _ _))
theorem onL {X T0 : mM} {n aw li h0 : Nat} (hV0 : Vx X (T0 1) n aw h0 li) : ∀ (d k e h fuel : Nat) (T : mM), Vx X (T 1) n aw h li → offE n (T0 1) (T 1) → (∀ q, q ≠ 0 → q ≠ 1 → q ≠ 3 → T q = T0 q) → T 0 = upd (T0 0) 12 (nI h0) → k + d = e → e < 2 ^ 31 → d < fuel →
    ∃ T', fX12_on_L20 fuel T (nI e) (nI k) = some (nI (itS (fun h => nextS X li h aw) d h), T') ∧ T' 1 = T0 1 ∧ (∀ q, q ≠ 0 → q ≠ 1 → q ≠ 3 → T' q = T0 q) ∧ T' 0 = upd (T0 0) 12 (nI h0) := by
  intro d
  induction d with
  | zero =>
    intro k e h fuel T hV ho hq h12 hk he hf
    obtain ⟨j, rfl⟩ : ∃ j, fuel = j + 1 := ⟨fuel - 1, by omega⟩
    have h12' : T 0 12 = nI h0 := by rw [h12, upd_eq]
    refine ⟨wr T 1 1 (T 0 12), ?_, laid hV0 hV ho h12', fun q h0 h1 h3 => (wr_q _ _ h1).trans (hq q h0 h1 h3), (wr_q _ _ (by omega)).trans h12⟩
    show fX12_on_L20_b (fX12_on_L20 j) T (nI e) (nI k) = _
    unfold fX12_on_L20_b
    rw [if_pos (nI_le (by omega) (by omega)), g1N, b2_s (laysBack_at T), c1N, hV.2.2.1.2.1]
    rfl
  | succ d ih =>
    intro k e h fuel T hV ho hq h12 hk he hf
    obtain ⟨j, rfl⟩ : ∃ j, fuel = j + 1 := ⟨fuel - 1, by omega⟩
    obtain ⟨T1, t1, t2, t3, t4, t5, t6, t7⟩ := mNoon hV
    obtain ⟨T2, u1, u2⟩ := ih (k + 1) e _ j _ t5 (ho.trans t6) (fun q h0 h1 h3 => (t7 q h1 h3).trans (hq q h0 h1 h3)) ((t7 0 (by omega) (by omega)).trans h12) (by omega) he (by omega)
    refine ⟨T2, ?_, u2⟩
    show fX12_on_L20_b (fX12_on_L20 j) T (nI e) (nI k) = _
    unfold fX12_on_L20_b
    rw [if_neg (nI_ge (by omega) he), b2_s t1, b1_s t3, b2_s t4, nI_1, u1]
    rfl
theorem pm_on {M T : mM} (hR : Rel M T) (a0 : Int32) : ∃ (r : Int32) (M' : mM) (T' : mM), fX11_on M a0 = some (r, M') ∧ fX12_on T a0 = some (r, T') ∧ Rel M' T' := by
  obtain ⟨n, aw, h, no, li, la, hV, hX, hC, a128, h24, n2, a5, h6, l8⟩ := hR.look
  unfold fX11_on fX12_on
  rw [show fX12_in (Int32.toInt64 a0) 0 60 = fX11_isIn a0 0 60 from in_eq a0 0 60]
  by_cases h1 : fX11_isIn a0 0 60 = 0
  · exact ⟨-1, M, T, by rw [if_pos h1], by rw [if_pos h1], hR⟩
  rw [if_neg h1, if_neg h1]
  obtain ⟨d, -, hd, rfl⟩ := isIn_yes (a := 0) (b := 60) (by omega) (by omega) h1
  obtain ⟨M', m1, m2, m3⟩ := hourAfter_at hC a128 a5 (eqK.refl M) hR.2.1 h24 (show d < 5000 by omega)
  have e0 : wr T 0 12 (nI h) 1 = T 1 := wr_q _ _ (by omega)
  obtain ⟨T', t1, t2, t3, t4⟩ := onL hX d 0 d h 5000 (wr T 0 12 (nI h)) (by rw [e0]; exact hX) (by rw [e0]; exact offE.refl _ _) (fun q g0 _ _ => wr_q _ _ g0) (wr_row _ _ _ _) (by omega) (by omega) (by omega)
  refine ⟨nI (itS (fun h => nextS (nowC M) li h aw) d h), M', T', ?_, ?_, hR.scr (fun q g1 g2 => m2.1 q g1 (by omega)) m2.2 m3 t2 (keepR_of (fun k hk => by rw [t4, upd_ne (by omega)]) (fun q hq => t3 q (by omega) (by omega) (by omega)))⟩
  · rw [h6, b2_s m1]
  · rw [b2_s (thinks_at hX.2.2.1.2.1)]
    exact t1
-- when
theorem whenL {M0 T0 : mM} {n aw li h0 g : Nat} (hC : Cc M0 (T0 1) n li) (ha : aw < 128) (h5 : M0 1 5 = nI aw) (hV0 : Vx (nowC M0) (T0 1) n aw h0 li) (hg : g < 24) : ∀ (d k h fuel : Nat) (M T : mM), eqK M0 M → Rs M → Vx (nowC M0) (T 1) n aw h li → offE n (T0 1) (T 1) → (∀ q, q ≠ 0 → q ≠ 1 → q ≠ 3 → T q = T0 q) → T 0 = upd (T0 0) 12 (nI h0) → k + d = 61 → d < fuel →
    ∃ (r : Int32) (M' T' : mM), fX11_when_L19 fuel M (nI g) (nI h) (nI k) = some (r, M') ∧ fX12_when_L15 fuel T (nI g) (nI k) = some (r, T') ∧ (eqK M0 M' ∧ Rs M') ∧ T' 1 = T0 1 ∧ (∀ q, q ≠ 0 → q ≠ 1 → q ≠ 3 → T' q = T0 q) ∧ T' 0 = upd (T0 0) 12 (nI h0) := by
  intro d
  induction d with
  | zero =>
    intro k h fuel M T hK hS hV ho hq h12 hk hf
    obtain ⟨j, rfl⟩ : ∃ j, fuel = j + 1 := ⟨fuel - 1, by omega⟩
    have h12' : T 0 12 = nI h0 := by rw [h12, upd_eq]
    have hk' : k = 61 := by omega
    subst hk'
    refine ⟨-3, M, wr T 1 1 (T 0 12), ?_, ?_, ⟨hK, hS⟩, laid hV0 hV ho h12', fun q h0 h1 h3 => (wr_q _ _ h1).trans (hq q h0 h1 h3), (wr_q _ _ (by omega)).trans h12⟩
    · show fX11_when_L19_b (fX11_when_L19 j) M (nI g) (nI h) (nI 61) = _
      unfold fX11_when_L19_b
      rw [if_pos (by decide)]
    · show fX12_when_L15_b (fX12_when_L15 j) T (nI g) (nI 61) = _
      unfold fX12_when_L15_b fX12_when_L49
      rw [if_pos (by decide), b2_s (laysBack_at T), if_pos (by decide)]
  | succ d ih =>
    intro k h fuel M T hK hS hV ho hq h12 hk hf
    obtain ⟨j, rfl⟩ : ∃ j, fuel = j + 1 := ⟨fuel - 1, by omega⟩
    have h12' : T 0 12 = nI h0 := by rw [h12, upd_eq]
    have k60 : ¬ (60 : Int32) < nI k := nI_nlt (a := 60) (by omega) (by omega)
    have hh := hV.1.2.2.1
    by_cases e : h = g
    · subst e
      refine ⟨nI k, M, wr T 1 1 (T 0 12), ?_, ?_, ⟨hK, hS⟩, laid hV0 hV ho h12', fun q h0 h1 h3 => (wr_q _ _ h1).trans (hq q h0 h1 h3), (wr_q _ _ (by omega)).trans h12⟩
      · show fX11_when_L19_b (fX11_when_L19 j) M (nI h) (nI h) (nI k) = _
        unfold fX11_when_L19_b
        rw [if_neg k60, if_pos rfl]
      · show fX12_when_L15_b (fX12_when_L15 j) T (nI h) (nI k) = _
        unfold fX12_when_L15_b fX12_when_L49
        rw [if_neg k60, g1N, c1N, hV.2.2.1.2.1, if_pos rfl, b2_s (laysBack_at T), if_neg k60]
    · have e' : ¬ nI h = nI g := fun q => e ((nI_eq (by omega) (by omega)).mp q)
      obtain ⟨M1, m1, m2, m3⟩ := hourAfter_at hC ha h5 hK hS hh (show 1 < 5000 by omega)
      obtain ⟨T1, t1, t2, t3, t4, t5, t6, t7⟩ := mNoon hV
      obtain ⟨r, M2, T2, u1, u2, u3⟩ := ih (k + 1) _ j M1 _ m2 m3 t5 (ho.trans t6) (fun q h0 h1 h3 => (t7 q h1 h3).trans (hq q h0 h1 h3)) ((t7 0 (by omega) (by omega)).trans h12) (by omega) (by omega)
      refine ⟨r, M2, T2, ?_, ?_, u3⟩
      · show fX11_when_L19_b (fX11_when_L19 j) M (nI g) (nI h) (nI k) = _
        unfold fX11_when_L19_b
        rw [if_neg k60, if_neg e', b2_s (show fX11_hourAfter M (nI h) 1 = _ from m1), nI_1]
        exact u1
      · show fX12_when_L15_b (fX12_when_L15 j) T (nI g) (nI k) = _
        unfold fX12_when_L15_b
        rw [if_neg k60, g1N, c1N, hV.2.2.1.2.1, if_neg e', b2_s t1, b1_s t3, b2_s t4, nI_1]
        exact u2
theorem pm_when {M T : mM} (hR : Rel M T) (a0 : Int32) : ∃ (r : Int32) (M' : mM) (T' : mM), fX11_when M a0 = some (r, M') ∧ fX12_when T a0 = some (r, T') ∧ Rel M' T' := by
  obtain ⟨n, aw, h, no, li, la, hV, hX, hC, a128, h24, n2, a5, h6, l8⟩ := hR.look
  unfold fX11_when fX12_when
  rw [isHour_eq]
  by_cases h1 : fX11_isHour a0 = 0
  · exact ⟨-1, M, T, by rw [if_pos h1], by rw [if_pos h1], hR⟩
  rw [if_neg h1, if_neg h1]
  obtain ⟨g, hg, rfl⟩ := isHour_yes h1
  have e0 : wr T 0 12 (nI h) 1 = T 1 := wr_q _ _ (by omega)
  obtain ⟨r, M', T', r1, r2, ⟨m2, m3⟩, t2, t3, t4⟩ := whenL hC a128 a5 hX hg 61 0 h 5000 M (wr T 0 12 (nI h)) (eqK.refl M) hR.2.1 (by rw [e0]; exact hX) (by rw [e0]; exact offE.refl _ _) (fun q g0 _ _ => wr_q _ _ g0) (wr_row _ _ _ _) (by omega) (by omega)
  refine ⟨r, M', T', ?_, ?_, hR.scr (fun q g1 g2 => m2.1 q g1 (by omega)) m2.2 m3 t2 (keepR_of (fun k hk => by rw [t4, upd_ne (by omega)]) (fun q hq => t3 q (by omega) (by omega) (by omega)))⟩
  · rw [h6]; exact r1
  · rw [b2_s (thinks_at hX.2.2.1.2.1)]
    exact r2
