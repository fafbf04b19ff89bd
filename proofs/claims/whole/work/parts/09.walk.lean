set_option maxHeartbeats 4000000 in
set_option maxRecDepth 100000 in
theorem cX11_isIn (V : mV) (l : Launch) (M : mM) (p0 : Int32) (p1 : Int32) (p2 : Int32) (r : Int32) (hf : fX11_isIn p0 p1 p2 = r) : ZC V l yX11_isIn cX11_isIn 3 ({ frames := 0, cells := 0, slots := 0, locals := 0 } : Room) [.int p0, .int p1, .int p2] M r M := by
  unfold fX11_isIn at hf
  refine mw_enterZ RX11 rfl (by decide) (Nat.le_of_ble_eq_true rfl) (fun {p e s m args below meth c} ls A Q hC hret hM hl => ?_)
  have hl : lv_has ls 3 [(0, .int p0), (1, .int p1), (2, .int p2)] := hl
  refine lv_iload_n hC.1 hC.2.1 dX11_isIn_0 rfl (lv_at hl 0 rfl) ?_
  refine lv_iload_n hC.1 hC.2.1 dX11_isIn_1 rfl (lv_at hl 1 rfl) ?_
  refine lv_icmp_lt (tgt := 14) hC.1 hC.2.1 dX11_isIn_2 (by decide) (fun hc2 => ?_) (fun hc2 => ?_)
  · have hf := o_t hc2 hf
    refine lv_iconst hC.1 hC.2.1 dX11_isIn_14 ci_0 ?_
    exact hret hf (Or.inl rfl) hM dX11_isIn_15
  · have hf := o_f hc2 hf
    refine lv_iload_n hC.1 hC.2.1 dX11_isIn_5 rfl (lv_at hl 0 rfl) ?_
    refine lv_iload_n hC.1 hC.2.1 dX11_isIn_6 rfl (lv_at hl 2 rfl) ?_
    refine lv_icmp_gt (tgt := 14) hC.1 hC.2.1 dX11_isIn_7 (by decide) (fun hc1 => ?_) (fun hc1 => ?_)
    · have hf := o_t hc1 hf
      refine lv_iconst hC.1 hC.2.1 dX11_isIn_14 ci_0 ?_
      exact hret hf (Or.inl rfl) hM dX11_isIn_15
    · have hf := o_f hc1 hf
      refine lv_iconst hC.1 hC.2.1 dX11_isIn_10 ci_1 ?_
      refine lv_goto (tgt := 15) hC.1 hC.2.1 dX11_isIn_11 (by decide) ?_
      exact hret hf (Or.inr rfl) hM dX11_isIn_15
set_option maxHeartbeats 4000000 in
set_option maxRecDepth 100000 in
theorem cX11_isHour (V : mV) (l : Launch) (M : mM) (p0 : Int32) (r : Int32) (hf : fX11_isHour p0 = r) : ZC V l yX11_isHour cX11_isHour 1 ({ frames := 1, cells := 0, slots := 0, locals := 22 } : Room) [.int p0] M r M := by
  unfold fX11_isHour at hf
  refine mw_enterZ RX11 rfl (by decide) (Nat.le_of_ble_eq_true rfl) (fun {p e s m args below meth c} ls A Q hC hret hM hl => ?_)
  have hl : lv_has ls 1 [(0, .int p0)] := hl
  refine lv_iload_n hC.1 hC.2.1 dX11_isHour_0 rfl (lv_at hl 0 rfl) ?_
  refine lv_iconst hC.1 hC.2.1 dX11_isHour_1 ci_0 ?_
  refine lv_bipush hC.1 hC.2.1 dX11_isHour_2 cb_23 ?_
  refine mw_cSi (As := [.int p0, .int 0, .int 23]) (rest := []) hC hM (cX11_isIn V l M p0 0 23 _ rfl) (mw_kS hC q_468 q_469 q_107 q_470 ⟨rfl, rfl⟩ kS_X11_isIn ⟨Nat.le_of_ble_eq_true rfl, Nat.le_of_ble_eq_true rfl⟩) rfl rfl (Nat.le_of_ble_eq_true rfl) hl.1 dX11_isHour_4 (fun H locs hM hb1 => ?_)
  exact hret hf hb1 hM dX11_isHour_7
set_option maxHeartbeats 4000000 in
set_option maxRecDepth 100000 in
theorem cX11_suits (V : mV) (l : Launch) (M : mM) (p0 : Int32) (p1 : Int32) (r : Int32) (hf : fX11_suits p0 p1 = r) : ZC V l yX11_suits cX11_suits 2 ({ frames := 2, cells := 0, slots := 0, locals := 42 } : Room) [.int p0, .int p1] M r M := by
  unfold fX11_suits at hf
  refine mw_enterZ RX11 rfl (by decide) (Nat.le_of_ble_eq_true rfl) (fun {p e s m args below meth c} ls A Q hC hret hM hl => ?_)
  have hl : lv_has ls 2 [(0, .int p0), (1, .int p1)] := hl
  refine lv_iload_n hC.1 hC.2.1 dX11_suits_0 rfl (lv_at hl 0 rfl) ?_
  by_cases hc2 : p0 = 1
  · have hf := o_t hc2 hf
    refine lv_tableIn (off := 27) (tgt := 28) hC.1 hC.2.1 dX11_suits_1 (by rw [hc2]; decide) (by rw [hc2]; decide) (by rw [hc2]; rfl) (by decide) ?_
    refine lv_iload_n hC.1 hC.2.1 dX11_suits_28 rfl (lv_at hl 1 rfl) ?_
    refine mw_cSi (As := [.int p1]) (rest := []) hC hM (cX11_isHour V l M p1 _ rfl) (mw_kS hC q_474 q_475 q_107 q_476 ⟨rfl, rfl⟩ kS_X11_isHour ⟨Nat.le_of_ble_eq_true rfl, Nat.le_of_ble_eq_true rfl⟩) rfl rfl (Nat.le_of_ble_eq_true rfl) hl.1 dX11_suits_29 (fun H locs hM hb1 => ?_)
    exact hret hf hb1 hM dX11_suits_32
  have hf := o_f hc2 hf
  by_cases hc4 : p0 = 2
  · have hf := o_t hc4 hf
    refine lv_tableIn (off := 32) (tgt := 33) hC.1 hC.2.1 dX11_suits_1 (by rw [hc4]; decide) (by rw [hc4]; decide) (by rw [hc4]; rfl) (by decide) ?_
    refine lv_iload_n hC.1 hC.2.1 dX11_suits_33 rfl (lv_at hl 1 rfl) ?_
    refine lv_iconst hC.1 hC.2.1 dX11_suits_34 ci_1 ?_
    refine lv_bipush hC.1 hC.2.1 dX11_suits_35 cb_9 ?_
    refine mw_cSi (As := [.int p1, .int 1, .int 9]) (rest := []) hC hM (cX11_isIn V l M p1 1 9 _ rfl) (mw_kS hC q_468 q_469 q_107 q_470 ⟨rfl, rfl⟩ kS_X11_isIn ⟨Nat.le_of_ble_eq_true rfl, Nat.le_of_ble_eq_true rfl⟩) rfl rfl (Nat.le_of_ble_eq_true rfl) hl.1 dX11_suits_37 (fun H locs hM hb3 => ?_)
    exact hret hf hb3 hM dX11_suits_40
  have hf := o_f hc4 hf
  by_cases hc6 : p0 = 3
  · have hf := o_t hc6 hf
    refine lv_tableIn (off := 40) (tgt := 41) hC.1 hC.2.1 dX11_suits_1 (by rw [hc6]; decide) (by rw [hc6]; decide) (by rw [hc6]; rfl) (by decide) ?_
    refine lv_iload_n hC.1 hC.2.1 dX11_suits_41 rfl (lv_at hl 1 rfl) ?_
    refine lv_iconst hC.1 hC.2.1 dX11_suits_42 ci_0 ?_
    refine lv_bipush hC.1 hC.2.1 dX11_suits_43 cb_99 ?_
    refine mw_cSi (As := [.int p1, .int 0, .int 99]) (rest := []) hC hM (cX11_isIn V l M p1 0 99 _ rfl) (mw_kS hC q_468 q_469 q_107 q_470 ⟨rfl, rfl⟩ kS_X11_isIn ⟨Nat.le_of_ble_eq_true rfl, Nat.le_of_ble_eq_true rfl⟩) rfl rfl (Nat.le_of_ble_eq_true rfl) hl.1 dX11_suits_45 (fun H locs hM hb5 => ?_)
    exact hret hf hb5 hM dX11_suits_48
  have hf := o_f hc6 hf
  have hc2 := sw_ne (k := 1) (v := 1) rfl hc2
  have hc4 := sw_ne (k := 2) (v := 2) rfl hc4
  have hc6 := sw_ne (k := 3) (v := 3) rfl hc6
  refine lv_tableOut (tgt := 49) hC.1 hC.2.1 dX11_suits_1 (by omega) (by decide) ?_
  refine lv_iconst hC.1 hC.2.1 dX11_suits_49 ci_0 ?_
  exact hret hf (Or.inl rfl) hM dX11_suits_50
set_option maxHeartbeats 4000000 in
set_option maxRecDepth 100000 in
theorem cJ7_fill_53178C_q63 (V : mV) (l : Launch) (M : mM) (p1 : Int32) (r : Int32) (M' : mM) (hf : fJ7_fill_53178C_q63 M p1 = some (r, M')) : UC V l yJ7_fill_53178 cJ7_fill_53178 4 ({ frames := 0, cells := 0, slots := 0, locals := 0 } : Room) [.ref (mvA V 63), .int p1] M M' := by
  unfold fJ7_fill_53178C_q63 at hf
  refine mw_enterV RJ7 rfl (by decide) (Nat.le_of_ble_eq_true rfl) (fun {p e s m args below meth c} ls A Q hC hret hM hl => ?_)
  have hl : lv_has ls 4 [(0, .ref (mvA V 63)), (1, .int p1)] := hl
  have hL5 : ∀ (n : Nat) (M : mM) (x1 : Int32) (x2 : Int32) (x3 : Int32) (H : Heap) (locs : List Loc) (ls : Array Slot), fJ7_fill_53178C_q63_L5 n M x1 x2 x3 = some (r, M') → PC V M A s H locs → lv_has ls 4 [(0, .ref (mvA V 63)), (1, .int x1), (2, .int x2), (3, .int x3)] → W p l e ({ frames := 0, cells := 0, slots := 0, locals := 0 } : Room) s m args below meth c H locs 0 0 Q (F0 m 5 ls []) := by
    intro n5
    induction n5 with
    | zero => intro M x1 x2 x3 H locs ls hf; cases hf
    | succ n5 ih5 =>
      intro M x1 x2 x3 H locs ls hf hM hl
      have hf : fJ7_fill_53178C_q63_L5_b (fJ7_fill_53178C_q63_L5 n5) M x1 x2 x3 = some (r, M') := hf
      unfold fJ7_fill_53178C_q63_L5_b at hf
      refine lv_iload_n hC.1 hC.2.1 dJ7_fill_53178_5 rfl (lv_at hl 2 rfl) ?_
      refine lv_iload_n hC.1 hC.2.1 dJ7_fill_53178_6 rfl (lv_at hl 3 rfl) ?_
      refine lv_icmp_ge (tgt := 20) hC.1 hC.2.1 dJ7_fill_53178_7 (by decide) (fun hc2 => ?_) (fun hc2 => ?_)
      · have hf := o_t hc2 hf
        exact hret (o_r2 hf hM) dJ7_fill_53178_20
      · have hf := o_f hc2 hf
        refine lv_aload_n hC.1 hC.2.1 dJ7_fill_53178_10 rfl (lv_at hl 0 rfl) ?_
        refine lv_iload_n hC.1 hC.2.1 dJ7_fill_53178_11 rfl (lv_at hl 2 rfl) ?_
        refine lv_iload_n hC.1 hC.2.1 dJ7_fill_53178_12 rfl (lv_at hl 1 rfl) ?_
        obtain ⟨hg1, hf⟩ := o_g hf
        refine mw_iast hC hM 63 0 (Nat.le_of_ble_eq_true rfl) (eC_63 V) rfl hg1 dJ7_fill_53178_13 (fun H locs hM => ?_)
        refine lv_iinc (k := 2) (lv' := [(2, .int (x2 + 1)), (0, .ref (mvA V 63)), (1, .int x1), (3, .int x3)]) hC.1 hC.2.1 dJ7_fill_53178_14 hl rfl (inc_1 _) (Nat.le_of_ble_eq_true rfl) rfl (fun ls hl => ?_)
        refine lv_goto (tgt := 5) hC.1 hC.2.1 dJ7_fill_53178_17 (by decide) ?_
        exact ih5 _ _ _ _ _ _ _ hf hM (lv_sub hl [1, 2, 0, 3] rfl)
  refine lv_iconst hC.1 hC.2.1 dJ7_fill_53178_0 ci_0 ?_
  refine lv_istore_n (lv' := [(2, .int 0), (0, .ref (mvA V 63)), (1, .int p1)]) hC.1 hC.2.1 dJ7_fill_53178_1 rfl hl (Nat.le_of_ble_eq_true rfl) rfl (fun ls hl => ?_)
  refine lv_aload_n hC.1 hC.2.1 dJ7_fill_53178_2 rfl (lv_at hl 1 rfl) ?_
  refine mw_alen (n := 3072) hC hM 63 0 (Nat.le_of_ble_eq_true rfl) (eC_63 V) rfl dJ7_fill_53178_3 ?_
  refine lv_istore_n (lv' := [(3, .int 3072), (2, .int 0), (0, .ref (mvA V 63)), (1, .int p1)]) hC.1 hC.2.1 dJ7_fill_53178_4 rfl hl (Nat.le_of_ble_eq_true rfl) rfl (fun ls hl => ?_)
  exact hL5 _ _ _ _ _ _ _ _ hf hM (lv_sub hl [2, 3, 1, 0] rfl)
set_option maxHeartbeats 4000000 in
set_option maxRecDepth 100000 in
theorem cX11_forgetSums (V : mV) (l : Launch) (M : mM) (r : Int32) (M' : mM) (hf : fX11_forgetSums M = some (r, M')) : UC V l yX11_forgetSums cX11_forgetSums 1 ({ frames := 1, cells := 0, slots := 0, locals := 23 } : Room) [.ref (mvA V 0)] M M' := by
  unfold fX11_forgetSums at hf
  refine mw_enterV RX11 rfl (by decide) (Nat.le_of_ble_eq_true rfl) (fun {p e s m args below meth c} ls A Q hC hret hM hl => ?_)
  have hl : lv_has ls 1 [(0, .ref (mvA V 0))] := hl
  refine lv_aload_n hC.1 hC.2.1 dX11_forgetSums_0 rfl (lv_at hl 0 rfl) ?_
  refine mw_get (v := .ref (mvA V 63)) hC hM 0 (Nat.le_of_ble_eq_true rfl) (eC_0 V) inW11 rfl 7 (by decide) q_431 (fun _ h9 => h9) rfl dX11_forgetSums_1 ?_
  refine lv_ldc hC.1 hC.2.1 hC.2.2.2.1 (mw_w hC q_420) dX11_forgetSums_4 ?_
  obtain ⟨r1, M3, hq2, hf⟩ := o_b2 hf
  refine mw_cSv (As := [.ref (mvA V 63), .int (-1000000)]) (rest := []) hC hM (cJ7_fill_53178C_q63 V l M (-1000000) r1 M3 hq2) (mw_kS hC q_421 q_422 q_119 q_423 ⟨rfl, rfl⟩ kS_J7_fill_53178 ⟨Nat.le_of_ble_eq_true rfl, Nat.le_of_ble_eq_true rfl⟩) rfl rfl (Nat.le_of_ble_eq_true rfl) hl.1 dX11_forgetSums_6 (fun H locs hM => ?_)
  exact hret (o_r2 hf hM) dX11_forgetSums_9
set_option maxHeartbeats 4000000 in
set_option maxRecDepth 100000 in
theorem cX11_voter (V : mV) (l : Launch) (M : mM) (p1 : Int32) (p2 : Int32) (p3 : Int32) (p4 : Int32) (r : Int32) (M' : mM) (hf : fX11_voter M p1 p2 p3 p4 = some (r, M')) : IC V l yX11_voter cX11_voter 6 ({ frames := 3, cells := 0, slots := 0, locals := 63 } : Room) [.ref (mvA V 0), .int p1, .int p2, .int p3, .int p4] M r M' := by
  unfold fX11_voter at hf
  refine mw_enterI RX11 rfl (by decide) (Nat.le_of_ble_eq_true rfl) (fun {p e s m args below meth c} ls A Q hC hret hM hl => ?_)
  have hl : lv_has ls 6 [(0, .ref (mvA V 0)), (1, .int p1), (2, .int p2), (3, .int p3), (4, .int p4)] := hl
  refine lv_iload_n hC.1 hC.2.1 dX11_voter_0 rfl (lv_at hl 1 rfl) ?_
  refine lv_iconst hC.1 hC.2.1 dX11_voter_1 ci_1 ?_
  refine lv_iconst hC.1 hC.2.1 dX11_voter_2 ci_5 ?_
  refine mw_cSi (As := [.int p1, .int 1, .int 5]) (rest := []) hC hM (cX11_isIn V l M p1 1 5 _ rfl) (mw_kS hC q_468 q_469 q_107 q_470 ⟨rfl, rfl⟩ kS_X11_isIn ⟨Nat.le_of_ble_eq_true rfl, Nat.le_of_ble_eq_true rfl⟩) rfl rfl (Nat.le_of_ble_eq_true rfl) hl.1 dX11_voter_3 (fun H locs hM hb1 => ?_)
  refine lv_if_eq (tgt := 34) hC.1 hC.2.1 dX11_voter_6 (by decide) (fun hc16 => ?_) (fun hc16 => ?_)
  · have hf := o_t hc16 hf
    refine lv_iconst hC.1 hC.2.1 dX11_voter_34 ci_m1 ?_
    exact hret (o_r1 hf) (o_r2 hf hM) dX11_voter_35
  · have hf := o_f hc16 hf
    refine lv_iconst hC.1 hC.2.1 dX11_voter_9 ci_1 ?_
    refine lv_iload_n hC.1 hC.2.1 dX11_voter_10 rfl (lv_at hl 2 rfl) ?_
    refine mw_cSi (As := [.int 1, .int p2]) (rest := []) hC hM (cX11_suits V l M 1 p2 _ rfl) (mw_kS hC q_471 q_472 q_107 q_473 ⟨rfl, rfl⟩ kS_X11_suits ⟨Nat.le_of_ble_eq_true rfl, Nat.le_of_ble_eq_true rfl⟩) rfl rfl (Nat.le_of_ble_eq_true rfl) hl.1 dX11_voter_11 (fun H locs hM hb2 => ?_)
    refine lv_if_eq (tgt := 34) hC.1 hC.2.1 dX11_voter_14 (by decide) (fun hc15 => ?_) (fun hc15 => ?_)
    · have hf := o_t hc15 hf
      refine lv_iconst hC.1 hC.2.1 dX11_voter_34 ci_m1 ?_
      exact hret (o_r1 hf) (o_r2 hf hM) dX11_voter_35
    · have hf := o_f hc15 hf
      refine lv_iconst hC.1 hC.2.1 dX11_voter_17 ci_2 ?_
      refine lv_iload_n hC.1 hC.2.1 dX11_voter_18 rfl (lv_at hl 3 rfl) ?_
      refine mw_cSi (As := [.int 2, .int p3]) (rest := []) hC hM (cX11_suits V l M 2 p3 _ rfl) (mw_kS hC q_471 q_472 q_107 q_473 ⟨rfl, rfl⟩ kS_X11_suits ⟨Nat.le_of_ble_eq_true rfl, Nat.le_of_ble_eq_true rfl⟩) rfl rfl (Nat.le_of_ble_eq_true rfl) hl.1 dX11_voter_19 (fun H locs hM hb3 => ?_)
      refine lv_if_eq (tgt := 34) hC.1 hC.2.1 dX11_voter_22 (by decide) (fun hc14 => ?_) (fun hc14 => ?_)
      · have hf := o_t hc14 hf
        refine lv_iconst hC.1 hC.2.1 dX11_voter_34 ci_m1 ?_
        exact hret (o_r1 hf) (o_r2 hf hM) dX11_voter_35
      · have hf := o_f hc14 hf
        refine lv_iconst hC.1 hC.2.1 dX11_voter_25 ci_3 ?_
        refine lv_iload hC.1 hC.2.1 dX11_voter_26 (lv_at hl 4 rfl) ?_
        refine mw_cSi (As := [.int 3, .int p4]) (rest := []) hC hM (cX11_suits V l M 3 p4 _ rfl) (mw_kS hC q_471 q_472 q_107 q_473 ⟨rfl, rfl⟩ kS_X11_suits ⟨Nat.le_of_ble_eq_true rfl, Nat.le_of_ble_eq_true rfl⟩) rfl rfl (Nat.le_of_ble_eq_true rfl) hl.1 dX11_voter_28 (fun H locs hM hb4 => ?_)
        refine lv_if_ne (tgt := 36) hC.1 hC.2.1 dX11_voter_31 (by decide) (fun hc13 => ?_) (fun hc13 => ?_)
        · have hf := o_f hc13 hf
          refine lv_aload_n hC.1 hC.2.1 dX11_voter_36 rfl (lv_at hl 0 rfl) ?_
          refine mw_get (v := .ref (mvA V 1)) hC hM 0 (Nat.le_of_ble_eq_true rfl) (eC_0 V) inW11 rfl 0 (by decide) q_424 (fun _ h9 => h9) rfl dX11_voter_37 ?_
          refine mw_get (v := .int (M 1 0)) hC hM 1 (Nat.le_of_ble_eq_true rfl) (eC_1 V) inW4 rfl 0 (by decide) q_206 (fun _ h9 => h9) rfl dX11_voter_40 ?_
          refine lv_bipush hC.1 hC.2.1 dX11_voter_43 cb_7 ?_
          refine lv_icmp_lt (tgt := 51) hC.1 hC.2.1 dX11_voter_45 (by decide) (fun hc12 => ?_) (fun hc12 => ?_)
          · have hf := o_t hc12 hf
            refine lv_aload_n hC.1 hC.2.1 dX11_voter_51 rfl (lv_at hl 0 rfl) ?_
            refine mw_get (v := .ref (mvA V 1)) hC hM 0 (Nat.le_of_ble_eq_true rfl) (eC_0 V) inW11 rfl 0 (by decide) q_424 (fun _ h9 => h9) rfl dX11_voter_52 ?_
            refine mw_get (v := .int (M 1 0)) hC hM 1 (Nat.le_of_ble_eq_true rfl) (eC_1 V) inW4 rfl 0 (by decide) q_206 (fun _ h9 => h9) rfl dX11_voter_55 ?_
            refine lv_istore (lv' := [(5, .int (M 1 0)), (0, .ref (mvA V 0)), (1, .int p1), (2, .int p2), (3, .int p3), (4, .int p4)]) hC.1 hC.2.1 dX11_voter_58 hl (Nat.le_of_ble_eq_true rfl) rfl (fun ls hl => ?_)
            refine lv_aload_n hC.1 hC.2.1 dX11_voter_60 rfl (lv_at hl 1 rfl) ?_
            refine mw_get (v := .ref (mvA V 1)) hC hM 0 (Nat.le_of_ble_eq_true rfl) (eC_0 V) inW11 rfl 0 (by decide) q_424 (fun _ h9 => h9) rfl dX11_voter_61 ?_
            refine mw_get (v := .ref (mvA V 2)) hC hM 1 (Nat.le_of_ble_eq_true rfl) (eC_1 V) inW4 rfl 1 (by decide) q_209 (fun _ h9 => h9) rfl dX11_voter_64 ?_
            refine lv_iload hC.1 hC.2.1 dX11_voter_67 (lv_at hl 0 rfl) ?_
            refine lv_iload_n hC.1 hC.2.1 dX11_voter_69 rfl (lv_at hl 2 rfl) ?_
            obtain ⟨hg5, hf⟩ := o_g hf
            refine mw_iast hC hM 2 0 (Nat.le_of_ble_eq_true rfl) (eC_2 V) rfl hg5 dX11_voter_70 (fun H locs hM => ?_)
            refine lv_aload_n hC.1 hC.2.1 dX11_voter_71 rfl (lv_at hl 1 rfl) ?_
            refine mw_get (v := .ref (mvA V 1)) hC hM 0 (Nat.le_of_ble_eq_true rfl) (eC_0 V) inW11 rfl 0 (by decide) q_424 (fun _ h9 => h9) rfl dX11_voter_72 ?_
            refine mw_get (v := .ref (mvA V 3)) hC hM 1 (Nat.le_of_ble_eq_true rfl) (eC_1 V) inW4 rfl 2 (by decide) q_211 (fun _ h9 => h9) rfl dX11_voter_75 ?_
            refine lv_iload hC.1 hC.2.1 dX11_voter_78 (lv_at hl 0 rfl) ?_
            refine lv_iload_n hC.1 hC.2.1 dX11_voter_80 rfl (lv_at hl 3 rfl) ?_
            obtain ⟨hg6, hf⟩ := o_g hf
            refine mw_iast hC hM 3 0 (Nat.le_of_ble_eq_true rfl) (eC_3 V) rfl hg6 dX11_voter_81 (fun H locs hM => ?_)
            refine lv_aload_n hC.1 hC.2.1 dX11_voter_82 rfl (lv_at hl 1 rfl) ?_
            refine mw_get (v := .ref (mvA V 1)) hC hM 0 (Nat.le_of_ble_eq_true rfl) (eC_0 V) inW11 rfl 0 (by decide) q_424 (fun _ h9 => h9) rfl dX11_voter_83 ?_
            refine mw_get (v := .ref (mvA V 4)) hC hM 1 (Nat.le_of_ble_eq_true rfl) (eC_1 V) inW4 rfl 3 (by decide) q_213 (fun _ h9 => h9) rfl dX11_voter_86 ?_
            refine lv_iload hC.1 hC.2.1 dX11_voter_89 (lv_at hl 0 rfl) ?_
            refine lv_iload_n hC.1 hC.2.1 dX11_voter_91 rfl (lv_at hl 4 rfl) ?_
            obtain ⟨hg7, hf⟩ := o_g hf
            refine mw_iast hC hM 4 0 (Nat.le_of_ble_eq_true rfl) (eC_4 V) rfl hg7 dX11_voter_92 (fun H locs hM => ?_)
            refine lv_aload_n hC.1 hC.2.1 dX11_voter_93 rfl (lv_at hl 1 rfl) ?_
            refine mw_get (v := .ref (mvA V 1)) hC hM 0 (Nat.le_of_ble_eq_true rfl) (eC_0 V) inW11 rfl 0 (by decide) q_424 (fun _ h9 => h9) rfl dX11_voter_94 ?_
            refine mw_get (v := .ref (mvA V 5)) hC hM 1 (Nat.le_of_ble_eq_true rfl) (eC_1 V) inW4 rfl 4 (by decide) q_215 (fun _ h9 => h9) rfl dX11_voter_97 ?_
            refine lv_iload hC.1 hC.2.1 dX11_voter_100 (lv_at hl 0 rfl) ?_
            refine lv_iload hC.1 hC.2.1 dX11_voter_102 (lv_at hl 5 rfl) ?_
            obtain ⟨hg8, hf⟩ := o_g hf
            refine mw_iast hC hM 5 0 (Nat.le_of_ble_eq_true rfl) (eC_5 V) rfl hg8 dX11_voter_104 (fun H locs hM => ?_)
            refine lv_aload_n hC.1 hC.2.1 dX11_voter_105 rfl (lv_at hl 1 rfl) ?_
            refine mw_get (v := .ref (mvA V 1)) hC hM 0 (Nat.le_of_ble_eq_true rfl) (eC_0 V) inW11 rfl 0 (by decide) q_424 (fun _ h9 => h9) rfl dX11_voter_106 ?_
            refine lv_dup hC.1 hC.2.1 dX11_voter_109 rfl ?_
            refine mw_get (v := .int ((wr (wr (wr (wr M 2 (Int32.toNatClampNeg (M 1 0)) p1) 3 (Int32.toNatClampNeg (M 1 0)) p2) 4 (Int32.toNatClampNeg (M 1 0)) p3) 5 (Int32.toNatClampNeg (M 1 0)) p4) 1 5)) hC hM 1 (Nat.le_of_ble_eq_true rfl) (eC_1 V) inW4 rfl 5 (by decide) q_216 (fun _ h9 => h9) rfl dX11_voter_110 ?_
            refine lv_iconst hC.1 hC.2.1 dX11_voter_113 ci_1 ?_
            refine lv_iload hC.1 hC.2.1 dX11_voter_114 (lv_at hl 0 rfl) ?_
            refine lv_ishl hC.1 hC.2.1 dX11_voter_116 ?_
            refine lv_ior hC.1 hC.2.1 dX11_voter_117 ?_
            refine mw_put hC hM 1 (Nat.le_of_ble_eq_true rfl) (eC_1 V) inW4 tyX4 tyX4_ok nmX4 rfl 5 (by decide) q_216 (fun _ h9 => h9) rfl rfl rfl (Nat.le_of_ble_eq_true rfl) rfl dX11_voter_118 (fun H locs hM => ?_)
            refine lv_aload_n hC.1 hC.2.1 dX11_voter_121 rfl (lv_at hl 1 rfl) ?_
            refine mw_get (v := .ref (mvA V 1)) hC hM 0 (Nat.le_of_ble_eq_true rfl) (eC_0 V) inW11 rfl 0 (by decide) q_424 (fun _ h9 => h9) rfl dX11_voter_122 ?_
            refine lv_dup hC.1 hC.2.1 dX11_voter_125 rfl ?_
            refine mw_get (v := .int ((wr (wr (wr (wr (wr M 2 (Int32.toNatClampNeg (M 1 0)) p1) 3 (Int32.toNatClampNeg (M 1 0)) p2) 4 (Int32.toNatClampNeg (M 1 0)) p3) 5 (Int32.toNatClampNeg (M 1 0)) p4) 1 5 (((wr (wr (wr (wr M 2 (Int32.toNatClampNeg (M 1 0)) p1) 3 (Int32.toNatClampNeg (M 1 0)) p2) 4 (Int32.toNatClampNeg (M 1 0)) p3) 5 (Int32.toNatClampNeg (M 1 0)) p4) 1 5) ||| (1 <<< ((M 1 0) &&& 31)))) 1 0)) hC hM 1 (Nat.le_of_ble_eq_true rfl) (eC_1 V) inW4 rfl 0 (by decide) q_206 (fun _ h9 => h9) rfl dX11_voter_126 ?_
            refine lv_iconst hC.1 hC.2.1 dX11_voter_129 ci_1 ?_
            refine lv_iadd hC.1 hC.2.1 dX11_voter_130 ?_
            refine mw_put hC hM 1 (Nat.le_of_ble_eq_true rfl) (eC_1 V) inW4 tyX4 tyX4_ok nmX4 rfl 0 (by decide) q_206 (fun _ h9 => h9) rfl rfl rfl (Nat.le_of_ble_eq_true rfl) rfl dX11_voter_131 (fun H locs hM => ?_)
            refine lv_aload_n hC.1 hC.2.1 dX11_voter_134 rfl (lv_at hl 1 rfl) ?_
            obtain ⟨r9, M11, hq10, hf⟩ := o_b2 hf
            refine mw_cVv (As := []) (rest := []) hC hM (cX11_forgetSums V l (wr (wr (wr (wr (wr (wr M 2 (Int32.toNatClampNeg (M 1 0)) p1) 3 (Int32.toNatClampNeg (M 1 0)) p2) 4 (Int32.toNatClampNeg (M 1 0)) p3) 5 (Int32.toNatClampNeg (M 1 0)) p4) 1 5 (((wr (wr (wr (wr M 2 (Int32.toNatClampNeg (M 1 0)) p1) 3 (Int32.toNatClampNeg (M 1 0)) p2) 4 (Int32.toNatClampNeg (M 1 0)) p3) 5 (Int32.toNatClampNeg (M 1 0)) p4) 1 5) ||| (1 <<< ((M 1 0) &&& 31)))) 1 0 (((wr (wr (wr (wr (wr M 2 (Int32.toNatClampNeg (M 1 0)) p1) 3 (Int32.toNatClampNeg (M 1 0)) p2) 4 (Int32.toNatClampNeg (M 1 0)) p3) 5 (Int32.toNatClampNeg (M 1 0)) p4) 1 5 (((wr (wr (wr (wr M 2 (Int32.toNatClampNeg (M 1 0)) p1) 3 (Int32.toNatClampNeg (M 1 0)) p2) 4 (Int32.toNatClampNeg (M 1 0)) p3) 5 (Int32.toNatClampNeg (M 1 0)) p4) 1 5) ||| (1 <<< ((M 1 0) &&& 31)))) 1 0) + 1)) r9 M11 hq10) (mw_kV hC q_416 q_418 q_0 q_107 q_419 ⟨rfl, rfl⟩ kV_X11_forgetSums ⟨Nat.le_of_ble_eq_true rfl, Nat.le_of_ble_eq_true rfl⟩) (Nat.le_of_ble_eq_true rfl) (eC_0 V) rfl rfl rfl (Nat.le_of_ble_eq_true rfl) hl.1 dX11_voter_135 (fun H locs hM => ?_)
            refine lv_iload hC.1 hC.2.1 dX11_voter_138 (lv_at hl 0 rfl) ?_
            exact hret (o_r1 hf) (o_r2 hf hM) dX11_voter_140
          · have hf := o_f hc12 hf
            refine lv_bipush hC.1 hC.2.1 dX11_voter_48 cb_m2 ?_
            exact hret (o_r1 hf) (o_r2 hf hM) dX11_voter_50
        · have hf := o_t hc13 hf
          refine lv_iconst hC.1 hC.2.1 dX11_voter_34 ci_m1 ?_
          exact hret (o_r1 hf) (o_r2 hf hM) dX11_voter_35
set_option maxHeartbeats 4000000 in
set_option maxRecDepth 100000 in
theorem cX11_isVoter (V : mV) (l : Launch) (M : mM) (p1 : Int32) (r : Int32) (hf : fX11_isVoter M p1 = r) : ZC V l yX11_isVoter cX11_isVoter 2 ({ frames := 0, cells := 0, slots := 0, locals := 0 } : Room) [.ref (mvA V 0), .int p1] M r M := by
  unfold fX11_isVoter at hf
  refine mw_enterZ RX11 rfl (by decide) (Nat.le_of_ble_eq_true rfl) (fun {p e s m args below meth c} ls A Q hC hret hM hl => ?_)
  have hl : lv_has ls 2 [(0, .ref (mvA V 0)), (1, .int p1)] := hl
  refine lv_iload_n hC.1 hC.2.1 dX11_isVoter_0 rfl (lv_at hl 1 rfl) ?_
  refine lv_if_lt (tgt := 19) hC.1 hC.2.1 dX11_isVoter_1 (by decide) (fun hc2 => ?_) (fun hc2 => ?_)
  · have hf := o_t hc2 hf
    refine lv_iconst hC.1 hC.2.1 dX11_isVoter_19 ci_0 ?_
    exact hret hf (Or.inl rfl) hM dX11_isVoter_20
  · have hf := o_f hc2 hf
    refine lv_iload_n hC.1 hC.2.1 dX11_isVoter_4 rfl (lv_at hl 1 rfl) ?_
    refine lv_aload_n hC.1 hC.2.1 dX11_isVoter_5 rfl (lv_at hl 0 rfl) ?_
    refine mw_get (v := .ref (mvA V 1)) hC hM 0 (Nat.le_of_ble_eq_true rfl) (eC_0 V) inW11 rfl 0 (by decide) q_424 (fun _ h9 => h9) rfl dX11_isVoter_6 ?_
    refine mw_get (v := .int (M 1 0)) hC hM 1 (Nat.le_of_ble_eq_true rfl) (eC_1 V) inW4 rfl 0 (by decide) q_206 (fun _ h9 => h9) rfl dX11_isVoter_9 ?_
    refine lv_icmp_ge (tgt := 19) hC.1 hC.2.1 dX11_isVoter_12 (by decide) (fun hc1 => ?_) (fun hc1 => ?_)
    · have hf := o_t hc1 hf
      refine lv_iconst hC.1 hC.2.1 dX11_isVoter_19 ci_0 ?_
      exact hret hf (Or.inl rfl) hM dX11_isVoter_20
    · have hf := o_f hc1 hf
      refine lv_iconst hC.1 hC.2.1 dX11_isVoter_15 ci_1 ?_
      refine lv_goto (tgt := 20) hC.1 hC.2.1 dX11_isVoter_16 (by decide) ?_
      exact hret hf (Or.inr rfl) hM dX11_isVoter_20
set_option maxHeartbeats 4000000 in
set_option maxRecDepth 100000 in
theorem cX11_isAwake (V : mV) (l : Launch) (M : mM) (p1 : Int32) (r : Int32) (hf : fX11_isAwake M p1 = r) : ZC V l yX11_isAwake cX11_isAwake 2 ({ frames := 0, cells := 0, slots := 0, locals := 0 } : Room) [.ref (mvA V 0), .int p1] M r M := by
  unfold fX11_isAwake at hf
  refine mw_enterZ RX11 rfl (by decide) (Nat.le_of_ble_eq_true rfl) (fun {p e s m args below meth c} ls A Q hC hret hM hl => ?_)
  have hl : lv_has ls 2 [(0, .ref (mvA V 0)), (1, .int p1)] := hl
  refine lv_aload_n hC.1 hC.2.1 dX11_isAwake_0 rfl (lv_at hl 0 rfl) ?_
  refine mw_get (v := .ref (mvA V 1)) hC hM 0 (Nat.le_of_ble_eq_true rfl) (eC_0 V) inW11 rfl 0 (by decide) q_424 (fun _ h9 => h9) rfl dX11_isAwake_1 ?_
  refine mw_get (v := .int (M 1 5)) hC hM 1 (Nat.le_of_ble_eq_true rfl) (eC_1 V) inW4 rfl 5 (by decide) q_216 (fun _ h9 => h9) rfl dX11_isAwake_4 ?_
  refine lv_iload_n hC.1 hC.2.1 dX11_isAwake_7 rfl (lv_at hl 1 rfl) ?_
  refine lv_ishr hC.1 hC.2.1 dX11_isAwake_8 ?_
  refine lv_iconst hC.1 hC.2.1 dX11_isAwake_9 ci_1 ?_
  refine lv_iand hC.1 hC.2.1 dX11_isAwake_10 ?_
  refine lv_iconst hC.1 hC.2.1 dX11_isAwake_11 ci_1 ?_
  refine lv_icmp_ne (tgt := 19) hC.1 hC.2.1 dX11_isAwake_12 (by decide) (fun hc1 => ?_) (fun hc1 => ?_)
  · have hf := o_f hc1 hf
    refine lv_iconst hC.1 hC.2.1 dX11_isAwake_19 ci_0 ?_
    exact hret hf (Or.inl rfl) hM dX11_isAwake_20
  · have hf := o_t hc1 hf
    refine lv_iconst hC.1 hC.2.1 dX11_isAwake_15 ci_1 ?_
    refine lv_goto (tgt := 20) hC.1 hC.2.1 dX11_isAwake_16 (by decide) ?_
    exact hret hf (Or.inr rfl) hM dX11_isAwake_20
set_option maxHeartbeats 4000000 in
set_option maxRecDepth 100000 in
theorem cJ9_floorMod_7cf53C (V : mV) (l : Launch) (M : mM) (p0 : Int32) (p1 : Int32) (r : Int32) (hf : fJ9_floorMod_7cf53C M p0 p1 = some r) : IC V l yJ9_floorMod_7cf53 cJ9_floorMod_7cf53 3 ({ frames := 0, cells := 0, slots := 0, locals := 0 } : Room) [.int p0, .int p1] M r M := by
  unfold fJ9_floorMod_7cf53C at hf
  refine mw_enterI RJ9 rfl (by decide) (Nat.le_of_ble_eq_true rfl) (fun {p e s m args below meth c} ls A Q hC hret hM hl => ?_)
  have hl : lv_has ls 3 [(0, .int p0), (1, .int p1)] := hl
  refine lv_iload_n hC.1 hC.2.1 dJ9_floorMod_7cf53_0 rfl (lv_at hl 0 rfl) ?_
  refine lv_iload_n hC.1 hC.2.1 dJ9_floorMod_7cf53_1 rfl (lv_at hl 1 rfl) ?_
  obtain ⟨hg1, hf⟩ := o_g hf
  refine mw_irem hC.1 hC.2.1 dJ9_floorMod_7cf53_2 (nz_ne hg1) ?_
  refine lv_istore_n (lv' := [(2, .int (irem p0 p1)), (0, .int p0), (1, .int p1)]) hC.1 hC.2.1 dJ9_floorMod_7cf53_3 rfl hl (Nat.le_of_ble_eq_true rfl) rfl (fun ls hl => ?_)
  refine lv_iload_n hC.1 hC.2.1 dJ9_floorMod_7cf53_4 rfl (lv_at hl 1 rfl) ?_
  refine lv_iload_n hC.1 hC.2.1 dJ9_floorMod_7cf53_5 rfl (lv_at hl 2 rfl) ?_
  refine lv_ixor hC.1 hC.2.1 dJ9_floorMod_7cf53_6 ?_
  refine lv_if_ge (tgt := 18) hC.1 hC.2.1 dJ9_floorMod_7cf53_7 (by decide) (fun hc3 => ?_) (fun hc3 => ?_)
  · have hf := o_t hc3 hf
    refine lv_iload_n hC.1 hC.2.1 dJ9_floorMod_7cf53_18 rfl (lv_at hl 0 rfl) ?_
    exact hret (Option.some.inj hf) hM dJ9_floorMod_7cf53_19
  · have hf := o_f hc3 hf
    refine lv_iload_n hC.1 hC.2.1 dJ9_floorMod_7cf53_10 rfl (lv_at hl 0 rfl) ?_
    refine lv_if_eq (tgt := 18) hC.1 hC.2.1 dJ9_floorMod_7cf53_11 (by decide) (fun hc2 => ?_) (fun hc2 => ?_)
    · have hf := o_t hc2 hf
      refine lv_iload_n hC.1 hC.2.1 dJ9_floorMod_7cf53_18 rfl (lv_at hl 0 rfl) ?_
      exact hret (Option.some.inj hf) hM dJ9_floorMod_7cf53_19
    · have hf := o_f hc2 hf
      refine lv_iload_n hC.1 hC.2.1 dJ9_floorMod_7cf53_14 rfl (lv_at hl 0 rfl) ?_
      refine lv_iload_n hC.1 hC.2.1 dJ9_floorMod_7cf53_15 rfl (lv_at hl 2 rfl) ?_
      refine lv_iadd hC.1 hC.2.1 dJ9_floorMod_7cf53_16 ?_
      exact hret (Option.some.inj hf) hM dJ9_floorMod_7cf53_17
set_option maxHeartbeats 4000000 in
set_option maxRecDepth 100000 in
theorem cX11_voteAt (V : mV) (l : Launch) (M : mM) (p1 : Int32) (p2 : Int32) (r : Int32) (hf : fX11_voteAt M p1 p2 = some r) : IC V l yX11_voteAt cX11_voteAt 4 ({ frames := 1, cells := 0, slots := 0, locals := 22 } : Room) [.ref (mvA V 0), .int p1, .int p2] M r M := by
  unfold fX11_voteAt at hf
  refine mw_enterI RX11 rfl (by decide) (Nat.le_of_ble_eq_true rfl) (fun {p e s m args below meth c} ls A Q hC hret hM hl => ?_)
  have hl : lv_has ls 4 [(0, .ref (mvA V 0)), (1, .int p1), (2, .int p2)] := hl
  refine lv_aload_n hC.1 hC.2.1 dX11_voteAt_0 rfl (lv_at hl 0 rfl) ?_
  refine mw_get (v := .ref (mvA V 1)) hC hM 0 (Nat.le_of_ble_eq_true rfl) (eC_0 V) inW11 rfl 0 (by decide) q_424 (fun _ h9 => h9) rfl dX11_voteAt_1 ?_
  refine mw_get (v := .ref (mvA V 3)) hC hM 1 (Nat.le_of_ble_eq_true rfl) (eC_1 V) inW4 rfl 2 (by decide) q_211 (fun _ h9 => h9) rfl dX11_voteAt_4 ?_
  refine lv_iload_n hC.1 hC.2.1 dX11_voteAt_7 rfl (lv_at hl 1 rfl) ?_
  obtain ⟨hg1, hf⟩ := o_g hf
  refine mw_iald hC hM 3 0 (Nat.le_of_ble_eq_true rfl) (eC_3 V) rfl hg1 dX11_voteAt_8 ?_
  refine lv_iload_n hC.1 hC.2.1 dX11_voteAt_9 rfl (lv_at hl 2 rfl) ?_
  refine lv_isub hC.1 hC.2.1 dX11_voteAt_10 ?_
  refine lv_bipush hC.1 hC.2.1 dX11_voteAt_11 cb_24 ?_
  obtain ⟨r2, hq3, hf⟩ := o_b hf
  refine mw_cSi (As := [.int ((M 3 (Int32.toNatClampNeg p1)) - p2), .int 24]) (rest := []) hC hM (cJ9_floorMod_7cf53C V l M ((M 3 (Int32.toNatClampNeg p1)) - p2) 24 r2 hq3) (mw_kS hC q_493 q_494 q_121 q_495 ⟨rfl, rfl⟩ kS_J9_floorMod_7cf53 ⟨Nat.le_of_ble_eq_true rfl, Nat.le_of_ble_eq_true rfl⟩) rfl rfl (Nat.le_of_ble_eq_true rfl) hl.1 dX11_voteAt_13 (fun H locs hM _ => ?_)
  refine lv_istore_n (lv' := [(3, .int r2), (0, .ref (mvA V 0)), (1, .int p1), (2, .int p2)]) hC.1 hC.2.1 dX11_voteAt_16 rfl hl (Nat.le_of_ble_eq_true rfl) rfl (fun ls hl => ?_)
  refine lv_iload_n hC.1 hC.2.1 dX11_voteAt_17 rfl (lv_at hl 0 rfl) ?_
  refine lv_if_ne (tgt := 25) hC.1 hC.2.1 dX11_voteAt_18 (by decide) (fun hc5 => ?_) (fun hc5 => ?_)
  · have hf := o_f hc5 hf
    refine lv_iload_n hC.1 hC.2.1 dX11_voteAt_25 rfl (lv_at hl 0 rfl) ?_
    refine lv_bipush hC.1 hC.2.1 dX11_voteAt_26 cb_12 ?_
    refine lv_icmp_gt (tgt := 35) hC.1 hC.2.1 dX11_voteAt_28 (by decide) (fun hc4 => ?_) (fun hc4 => ?_)
    · have hf := o_t hc4 hf
      refine lv_iconst hC.1 hC.2.1 dX11_voteAt_35 ci_m1 ?_
      exact hret (Option.some.inj hf) hM dX11_voteAt_36
    · have hf := o_f hc4 hf
      refine lv_iconst hC.1 hC.2.1 dX11_voteAt_31 ci_1 ?_
      refine lv_goto (tgt := 36) hC.1 hC.2.1 dX11_voteAt_32 (by decide) ?_
      exact hret (Option.some.inj hf) hM dX11_voteAt_36
  · have hf := o_t hc5 hf
    refine lv_iconst hC.1 hC.2.1 dX11_voteAt_21 ci_0 ?_
    refine lv_goto (tgt := 36) hC.1 hC.2.1 dX11_voteAt_22 (by decide) ?_
    exact hret (Option.some.inj hf) hM dX11_voteAt_36
set_option maxHeartbeats 4000000 in
set_option maxRecDepth 100000 in
theorem cJ6_bitCount_0f7a4C (V : mV) (l : Launch) (M : mM) (p0 : Int32) (r : Int32) (hf : fJ6_bitCount_0f7a4C p0 = r) : IC V l yJ6_bitCount_0f7a4 cJ6_bitCount_0f7a4 1 ({ frames := 0, cells := 0, slots := 0, locals := 0 } : Room) [.int p0] M r M := by
  unfold fJ6_bitCount_0f7a4C at hf
  refine mw_enterI RJ6 rfl (by decide) (Nat.le_of_ble_eq_true rfl) (fun {p e s m args below meth c} ls A Q hC hret hM hl => ?_)
  have hl : lv_has ls 1 [(0, .int p0)] := hl
  refine lv_iload_n hC.1 hC.2.1 dJ6_bitCount_0f7a4_0 rfl (lv_at hl 0 rfl) ?_
  refine lv_iload_n hC.1 hC.2.1 dJ6_bitCount_0f7a4_1 rfl (lv_at hl 0 rfl) ?_
  refine lv_iconst hC.1 hC.2.1 dJ6_bitCount_0f7a4_2 ci_1 ?_
  refine lv_iushr (v := (iushr p0 1)) hC.1 hC.2.1 dJ6_bitCount_0f7a4_3 rfl ?_
  refine lv_ldcw hC.1 hC.2.1 hC.2.2.2.1 (mw_w hC q_499) dJ6_bitCount_0f7a4_4 ?_
  refine lv_iand hC.1 hC.2.1 dJ6_bitCount_0f7a4_7 ?_
  refine lv_isub hC.1 hC.2.1 dJ6_bitCount_0f7a4_8 ?_
  refine lv_istore_n (lv' := [(0, .int (p0 - ((iushr p0 1) &&& 1431655765)))]) hC.1 hC.2.1 dJ6_bitCount_0f7a4_9 rfl hl (Nat.le_of_ble_eq_true rfl) rfl (fun ls hl => ?_)
  refine lv_iload_n hC.1 hC.2.1 dJ6_bitCount_0f7a4_10 rfl (lv_at hl 0 rfl) ?_
  refine lv_ldcw hC.1 hC.2.1 hC.2.2.2.1 (mw_w hC q_500) dJ6_bitCount_0f7a4_11 ?_
  refine lv_iand hC.1 hC.2.1 dJ6_bitCount_0f7a4_14 ?_
  refine lv_iload_n hC.1 hC.2.1 dJ6_bitCount_0f7a4_15 rfl (lv_at hl 0 rfl) ?_
  refine lv_iconst hC.1 hC.2.1 dJ6_bitCount_0f7a4_16 ci_2 ?_
  refine lv_iushr (v := (iushr (p0 - ((iushr p0 1) &&& 1431655765)) 2)) hC.1 hC.2.1 dJ6_bitCount_0f7a4_17 rfl ?_
  refine lv_ldcw hC.1 hC.2.1 hC.2.2.2.1 (mw_w hC q_500) dJ6_bitCount_0f7a4_18 ?_
  refine lv_iand hC.1 hC.2.1 dJ6_bitCount_0f7a4_21 ?_
  refine lv_iadd hC.1 hC.2.1 dJ6_bitCount_0f7a4_22 ?_
  refine lv_istore_n (lv' := [(0, .int (((p0 - ((iushr p0 1) &&& 1431655765)) &&& 858993459) + ((iushr (p0 - ((iushr p0 1) &&& 1431655765)) 2) &&& 858993459)))]) hC.1 hC.2.1 dJ6_bitCount_0f7a4_23 rfl hl (Nat.le_of_ble_eq_true rfl) rfl (fun ls hl => ?_)
  refine lv_iload_n hC.1 hC.2.1 dJ6_bitCount_0f7a4_24 rfl (lv_at hl 0 rfl) ?_
  refine lv_iload_n hC.1 hC.2.1 dJ6_bitCount_0f7a4_25 rfl (lv_at hl 0 rfl) ?_
  refine lv_iconst hC.1 hC.2.1 dJ6_bitCount_0f7a4_26 ci_4 ?_
  refine lv_iushr (v := (iushr (((p0 - ((iushr p0 1) &&& 1431655765)) &&& 858993459) + ((iushr (p0 - ((iushr p0 1) &&& 1431655765)) 2) &&& 858993459)) 4)) hC.1 hC.2.1 dJ6_bitCount_0f7a4_27 rfl ?_
  refine lv_iadd hC.1 hC.2.1 dJ6_bitCount_0f7a4_28 ?_
  refine lv_ldcw hC.1 hC.2.1 hC.2.2.2.1 (mw_w hC q_501) dJ6_bitCount_0f7a4_29 ?_
  refine lv_iand hC.1 hC.2.1 dJ6_bitCount_0f7a4_32 ?_
  refine lv_istore_n (lv' := [(0, .int (((((p0 - ((iushr p0 1) &&& 1431655765)) &&& 858993459) + ((iushr (p0 - ((iushr p0 1) &&& 1431655765)) 2) &&& 858993459)) + (iushr (((p0 - ((iushr p0 1) &&& 1431655765)) &&& 858993459) + ((iushr (p0 - ((iushr p0 1) &&& 1431655765)) 2) &&& 858993459)) 4)) &&& 252645135))]) hC.1 hC.2.1 dJ6_bitCount_0f7a4_33 rfl hl (Nat.le_of_ble_eq_true rfl) rfl (fun ls hl => ?_)
  refine lv_iload_n hC.1 hC.2.1 dJ6_bitCount_0f7a4_34 rfl (lv_at hl 0 rfl) ?_
  refine lv_iload_n hC.1 hC.2.1 dJ6_bitCount_0f7a4_35 rfl (lv_at hl 0 rfl) ?_
  refine lv_bipush hC.1 hC.2.1 dJ6_bitCount_0f7a4_36 cb_8 ?_
  refine lv_iushr (v := (iushr (((((p0 - ((iushr p0 1) &&& 1431655765)) &&& 858993459) + ((iushr (p0 - ((iushr p0 1) &&& 1431655765)) 2) &&& 858993459)) + (iushr (((p0 - ((iushr p0 1) &&& 1431655765)) &&& 858993459) + ((iushr (p0 - ((iushr p0 1) &&& 1431655765)) 2) &&& 858993459)) 4)) &&& 252645135) 8)) hC.1 hC.2.1 dJ6_bitCount_0f7a4_38 rfl ?_
  refine lv_iadd hC.1 hC.2.1 dJ6_bitCount_0f7a4_39 ?_
  refine lv_istore_n (lv' := [(0, .int ((((((p0 - ((iushr p0 1) &&& 1431655765)) &&& 858993459) + ((iushr (p0 - ((iushr p0 1) &&& 1431655765)) 2) &&& 858993459)) + (iushr (((p0 - ((iushr p0 1) &&& 1431655765)) &&& 858993459) + ((iushr (p0 - ((iushr p0 1) &&& 1431655765)) 2) &&& 858993459)) 4)) &&& 252645135) + (iushr (((((p0 - ((iushr p0 1) &&& 1431655765)) &&& 858993459) + ((iushr (p0 - ((iushr p0 1) &&& 1431655765)) 2) &&& 858993459)) + (iushr (((p0 - ((iushr p0 1) &&& 1431655765)) &&& 858993459) + ((iushr (p0 - ((iushr p0 1) &&& 1431655765)) 2) &&& 858993459)) 4)) &&& 252645135) 8)))]) hC.1 hC.2.1 dJ6_bitCount_0f7a4_40 rfl hl (Nat.le_of_ble_eq_true rfl) rfl (fun ls hl => ?_)
  refine lv_iload_n hC.1 hC.2.1 dJ6_bitCount_0f7a4_41 rfl (lv_at hl 0 rfl) ?_
  refine lv_iload_n hC.1 hC.2.1 dJ6_bitCount_0f7a4_42 rfl (lv_at hl 0 rfl) ?_
  refine lv_bipush hC.1 hC.2.1 dJ6_bitCount_0f7a4_43 cb_16 ?_
  refine lv_iushr (v := (iushr ((((((p0 - ((iushr p0 1) &&& 1431655765)) &&& 858993459) + ((iushr (p0 - ((iushr p0 1) &&& 1431655765)) 2) &&& 858993459)) + (iushr (((p0 - ((iushr p0 1) &&& 1431655765)) &&& 858993459) + ((iushr (p0 - ((iushr p0 1) &&& 1431655765)) 2) &&& 858993459)) 4)) &&& 252645135) + (iushr (((((p0 - ((iushr p0 1) &&& 1431655765)) &&& 858993459) + ((iushr (p0 - ((iushr p0 1) &&& 1431655765)) 2) &&& 858993459)) + (iushr (((p0 - ((iushr p0 1) &&& 1431655765)) &&& 858993459) + ((iushr (p0 - ((iushr p0 1) &&& 1431655765)) 2) &&& 858993459)) 4)) &&& 252645135) 8)) 16)) hC.1 hC.2.1 dJ6_bitCount_0f7a4_45 rfl ?_
  refine lv_iadd hC.1 hC.2.1 dJ6_bitCount_0f7a4_46 ?_
  refine lv_istore_n (lv' := [(0, .int (((((((p0 - ((iushr p0 1) &&& 1431655765)) &&& 858993459) + ((iushr (p0 - ((iushr p0 1) &&& 1431655765)) 2) &&& 858993459)) + (iushr (((p0 - ((iushr p0 1) &&& 1431655765)) &&& 858993459) + ((iushr (p0 - ((iushr p0 1) &&& 1431655765)) 2) &&& 858993459)) 4)) &&& 252645135) + (iushr (((((p0 - ((iushr p0 1) &&& 1431655765)) &&& 858993459) + ((iushr (p0 - ((iushr p0 1) &&& 1431655765)) 2) &&& 858993459)) + (iushr (((p0 - ((iushr p0 1) &&& 1431655765)) &&& 858993459) + ((iushr (p0 - ((iushr p0 1) &&& 1431655765)) 2) &&& 858993459)) 4)) &&& 252645135) 8)) + (iushr ((((((p0 - ((iushr p0 1) &&& 1431655765)) &&& 858993459) + ((iushr (p0 - ((iushr p0 1) &&& 1431655765)) 2) &&& 858993459)) + (iushr (((p0 - ((iushr p0 1) &&& 1431655765)) &&& 858993459) + ((iushr (p0 - ((iushr p0 1) &&& 1431655765)) 2) &&& 858993459)) 4)) &&& 252645135) + (iushr (((((p0 - ((iushr p0 1) &&& 1431655765)) &&& 858993459) + ((iushr (p0 - ((iushr p0 1) &&& 1431655765)) 2) &&& 858993459)) + (iushr (((p0 - ((iushr p0 1) &&& 1431655765)) &&& 858993459) + ((iushr (p0 - ((iushr p0 1) &&& 1431655765)) 2) &&& 858993459)) 4)) &&& 252645135) 8)) 16)))]) hC.1 hC.2.1 dJ6_bitCount_0f7a4_47 rfl hl (Nat.le_of_ble_eq_true rfl) rfl (fun ls hl => ?_)
  refine lv_iload_n hC.1 hC.2.1 dJ6_bitCount_0f7a4_48 rfl (lv_at hl 0 rfl) ?_
  refine lv_bipush hC.1 hC.2.1 dJ6_bitCount_0f7a4_49 cb_63 ?_
  refine lv_iand hC.1 hC.2.1 dJ6_bitCount_0f7a4_51 ?_
  exact hret hf hM dJ6_bitCount_0f7a4_52
set_option maxHeartbeats 4000000 in
set_option maxRecDepth 100000 in
theorem cX11_isUnder (V : mV) (l : Launch) (M : mM) (p0 : Int32) (p1 : Int32) (r : Int32) (hf : fX11_isUnder M p0 p1 = r) : ZC V l yX11_isUnder cX11_isUnder 2 ({ frames := 0, cells := 0, slots := 0, locals := 0 } : Room) [.int p0, .int p1] M r M := by
  unfold fX11_isUnder at hf
  refine mw_enterZ RX11 rfl (by decide) (Nat.le_of_ble_eq_true rfl) (fun {p e s m args below meth c} ls A Q hC hret hM hl => ?_)
  have hl : lv_has ls 2 [(0, .int p0), (1, .int p1)] := hl
  have hL19 : ∀ (M : mM) (x0 : Int32) (x1 : Int32) (H : Heap) (locs : List Loc) (ls : Array Slot), fX11_isUnder_L19 M x0 x1 = r → PC V M A s H locs → lv_has ls 2 [(0, .int x0), (1, .int x1)] → W p l e ({ frames := 0, cells := 0, slots := 0, locals := 0 } : Room) s m args below meth c H locs 0 0 Q (F0 m 19 ls []) := by
    intro M x0 x1 H locs ls hf hM hl
    unfold fX11_isUnder_L19 at hf
    refine lv_iload_n hC.1 hC.2.1 dX11_isUnder_19 rfl (lv_at hl 1 rfl) ?_
    refine lv_iconst hC.1 hC.2.1 dX11_isUnder_20 ci_4 ?_
    refine lv_icmp_ne (tgt := 33) hC.1 hC.2.1 dX11_isUnder_21 (by decide) (fun hc6 => ?_) (fun hc6 => ?_)
    · have hf := o_f hc6 hf
      refine lv_iconst hC.1 hC.2.1 dX11_isUnder_33 ci_0 ?_
      exact hret hf (Or.inl rfl) hM dX11_isUnder_34
    · have hf := o_t hc6 hf
      refine lv_iload_n hC.1 hC.2.1 dX11_isUnder_24 rfl (lv_at hl 0 rfl) ?_
      refine lv_iconst hC.1 hC.2.1 dX11_isUnder_25 ci_5 ?_
      refine lv_icmp_ne (tgt := 33) hC.1 hC.2.1 dX11_isUnder_26 (by decide) (fun hc5 => ?_) (fun hc5 => ?_)
      · have hf := o_f hc5 hf
        refine lv_iconst hC.1 hC.2.1 dX11_isUnder_33 ci_0 ?_
        exact hret hf (Or.inl rfl) hM dX11_isUnder_34
      · have hf := o_t hc5 hf
        refine lv_iconst hC.1 hC.2.1 dX11_isUnder_29 ci_1 ?_
        refine lv_goto (tgt := 34) hC.1 hC.2.1 dX11_isUnder_30 (by decide) ?_
        exact hret hf (Or.inr rfl) hM dX11_isUnder_34
  refine lv_iload_n hC.1 hC.2.1 dX11_isUnder_0 rfl (lv_at hl 1 rfl) ?_
  refine lv_if_eq (tgt := 29) hC.1 hC.2.1 dX11_isUnder_1 (by decide) (fun hc4 => ?_) (fun hc4 => ?_)
  · have hf := o_t hc4 hf
    refine lv_iconst hC.1 hC.2.1 dX11_isUnder_29 ci_1 ?_
    refine lv_goto (tgt := 34) hC.1 hC.2.1 dX11_isUnder_30 (by decide) ?_
    exact hret hf (Or.inr rfl) hM dX11_isUnder_34
  · have hf := o_f hc4 hf
    refine lv_iload_n hC.1 hC.2.1 dX11_isUnder_4 rfl (lv_at hl 1 rfl) ?_
    refine lv_iload_n hC.1 hC.2.1 dX11_isUnder_5 rfl (lv_at hl 0 rfl) ?_
    refine lv_icmp_eq (tgt := 29) hC.1 hC.2.1 dX11_isUnder_6 (by decide) (fun hc3 => ?_) (fun hc3 => ?_)
    · have hf := o_t hc3 hf
      refine lv_iconst hC.1 hC.2.1 dX11_isUnder_29 ci_1 ?_
      refine lv_goto (tgt := 34) hC.1 hC.2.1 dX11_isUnder_30 (by decide) ?_
      exact hret hf (Or.inr rfl) hM dX11_isUnder_34
    · have hf := o_f hc3 hf
      refine lv_iload_n hC.1 hC.2.1 dX11_isUnder_9 rfl (lv_at hl 1 rfl) ?_
      refine lv_iconst hC.1 hC.2.1 dX11_isUnder_10 ci_2 ?_
      refine lv_icmp_ne (tgt := 19) hC.1 hC.2.1 dX11_isUnder_11 (by decide) (fun hc2 => ?_) (fun hc2 => ?_)
      · have hf := o_f hc2 hf
        exact hL19 _ _ _ _ _ _ hf hM (lv_sub hl [0, 1] rfl)
      · have hf := o_t hc2 hf
        refine lv_iload_n hC.1 hC.2.1 dX11_isUnder_14 rfl (lv_at hl 0 rfl) ?_
        refine lv_iconst hC.1 hC.2.1 dX11_isUnder_15 ci_3 ?_
        refine lv_icmp_eq (tgt := 29) hC.1 hC.2.1 dX11_isUnder_16 (by decide) (fun hc1 => ?_) (fun hc1 => ?_)
        · have hf := o_t hc1 hf
          refine lv_iconst hC.1 hC.2.1 dX11_isUnder_29 ci_1 ?_
          refine lv_goto (tgt := 34) hC.1 hC.2.1 dX11_isUnder_30 (by decide) ?_
          exact hret hf (Or.inr rfl) hM dX11_isUnder_34
        · have hf := o_f hc1 hf
          exact hL19 _ _ _ _ _ _ hf hM (lv_sub hl [0, 1] rfl)
