set_option maxHeartbeats 4000000 in
set_option maxRecDepth 100000 in
theorem mcX11_isIn (V : mV) (l : Launch) (M : mM) (p0 : Int32) (p1 : Int32) (p2 : Int32) (r : Int32) (hf : fX11_isIn p0 p1 p2 = r) : ZC V l yX11_isIn cX11_isIn 3 ({ frames := 0, cells := 0, slots := 0, locals := 0 } : Room) [.int p0, .int p1, .int p2] M r M := by
  unfold fX11_isIn at hf
  refine mw_enterZ RX11 rfl (by decide +kernel) (Nat.le_of_ble_eq_true rfl) (fun {p e s m args below meth c} ls A Q hC hret hM hl => ?_)
  have hl : lv_has ls 3 [(0, .int p0), (1, .int p1), (2, .int p2)] := hl
  refine lv_iload_n hC.1 hC.2.1 dX11_isIn_0 rfl (lv_at hl 0 rfl) ?_
  refine lv_iload_n hC.1 hC.2.1 dX11_isIn_1 rfl (lv_at hl 1 rfl) ?_
  refine lv_icmp_lt (tgt := 14) hC.1 hC.2.1 dX11_isIn_2 (by decide) (fun hc2 => ?_) (fun hc2 => ?_)
  · have hf := o_t hc2 hf
    refine lv_iconst hC.1 hC.2.1 dX11_isIn_14 ci_0 ?_
    exact hret hf (Or.inl rfl) hM dX11_isIn_15
  · have hf := o_f hc2 hf
    refine lv_iload_n hC.1 hC.2.1 dX11_isIn_5 rfl (lv_at hl 0 rfl) ?_
    refine lv_iload_n hC.1 hC.2.1 dX11_isIn_6 rfl (lv_at hl 2 rfl) ?_
    refine lv_icmp_gt (tgt := 14) hC.1 hC.2.1 dX11_isIn_7 (by decide) (fun hc1 => ?_) (fun hc1 => ?_)
    · have hf := o_t hc1 hf
      refine lv_iconst hC.1 hC.2.1 dX11_isIn_14 ci_0 ?_
      exact hret hf (Or.inl rfl) hM dX11_isIn_15
    · have hf := o_f hc1 hf
      refine lv_iconst hC.1 hC.2.1 dX11_isIn_10 ci_1 ?_
      refine lv_goto (tgt := 15) hC.1 hC.2.1 dX11_isIn_11 (by decide) ?_
      exact hret hf (Or.inr rfl) hM dX11_isIn_15
set_option maxHeartbeats 4000000 in
set_option maxRecDepth 100000 in
theorem mcX11_isHour (V : mV) (l : Launch) (M : mM) (p0 : Int32) (r : Int32) (hf : fX11_isHour p0 = r) : ZC V l yX11_isHour cX11_isHour 1 ({ frames := 1, cells := 0, slots := 0, locals := 22 } : Room) [.int p0] M r M := by
  unfold fX11_isHour at hf
  refine mw_enterZ RX11 rfl (by decide +kernel) (Nat.le_of_ble_eq_true rfl) (fun {p e s m args below meth c} ls A Q hC hret hM hl => ?_)
  have hl : lv_has ls 1 [(0, .int p0)] := hl
  refine lv_iload_n hC.1 hC.2.1 dX11_isHour_0 rfl (lv_at hl 0 rfl) ?_
  refine lv_iconst hC.1 hC.2.1 dX11_isHour_1 ci_0 ?_
  refine lv_bipush hC.1 hC.2.1 dX11_isHour_2 cb_23 ?_
  refine mw_cSi (As := [.int p0, .int 0, .int 23]) (rest := []) hC hM (mcX11_isIn V l M p0 0 23 _ rfl) (mw_kS hC q_468 q_469 q_107 q_470 ⟨rfl, rfl⟩ kS_X11_isIn ⟨Nat.le_of_ble_eq_true rfl, Nat.le_of_ble_eq_true rfl⟩) rfl rfl (Nat.le_of_ble_eq_true rfl) hl.1 dX11_isHour_4 (fun H locs hM hb1 => ?_)
  exact hret hf hb1 hM dX11_isHour_7
set_option maxHeartbeats 4000000 in
set_option maxRecDepth 100000 in
theorem mcX11_suits (V : mV) (l : Launch) (M : mM) (p0 : Int32) (p1 : Int32) (r : Int32) (hf : fX11_suits p0 p1 = r) : ZC V l yX11_suits cX11_suits 2 ({ frames := 2, cells := 0, slots := 0, locals := 42 } : Room) [.int p0, .int p1] M r M := by
  unfold fX11_suits at hf
  refine mw_enterZ RX11 rfl (by decide +kernel) (Nat.le_of_ble_eq_true rfl) (fun {p e s m args below meth c} ls A Q hC hret hM hl => ?_)
  have hl : lv_has ls 2 [(0, .int p0), (1, .int p1)] := hl
  refine lv_iload_n hC.1 hC.2.1 dX11_suits_0 rfl (lv_at hl 0 rfl) ?_
  by_cases hc2 : p0 = 1
  · have hf := o_t hc2 hf
    refine lv_tableIn (off := 27) (tgt := 28) hC.1 hC.2.1 dX11_suits_1 (by rw [hc2]; decide) (by rw [hc2]; decide) (by rw [hc2]; rfl) (by decide) ?_
    refine lv_iload_n hC.1 hC.2.1 dX11_suits_28 rfl (lv_at hl 1 rfl) ?_
    refine mw_cSi (As := [.int p1]) (rest := []) hC hM (mcX11_isHour V l M p1 _ rfl) (mw_kS hC q_474 q_475 q_107 q_476 ⟨rfl, rfl⟩ kS_X11_isHour ⟨Nat.le_of_ble_eq_true rfl, Nat.le_of_ble_eq_true rfl⟩) rfl rfl (Nat.le_of_ble_eq_true rfl) hl.1 dX11_suits_29 (fun H locs hM hb1 => ?_)
    exact hret hf hb1 hM dX11_suits_32
  have hf := o_f hc2 hf
  by_cases hc4 : p0 = 2
  · have hf := o_t hc4 hf
    refine lv_tableIn (off := 32) (tgt := 33) hC.1 hC.2.1 dX11_suits_1 (by rw [hc4]; decide) (by rw [hc4]; decide) (by rw [hc4]; rfl) (by decide) ?_
    refine lv_iload_n hC.1 hC.2.1 dX11_suits_33 rfl (lv_at hl 1 rfl) ?_
    refine lv_iconst hC.1 hC.2.1 dX11_suits_34 ci_1 ?_
    refine lv_bipush hC.1 hC.2.1 dX11_suits_35 cb_9 ?_
    refine mw_cSi (As := [.int p1, .int 1, .int 9]) (rest := []) hC hM (mcX11_isIn V l M p1 1 9 _ rfl) (mw_kS hC q_468 q_469 q_107 q_470 ⟨rfl, rfl⟩ kS_X11_isIn ⟨Nat.le_of_ble_eq_true rfl, Nat.le_of_ble_eq_true rfl⟩) rfl rfl (Nat.le_of_ble_eq_true rfl) hl.1 dX11_suits_37 (fun H locs hM hb3 => ?_)
    exact hret hf hb3 hM dX11_suits_40
  have hf := o_f hc4 hf
  by_cases hc6 : p0 = 3
  · have hf := o_t hc6 hf
    refine lv_tableIn (off := 40) (tgt := 41) hC.1 hC.2.1 dX11_suits_1 (by rw [hc6]; decide) (by rw [hc6]; decide) (by rw [hc6]; rfl) (by decide) ?_
    refine lv_iload_n hC.1 hC.2.1 dX11_suits_41 rfl (lv_at hl 1 rfl) ?_
    refine lv_iconst hC.1 hC.2.1 dX11_suits_42 ci_0 ?_
    refine lv_bipush hC.1 hC.2.1 dX11_suits_43 cb_99 ?_
    refine mw_cSi (As := [.int p1, .int 0, .int 99]) (rest := []) hC hM (mcX11_isIn V l M p1 0 99 _ rfl) (mw_kS hC q_468 q_469 q_107 q_470 ⟨rfl, rfl⟩ kS_X11_isIn ⟨Nat.le_of_ble_eq_true rfl, Nat.le_of_ble_eq_true rfl⟩) rfl rfl (Nat.le_of_ble_eq_true rfl) hl.1 dX11_suits_45 (fun H locs hM hb5 => ?_)
    exact hret hf hb5 hM dX11_suits_48
  have hf := o_f hc6 hf
  have hc2 := sw_ne (k := 1) (v := 1) rfl hc2
  have hc4 := sw_ne (k := 2) (v := 2) rfl hc4
  have hc6 := sw_ne (k := 3) (v := 3) rfl hc6
  refine lv_tableOut (tgt := 49) hC.1 hC.2.1 dX11_suits_1 (by omega) (by decide) ?_
  refine lv_iconst hC.1 hC.2.1 dX11_suits_49 ci_0 ?_
  exact hret hf (Or.inl rfl) hM dX11_suits_50
set_option maxHeartbeats 4000000 in
set_option maxRecDepth 100000 in
theorem mcJ7_fill_53178C_q63 (V : mV) (l : Launch) (M : mM) (p1 : Int32) (r : Int32) (M' : mM) (hf : fJ7_fill_53178C_q63 M p1 = some (r, M')) : UC V l yJ7_fill_53178 cJ7_fill_53178 4 ({ frames := 0, cells := 0, slots := 0, locals := 0 } : Room) [.ref (mvA V 63), .int p1] M M' := by
  unfold fJ7_fill_53178C_q63 at hf
  refine mw_enterV RJ7 rfl (by decide +kernel) (Nat.le_of_ble_eq_true rfl) (fun {p e s m args below meth c} ls A Q hC hret hM hl => ?_)
  have hl : lv_has ls 4 [(0, .ref (mvA V 63)), (1, .int p1)] := hl
  have hL5 : ∀ (n : Nat) (M : mM) (x1 : Int32) (x2 : Int32) (x3 : Int32) (H : Heap) (locs : List Loc) (ls : Array Slot), fJ7_fill_53178C_q63_L5 n M x1 x2 x3 = some (r, M') → PC V M A s H locs → lv_has ls 4 [(0, .ref (mvA V 63)), (1, .int x1), (2, .int x2), (3, .int x3)] → W p l e ({ frames := 0, cells := 0, slots := 0, locals := 0 } : Room) s m args below meth c H locs 0 0 Q (F0 m 5 ls []) := by
    intro n5
    induction n5 with
    | zero => intro M x1 x2 x3 H locs ls hf; cases hf
    | succ n5 ih5 =>
      intro M x1 x2 x3 H locs ls hf hM hl
      have hf : fJ7_fill_53178C_q63_L5_b (fJ7_fill_53178C_q63_L5 n5) M x1 x2 x3 = some (r, M') := hf
      unfold fJ7_fill_53178C_q63_L5_b at hf
      refine lv_iload_n hC.1 hC.2.1 dJ7_fill_53178_5 rfl (lv_at hl 2 rfl) ?_
      refine lv_iload_n hC.1 hC.2.1 dJ7_fill_53178_6 rfl (lv_at hl 3 rfl) ?_
      refine lv_icmp_ge (tgt := 20) hC.1 hC.2.1 dJ7_fill_53178_7 (by decide) (fun hc2 => ?_) (fun hc2 => ?_)
      · have hf := o_t hc2 hf
        exact hret (o_r2 hf hM) dJ7_fill_53178_20
      · have hf := o_f hc2 hf
        refine lv_aload_n hC.1 hC.2.1 dJ7_fill_53178_10 rfl (lv_at hl 0 rfl) ?_
        refine lv_iload_n hC.1 hC.2.1 dJ7_fill_53178_11 rfl (lv_at hl 2 rfl) ?_
        refine lv_iload_n hC.1 hC.2.1 dJ7_fill_53178_12 rfl (lv_at hl 1 rfl) ?_
        obtain ⟨hg1, hf⟩ := o_g hf
        refine mw_iast hC hM 63 0 (Nat.le_of_ble_eq_true rfl) (eC_63 V) rfl hg1 dJ7_fill_53178_13 (fun H locs hM => ?_)
        refine lv_iinc (k := 2) (lv' := [(2, .int (x2 + 1)), (0, .ref (mvA V 63)), (1, .int x1), (3, .int x3)]) hC.1 hC.2.1 dJ7_fill_53178_14 hl rfl (inc_1 _) (Nat.le_of_ble_eq_true rfl) rfl (fun ls hl => ?_)
        refine lv_goto (tgt := 5) hC.1 hC.2.1 dJ7_fill_53178_17 (by decide) ?_
        exact ih5 _ _ _ _ _ _ _ hf hM (lv_sub hl [1, 2, 0, 3] rfl)
  refine lv_iconst hC.1 hC.2.1 dJ7_fill_53178_0 ci_0 ?_
  refine lv_istore_n (lv' := [(2, .int 0), (0, .ref (mvA V 63)), (1, .int p1)]) hC.1 hC.2.1 dJ7_fill_53178_1 rfl hl (Nat.le_of_ble_eq_true rfl) rfl (fun ls hl => ?_)
  refine lv_aload_n hC.1 hC.2.1 dJ7_fill_53178_2 rfl (lv_at hl 1 rfl) ?_
  refine mw_alen (n := 3072) hC hM 63 0 (Nat.le_of_ble_eq_true rfl) (eC_63 V) rfl dJ7_fill_53178_3 ?_
  refine lv_istore_n (lv' := [(3, .int 3072), (2, .int 0), (0, .ref (mvA V 63)), (1, .int p1)]) hC.1 hC.2.1 dJ7_fill_53178_4 rfl hl (Nat.le_of_ble_eq_true rfl) rfl (fun ls hl => ?_)
  exact hL5 _ _ _ _ _ _ _ _ hf hM (lv_sub hl [2, 3, 1, 0] rfl)
set_option maxHeartbeats 4000000 in
set_option maxRecDepth 100000 in
theorem mcX11_forgetSums (V : mV) (l : Launch) (M : mM) (r : Int32) (M' : mM) (hf : fX11_forgetSums M = some (r, M')) : UC V l yX11_forgetSums cX11_forgetSums 1 ({ frames := 1, cells := 0, slots := 0, locals := 23 } : Room) [.ref (mvA V 0)] M M' := by
  unfold fX11_forgetSums at hf
  refine mw_enterV RX11 rfl (by decide +kernel) (Nat.le_of_ble_eq_true rfl) (fun {p e s m args below meth c} ls A Q hC hret hM hl => ?_)
  have hl : lv_has ls 1 [(0, .ref (mvA V 0))] := hl
  refine lv_aload_n hC.1 hC.2.1 dX11_forgetSums_0 rfl (lv_at hl 0 rfl) ?_
  refine mw_get (v := .ref (mvA V 63)) hC hM 0 (Nat.le_of_ble_eq_true rfl) (eC_0 V) inW11 rfl 7 (by decide) q_431 (fun _ h9 => h9) rfl dX11_forgetSums_1 ?_
  refine lv_ldc hC.1 hC.2.1 hC.2.2.2.1 (mw_w hC q_420) dX11_forgetSums_4 ?_
  obtain ⟨r1, M3, hq2, hf⟩ := o_b2 hf
  refine mw_cSv (As := [.ref (mvA V 63), .int (-1000000)]) (rest := []) hC hM (mcJ7_fill_53178C_q63 V l M (-1000000) r1 M3 hq2) (mw_kS hC q_421 q_422 q_119 q_423 ⟨rfl, rfl⟩ kS_J7_fill_53178 ⟨Nat.le_of_ble_eq_true rfl, Nat.le_of_ble_eq_true rfl⟩) rfl rfl (Nat.le_of_ble_eq_true rfl) hl.1 dX11_forgetSums_6 (fun H locs hM => ?_)
  exact hret (o_r2 hf hM) dX11_forgetSums_9
set_option maxHeartbeats 4000000 in
set_option maxRecDepth 100000 in
theorem mcX11_voter (V : mV) (l : Launch) (M : mM) (p1 : Int32) (p2 : Int32) (p3 : Int32) (p4 : Int32) (r : Int32) (M' : mM) (hf : fX11_voter M p1 p2 p3 p4 = some (r, M')) : IC V l yX11_voter cX11_voter 6 ({ frames := 3, cells := 0, slots := 0, locals := 63 } : Room) [.ref (mvA V 0), .int p1, .int p2, .int p3, .int p4] M r M' := by
  unfold fX11_voter at hf
  refine mw_enterI RX11 rfl (by decide +kernel) (Nat.le_of_ble_eq_true rfl) (fun {p e s m args below meth c} ls A Q hC hret hM hl => ?_)
  have hl : lv_has ls 6 [(0, .ref (mvA V 0)), (1, .int p1), (2, .int p2), (3, .int p3), (4, .int p4)] := hl
  refine lv_iload_n hC.1 hC.2.1 dX11_voter_0 rfl (lv_at hl 1 rfl) ?_
  refine lv_iconst hC.1 hC.2.1 dX11_voter_1 ci_1 ?_
  refine lv_iconst hC.1 hC.2.1 dX11_voter_2 ci_5 ?_
  refine mw_cSi (As := [.int p1, .int 1, .int 5]) (rest := []) hC hM (mcX11_isIn V l M p1 1 5 _ rfl) (mw_kS hC q_468 q_469 q_107 q_470 ⟨rfl, rfl⟩ kS_X11_isIn ⟨Nat.le_of_ble_eq_true rfl, Nat.le_of_ble_eq_true rfl⟩) rfl rfl (Nat.le_of_ble_eq_true rfl) hl.1 dX11_voter_3 (fun H locs hM hb1 => ?_)
  refine lv_if_eq (tgt := 34) hC.1 hC.2.1 dX11_voter_6 (by decide) (fun hc16 => ?_) (fun hc16 => ?_)
  · have hf := o_t hc16 hf
    refine lv_iconst hC.1 hC.2.1 dX11_voter_34 ci_m1 ?_
    exact hret (o_r1 hf) (o_r2 hf hM) dX11_voter_35
  · have hf := o_f hc16 hf
    refine lv_iconst hC.1 hC.2.1 dX11_voter_9 ci_1 ?_
    refine lv_iload_n hC.1 hC.2.1 dX11_voter_10 rfl (lv_at hl 2 rfl) ?_
    refine mw_cSi (As := [.int 1, .int p2]) (rest := []) hC hM (mcX11_suits V l M 1 p2 _ rfl) (mw_kS hC q_471 q_472 q_107 q_473 ⟨rfl, rfl⟩ kS_X11_suits ⟨Nat.le_of_ble_eq_true rfl, Nat.le_of_ble_eq_true rfl⟩) rfl rfl (Nat.le_of_ble_eq_true rfl) hl.1 dX11_voter_11 (fun H locs hM hb2 => ?_)
    refine lv_if_eq (tgt := 34) hC.1 hC.2.1 dX11_voter_14 (by decide) (fun hc15 => ?_) (fun hc15 => ?_)
    · have hf := o_t hc15 hf
      refine lv_iconst hC.1 hC.2.1 dX11_voter_34 ci_m1 ?_
      exact hret (o_r1 hf) (o_r2 hf hM) dX11_voter_35
    · have hf := o_f hc15 hf
      refine lv_iconst hC.1 hC.2.1 dX11_voter_17 ci_2 ?_
      refine lv_iload_n hC.1 hC.2.1 dX11_voter_18 rfl (lv_at hl 3 rfl) ?_
      refine mw_cSi (As := [.int 2, .int p3]) (rest := []) hC hM (mcX11_suits V l M 2 p3 _ rfl) (mw_kS hC q_471 q_472 q_107 q_473 ⟨rfl, rfl⟩ kS_X11_suits ⟨Nat.le_of_ble_eq_true rfl, Nat.le_of_ble_eq_true rfl⟩) rfl rfl (Nat.le_of_ble_eq_true rfl) hl.1 dX11_voter_19 (fun H locs hM hb3 => ?_)
      refine lv_if_eq (tgt := 34) hC.1 hC.2.1 dX11_voter_22 (by decide) (fun hc14 => ?_) (fun hc14 => ?_)
      · have hf := o_t hc14 hf
        refine lv_iconst hC.1 hC.2.1 dX11_voter_34 ci_m1 ?_
        exact hret (o_r1 hf) (o_r2 hf hM) dX11_voter_35
      · have hf := o_f hc14 hf
        refine lv_iconst hC.1 hC.2.1 dX11_voter_25 ci_3 ?_
        refine lv_iload hC.1 hC.2.1 dX11_voter_26 (lv_at hl 4 rfl) ?_
        refine mw_cSi (As := [.int 3, .int p4]) (rest := []) hC hM (mcX11_suits V l M 3 p4 _ rfl) (mw_kS hC q_471 q_472 q_107 q_473 ⟨rfl, rfl⟩ kS_X11_suits ⟨Nat.le_of_ble_eq_true rfl, Nat.le_of_ble_eq_true rfl⟩) rfl rfl (Nat.le_of_ble_eq_true rfl) hl.1 dX11_voter_28 (fun H locs hM hb4 => ?_)
        refine lv_if_ne (tgt := 36) hC.1 hC.2.1 dX11_voter_31 (by decide) (fun hc13 => ?_) (fun hc13 => ?_)
        · have hf := o_f hc13 hf
          refine lv_aload_n hC.1 hC.2.1 dX11_voter_36 rfl (lv_at hl 0 rfl) ?_
          refine mw_get (v := .ref (mvA V 1)) hC hM 0 (Nat.le_of_ble_eq_true rfl) (eC_0 V) inW11 rfl 0 (by decide) q_424 (fun _ h9 => h9) rfl dX11_voter_37 ?_
          refine mw_get (v := .int (M 1 0)) hC hM 1 (Nat.le_of_ble_eq_true rfl) (eC_1 V) inW4 rfl 0 (by decide) q_206 (fun _ h9 => h9) rfl dX11_voter_40 ?_
          refine lv_bipush hC.1 hC.2.1 dX11_voter_43 cb_7 ?_
          refine lv_icmp_lt (tgt := 51) hC.1 hC.2.1 dX11_voter_45 (by decide) (fun hc12 => ?_) (fun hc12 => ?_)
          · have hf := o_t hc12 hf
            refine lv_aload_n hC.1 hC.2.1 dX11_voter_51 rfl (lv_at hl 0 rfl) ?_
            refine mw_get (v := .ref (mvA V 1)) hC hM 0 (Nat.le_of_ble_eq_true rfl) (eC_0 V) inW11 rfl 0 (by decide) q_424 (fun _ h9 => h9) rfl dX11_voter_52 ?_
            refine mw_get (v := .int (M 1 0)) hC hM 1 (Nat.le_of_ble_eq_true rfl) (eC_1 V) inW4 rfl 0 (by decide) q_206 (fun _ h9 => h9) rfl dX11_voter_55 ?_
            refine lv_istore (lv' := [(5, .int (M 1 0)), (0, .ref (mvA V 0)), (1, .int p1), (2, .int p2), (3, .int p3), (4, .int p4)]) hC.1 hC.2.1 dX11_voter_58 hl (Nat.le_of_ble_eq_true rfl) rfl (fun ls hl => ?_)
            refine lv_aload_n hC.1 hC.2.1 dX11_voter_60 rfl (lv_at hl 1 rfl) ?_
            refine mw_get (v := .ref (mvA V 1)) hC hM 0 (Nat.le_of_ble_eq_true rfl) (eC_0 V) inW11 rfl 0 (by decide) q_424 (fun _ h9 => h9) rfl dX11_voter_61 ?_
            refine mw_get (v := .ref (mvA V 2)) hC hM 1 (Nat.le_of_ble_eq_true rfl) (eC_1 V) inW4 rfl 1 (by decide) q_209 (fun _ h9 => h9) rfl dX11_voter_64 ?_
            refine lv_iload hC.1 hC.2.1 dX11_voter_67 (lv_at hl 0 rfl) ?_
            refine lv_iload_n hC.1 hC.2.1 dX11_voter_69 rfl (lv_at hl 2 rfl) ?_
            obtain ⟨hg5, hf⟩ := o_g hf
            refine mw_iast hC hM 2 0 (Nat.le_of_ble_eq_true rfl) (eC_2 V) rfl hg5 dX11_voter_70 (fun H locs hM => ?_)
            refine lv_aload_n hC.1 hC.2.1 dX11_voter_71 rfl (lv_at hl 1 rfl) ?_
            refine mw_get (v := .ref (mvA V 1)) hC hM 0 (Nat.le_of_ble_eq_true rfl) (eC_0 V) inW11 rfl 0 (by decide) q_424 (fun _ h9 => h9) rfl dX11_voter_72 ?_
            refine mw_get (v := .ref (mvA V 3)) hC hM 1 (Nat.le_of_ble_eq_true rfl) (eC_1 V) inW4 rfl 2 (by decide) q_211 (fun _ h9 => h9) rfl dX11_voter_75 ?_
            refine lv_iload hC.1 hC.2.1 dX11_voter_78 (lv_at hl 0 rfl) ?_
            refine lv_iload_n hC.1 hC.2.1 dX11_voter_80 rfl (lv_at hl 3 rfl) ?_
            obtain ⟨hg6, hf⟩ := o_g hf
            refine mw_iast hC hM 3 0 (Nat.le_of_ble_eq_true rfl) (eC_3 V) rfl hg6 dX11_voter_81 (fun H locs hM => ?_)
            refine lv_aload_n hC.1 hC.2.1 dX11_voter_82 rfl (lv_at hl 1 rfl) ?_
            refine mw_get (v := .ref (mvA V 1)) hC hM 0 (Nat.le_of_ble_eq_true rfl) (eC_0 V) inW11 rfl 0 (by decide) q_424 (fun _ h9 => h9) rfl dX11_voter_83 ?_
            refine mw_get (v := .ref (mvA V 4)) hC hM 1 (Nat.le_of_ble_eq_true rfl) (eC_1 V) inW4 rfl 3 (by decide) q_213 (fun _ h9 => h9) rfl dX11_voter_86 ?_
            refine lv_iload hC.1 hC.2.1 dX11_voter_89 (lv_at hl 0 rfl) ?_
            refine lv_iload_n hC.1 hC.2.1 dX11_voter_91 rfl (lv_at hl 4 rfl) ?_
            obtain ⟨hg7, hf⟩ := o_g hf
            refine mw_iast hC hM 4 0 (Nat.le_of_ble_eq_true rfl) (eC_4 V) rfl hg7 dX11_voter_92 (fun H locs hM => ?_)
            refine lv_aload_n hC.1 hC.2.1 dX11_voter_93 rfl (lv_at hl 1 rfl) ?_
            refine mw_get (v := .ref (mvA V 1)) hC hM 0 (Nat.le_of_ble_eq_true rfl) (eC_0 V) inW11 rfl 0 (by decide) q_424 (fun _ h9 => h9) rfl dX11_voter_94 ?_
            refine mw_get (v := .ref (mvA V 5)) hC hM 1 (Nat.le_of_ble_eq_true rfl) (eC_1 V) inW4 rfl 4 (by decide) q_215 (fun _ h9 => h9) rfl dX11_voter_97 ?_
            refine lv_iload hC.1 hC.2.1 dX11_voter_100 (lv_at hl 0 rfl) ?_
            refine lv_iload hC.1 hC.2.1 dX11_voter_102 (lv_at hl 5 rfl) ?_
            obtain ⟨hg8, hf⟩ := o_g hf
            refine mw_iast hC hM 5 0 (Nat.le_of_ble_eq_true rfl) (eC_5 V) rfl hg8 dX11_voter_104 (fun H locs hM => ?_)
            refine lv_aload_n hC.1 hC.2.1 dX11_voter_105 rfl (lv_at hl 1 rfl) ?_
            refine mw_get (v := .ref (mvA V 1)) hC hM 0 (Nat.le_of_ble_eq_true rfl) (eC_0 V) inW11 rfl 0 (by decide) q_424 (fun _ h9 => h9) rfl dX11_voter_106 ?_
            refine lv_dup hC.1 hC.2.1 dX11_voter_109 rfl ?_
            refine mw_get (v := .int ((wr (wr (wr (wr M 2 (Int32.toNatClampNeg (M 1 0)) p1) 3 (Int32.toNatClampNeg (M 1 0)) p2) 4 (Int32.toNatClampNeg (M 1 0)) p3) 5 (Int32.toNatClampNeg (M 1 0)) p4) 1 5)) hC hM 1 (Nat.le_of_ble_eq_true rfl) (eC_1 V) inW4 rfl 5 (by decide) q_216 (fun _ h9 => h9) rfl dX11_voter_110 ?_
            refine lv_iconst hC.1 hC.2.1 dX11_voter_113 ci_1 ?_
            refine lv_iload hC.1 hC.2.1 dX11_voter_114 (lv_at hl 0 rfl) ?_
            refine lv_ishl hC.1 hC.2.1 dX11_voter_116 ?_
            refine lv_ior hC.1 hC.2.1 dX11_voter_117 ?_
            refine mw_put hC hM 1 (Nat.le_of_ble_eq_true rfl) (eC_1 V) inW4 tyX4 tyX4_ok nmX4 rfl 5 (by decide) q_216 (fun _ h9 => h9) rfl rfl rfl (Nat.le_of_ble_eq_true rfl) rfl dX11_voter_118 (fun H locs hM => ?_)
            refine lv_aload_n hC.1 hC.2.1 dX11_voter_121 rfl (lv_at hl 1 rfl) ?_
            refine mw_get (v := .ref (mvA V 1)) hC hM 0 (Nat.le_of_ble_eq_true rfl) (eC_0 V) inW11 rfl 0 (by decide) q_424 (fun _ h9 => h9) rfl dX11_voter_122 ?_
            refine lv_dup hC.1 hC.2.1 dX11_voter_125 rfl ?_
            refine mw_get (v := .int ((wr (wr (wr (wr (wr M 2 (Int32.toNatClampNeg (M 1 0)) p1) 3 (Int32.toNatClampNeg (M 1 0)) p2) 4 (Int32.toNatClampNeg (M 1 0)) p3) 5 (Int32.toNatClampNeg (M 1 0)) p4) 1 5 (((wr (wr (wr (wr M 2 (Int32.toNatClampNeg (M 1 0)) p1) 3 (Int32.toNatClampNeg (M 1 0)) p2) 4 (Int32.toNatClampNeg (M 1 0)) p3) 5 (Int32.toNatClampNeg (M 1 0)) p4) 1 5) ||| (1 <<< ((M 1 0) &&& 31)))) 1 0)) hC hM 1 (Nat.le_of_ble_eq_true rfl) (eC_1 V) inW4 rfl 0 (by decide) q_206 (fun _ h9 => h9) rfl dX11_voter_126 ?_
            refine lv_iconst hC.1 hC.2.1 dX11_voter_129 ci_1 ?_
            refine lv_iadd hC.1 hC.2.1 dX11_voter_130 ?_
            refine mw_put hC hM 1 (Nat.le_of_ble_eq_true rfl) (eC_1 V) inW4 tyX4 tyX4_ok nmX4 rfl 0 (by decide) q_206 (fun _ h9 => h9) rfl rfl rfl (Nat.le_of_ble_eq_true rfl) rfl dX11_voter_131 (fun H locs hM => ?_)
            refine lv_aload_n hC.1 hC.2.1 dX11_voter_134 rfl (lv_at hl 1 rfl) ?_
            obtain ⟨r9, M11, hq10, hf⟩ := o_b2 hf
            refine mw_cVv (As := []) (rest := []) hC hM (mcX11_forgetSums V l (wr (wr (wr (wr (wr (wr M 2 (Int32.toNatClampNeg (M 1 0)) p1) 3 (Int32.toNatClampNeg (M 1 0)) p2) 4 (Int32.toNatClampNeg (M 1 0)) p3) 5 (Int32.toNatClampNeg (M 1 0)) p4) 1 5 (((wr (wr (wr (wr M 2 (Int32.toNatClampNeg (M 1 0)) p1) 3 (Int32.toNatClampNeg (M 1 0)) p2) 4 (Int32.toNatClampNeg (M 1 0)) p3) 5 (Int32.toNatClampNeg (M 1 0)) p4) 1 5) ||| (1 <<< ((M 1 0) &&& 31)))) 1 0 (((wr (wr (wr (wr (wr M 2 (Int32.toNatClampNeg (M 1 0)) p1) 3 (Int32.toNatClampNeg (M 1 0)) p2) 4 (Int32.toNatClampNeg (M 1 0)) p3) 5 (Int32.toNatClampNeg (M 1 0)) p4) 1 5 (((wr (wr (wr (wr M 2 (Int32.toNatClampNeg (M 1 0)) p1) 3 (Int32.toNatClampNeg (M 1 0)) p2) 4 (Int32.toNatClampNeg (M 1 0)) p3) 5 (Int32.toNatClampNeg (M 1 0)) p4) 1 5) ||| (1 <<< ((M 1 0) &&& 31)))) 1 0) + 1)) r9 M11 hq10) (mw_kV hC q_416 q_418 q_0 q_107 q_419 ⟨rfl, rfl⟩ kV_X11_forgetSums ⟨Nat.le_of_ble_eq_true rfl, Nat.le_of_ble_eq_true rfl⟩) (Nat.le_of_ble_eq_true rfl) (eC_0 V) rfl rfl rfl (Nat.le_of_ble_eq_true rfl) hl.1 dX11_voter_135 (fun H locs hM => ?_)
            refine lv_iload hC.1 hC.2.1 dX11_voter_138 (lv_at hl 0 rfl) ?_
            exact hret (o_r1 hf) (o_r2 hf hM) dX11_voter_140
          · have hf := o_f hc12 hf
            refine lv_bipush hC.1 hC.2.1 dX11_voter_48 cb_m2 ?_
            exact hret (o_r1 hf) (o_r2 hf hM) dX11_voter_50
        · have hf := o_t hc13 hf
          refine lv_iconst hC.1 hC.2.1 dX11_voter_34 ci_m1 ?_
          exact hret (o_r1 hf) (o_r2 hf hM) dX11_voter_35
set_option maxHeartbeats 4000000 in
set_option maxRecDepth 100000 in
theorem mcX11_isVoter (V : mV) (l : Launch) (M : mM) (p1 : Int32) (r : Int32) (hf : fX11_isVoter M p1 = r) : ZC V l yX11_isVoter cX11_isVoter 2 ({ frames := 0, cells := 0, slots := 0, locals := 0 } : Room) [.ref (mvA V 0), .int p1] M r M := by
  unfold fX11_isVoter at hf
  refine mw_enterZ RX11 rfl (by decide +kernel) (Nat.le_of_ble_eq_true rfl) (fun {p e s m args below meth c} ls A Q hC hret hM hl => ?_)
  have hl : lv_has ls 2 [(0, .ref (mvA V 0)), (1, .int p1)] := hl
  refine lv_iload_n hC.1 hC.2.1 dX11_isVoter_0 rfl (lv_at hl 1 rfl) ?_
  refine lv_if_lt (tgt := 19) hC.1 hC.2.1 dX11_isVoter_1 (by decide) (fun hc2 => ?_) (fun hc2 => ?_)
  · have hf := o_t hc2 hf
    refine lv_iconst hC.1 hC.2.1 dX11_isVoter_19 ci_0 ?_
    exact hret hf (Or.inl rfl) hM dX11_isVoter_20
  · have hf := o_f hc2 hf
    refine lv_iload_n hC.1 hC.2.1 dX11_isVoter_4 rfl (lv_at hl 1 rfl) ?_
    refine lv_aload_n hC.1 hC.2.1 dX11_isVoter_5 rfl (lv_at hl 0 rfl) ?_
    refine mw_get (v := .ref (mvA V 1)) hC hM 0 (Nat.le_of_ble_eq_true rfl) (eC_0 V) inW11 rfl 0 (by decide) q_424 (fun _ h9 => h9) rfl dX11_isVoter_6 ?_
    refine mw_get (v := .int (M 1 0)) hC hM 1 (Nat.le_of_ble_eq_true rfl) (eC_1 V) inW4 rfl 0 (by decide) q_206 (fun _ h9 => h9) rfl dX11_isVoter_9 ?_
    refine lv_icmp_ge (tgt := 19) hC.1 hC.2.1 dX11_isVoter_12 (by decide) (fun hc1 => ?_) (fun hc1 => ?_)
    · have hf := o_t hc1 hf
      refine lv_iconst hC.1 hC.2.1 dX11_isVoter_19 ci_0 ?_
      exact hret hf (Or.inl rfl) hM dX11_isVoter_20
    · have hf := o_f hc1 hf
      refine lv_iconst hC.1 hC.2.1 dX11_isVoter_15 ci_1 ?_
      refine lv_goto (tgt := 20) hC.1 hC.2.1 dX11_isVoter_16 (by decide) ?_
      exact hret hf (Or.inr rfl) hM dX11_isVoter_20
set_option maxHeartbeats 4000000 in
set_option maxRecDepth 100000 in
theorem mcX11_isAwake (V : mV) (l : Launch) (M : mM) (p1 : Int32) (r : Int32) (hf : fX11_isAwake M p1 = r) : ZC V l yX11_isAwake cX11_isAwake 2 ({ frames := 0, cells := 0, slots := 0, locals := 0 } : Room) [.ref (mvA V 0), .int p1] M r M := by
  unfold fX11_isAwake at hf
  refine mw_enterZ RX11 rfl (by decide +kernel) (Nat.le_of_ble_eq_true rfl) (fun {p e s m args below meth c} ls A Q hC hret hM hl => ?_)
  have hl : lv_has ls 2 [(0, .ref (mvA V 0)), (1, .int p1)] := hl
  refine lv_aload_n hC.1 hC.2.1 dX11_isAwake_0 rfl (lv_at hl 0 rfl) ?_
  refine mw_get (v := .ref (mvA V 1)) hC hM 0 (Nat.le_of_ble_eq_true rfl) (eC_0 V) inW11 rfl 0 (by decide) q_424 (fun _ h9 => h9) rfl dX11_isAwake_1 ?_
  refine mw_get (v := .int (M 1 5)) hC hM 1 (Nat.le_of_ble_eq_true rfl) (eC_1 V) inW4 rfl 5 (by decide) q_216 (fun _ h9 => h9) rfl dX11_isAwake_4 ?_
  refine lv_iload_n hC.1 hC.2.1 dX11_isAwake_7 rfl (lv_at hl 1 rfl) ?_
  refine lv_ishr hC.1 hC.2.1 dX11_isAwake_8 ?_
  refine lv_iconst hC.1 hC.2.1 dX11_isAwake_9 ci_1 ?_
  refine lv_iand hC.1 hC.2.1 dX11_isAwake_10 ?_
  refine lv_iconst hC.1 hC.2.1 dX11_isAwake_11 ci_1 ?_
  refine lv_icmp_ne (tgt := 19) hC.1 hC.2.1 dX11_isAwake_12 (by decide) (fun hc1 => ?_) (fun hc1 => ?_)
  · have hf := o_f hc1 hf
    refine lv_iconst hC.1 hC.2.1 dX11_isAwake_19 ci_0 ?_
    exact hret hf (Or.inl rfl) hM dX11_isAwake_20
  · have hf := o_t hc1 hf
    refine lv_iconst hC.1 hC.2.1 dX11_isAwake_15 ci_1 ?_
    refine lv_goto (tgt := 20) hC.1 hC.2.1 dX11_isAwake_16 (by decide) ?_
    exact hret hf (Or.inr rfl) hM dX11_isAwake_20
set_option maxHeartbeats 4000000 in
set_option maxRecDepth 100000 in
theorem mcJ9_floorMod_7cf53C (V : mV) (l : Launch) (M : mM) (p0 : Int32) (p1 : Int32) (r : Int32) (hf : fJ9_floorMod_7cf53C M p0 p1 = some r) : IC V l yJ9_floorMod_7cf53 cJ9_floorMod_7cf53 3 ({ frames := 0, cells := 0, slots := 0, locals := 0 } : Room) [.int p0, .int p1] M r M := by
  unfold fJ9_floorMod_7cf53C at hf
  refine mw_enterI RJ9 rfl (by decide +kernel) (Nat.le_of_ble_eq_true rfl) (fun {p e s m args below meth c} ls A Q hC hret hM hl => ?_)
  have hl : lv_has ls 3 [(0, .int p0), (1, .int p1)] := hl
  refine lv_iload_n hC.1 hC.2.1 dJ9_floorMod_7cf53_0 rfl (lv_at hl 0 rfl) ?_
  refine lv_iload_n hC.1 hC.2.1 dJ9_floorMod_7cf53_1 rfl (lv_at hl 1 rfl) ?_
  obtain ⟨hg1, hf⟩ := o_g hf
  refine mw_irem hC.1 hC.2.1 dJ9_floorMod_7cf53_2 (nz_ne hg1) ?_
  refine lv_istore_n (lv' := [(2, .int (irem p0 p1)), (0, .int p0), (1, .int p1)]) hC.1 hC.2.1 dJ9_floorMod_7cf53_3 rfl hl (Nat.le_of_ble_eq_true rfl) rfl (fun ls hl => ?_)
  refine lv_iload_n hC.1 hC.2.1 dJ9_floorMod_7cf53_4 rfl (lv_at hl 1 rfl) ?_
  refine lv_iload_n hC.1 hC.2.1 dJ9_floorMod_7cf53_5 rfl (lv_at hl 2 rfl) ?_
  refine lv_ixor hC.1 hC.2.1 dJ9_floorMod_7cf53_6 ?_
  refine lv_if_ge (tgt := 18) hC.1 hC.2.1 dJ9_floorMod_7cf53_7 (by decide) (fun hc3 => ?_) (fun hc3 => ?_)
  · have hf := o_t hc3 hf
    refine lv_iload_n hC.1 hC.2.1 dJ9_floorMod_7cf53_18 rfl (lv_at hl 0 rfl) ?_
    exact hret (Option.some.inj hf) hM dJ9_floorMod_7cf53_19
  · have hf := o_f hc3 hf
    refine lv_iload_n hC.1 hC.2.1 dJ9_floorMod_7cf53_10 rfl (lv_at hl 0 rfl) ?_
    refine lv_if_eq (tgt := 18) hC.1 hC.2.1 dJ9_floorMod_7cf53_11 (by decide) (fun hc2 => ?_) (fun hc2 => ?_)
    · have hf := o_t hc2 hf
      refine lv_iload_n hC.1 hC.2.1 dJ9_floorMod_7cf53_18 rfl (lv_at hl 0 rfl) ?_
      exact hret (Option.some.inj hf) hM dJ9_floorMod_7cf53_19
    · have hf := o_f hc2 hf
      refine lv_iload_n hC.1 hC.2.1 dJ9_floorMod_7cf53_14 rfl (lv_at hl 0 rfl) ?_
      refine lv_iload_n hC.1 hC.2.1 dJ9_floorMod_7cf53_15 rfl (lv_at hl 2 rfl) ?_
      refine lv_iadd hC.1 hC.2.1 dJ9_floorMod_7cf53_16 ?_
      exact hret (Option.some.inj hf) hM dJ9_floorMod_7cf53_17
set_option maxHeartbeats 4000000 in
set_option maxRecDepth 100000 in
theorem mcX11_voteAt (V : mV) (l : Launch) (M : mM) (p1 : Int32) (p2 : Int32) (r : Int32) (hf : fX11_voteAt M p1 p2 = some r) : IC V l yX11_voteAt cX11_voteAt 4 ({ frames := 1, cells := 0, slots := 0, locals := 22 } : Room) [.ref (mvA V 0), .int p1, .int p2] M r M := by
  unfold fX11_voteAt at hf
  refine mw_enterI RX11 rfl (by decide +kernel) (Nat.le_of_ble_eq_true rfl) (fun {p e s m args below meth c} ls A Q hC hret hM hl => ?_)
  have hl : lv_has ls 4 [(0, .ref (mvA V 0)), (1, .int p1), (2, .int p2)] := hl
  refine lv_aload_n hC.1 hC.2.1 dX11_voteAt_0 rfl (lv_at hl 0 rfl) ?_
  refine mw_get (v := .ref (mvA V 1)) hC hM 0 (Nat.le_of_ble_eq_true rfl) (eC_0 V) inW11 rfl 0 (by decide) q_424 (fun _ h9 => h9) rfl dX11_voteAt_1 ?_
  refine mw_get (v := .ref (mvA V 3)) hC hM 1 (Nat.le_of_ble_eq_true rfl) (eC_1 V) inW4 rfl 2 (by decide) q_211 (fun _ h9 => h9) rfl dX11_voteAt_4 ?_
  refine lv_iload_n hC.1 hC.2.1 dX11_voteAt_7 rfl (lv_at hl 1 rfl) ?_
  obtain ⟨hg1, hf⟩ := o_g hf
  refine mw_iald hC hM 3 0 (Nat.le_of_ble_eq_true rfl) (eC_3 V) rfl hg1 dX11_voteAt_8 ?_
  refine lv_iload_n hC.1 hC.2.1 dX11_voteAt_9 rfl (lv_at hl 2 rfl) ?_
  refine lv_isub hC.1 hC.2.1 dX11_voteAt_10 ?_
  refine lv_bipush hC.1 hC.2.1 dX11_voteAt_11 cb_24 ?_
  obtain ⟨r2, hq3, hf⟩ := o_b hf
  refine mw_cSi (As := [.int ((M 3 (Int32.toNatClampNeg p1)) - p2), .int 24]) (rest := []) hC hM (mcJ9_floorMod_7cf53C V l M ((M 3 (Int32.toNatClampNeg p1)) - p2) 24 r2 hq3) (mw_kS hC q_493 q_494 q_121 q_495 ⟨rfl, rfl⟩ kS_J9_floorMod_7cf53 ⟨Nat.le_of_ble_eq_true rfl, Nat.le_of_ble_eq_true rfl⟩) rfl rfl (Nat.le_of_ble_eq_true rfl) hl.1 dX11_voteAt_13 (fun H locs hM _ => ?_)
  refine lv_istore_n (lv' := [(3, .int r2), (0, .ref (mvA V 0)), (1, .int p1), (2, .int p2)]) hC.1 hC.2.1 dX11_voteAt_16 rfl hl (Nat.le_of_ble_eq_true rfl) rfl (fun ls hl => ?_)
  refine lv_iload_n hC.1 hC.2.1 dX11_voteAt_17 rfl (lv_at hl 0 rfl) ?_
  refine lv_if_ne (tgt := 25) hC.1 hC.2.1 dX11_voteAt_18 (by decide) (fun hc5 => ?_) (fun hc5 => ?_)
  · have hf := o_f hc5 hf
    refine lv_iload_n hC.1 hC.2.1 dX11_voteAt_25 rfl (lv_at hl 0 rfl) ?_
    refine lv_bipush hC.1 hC.2.1 dX11_voteAt_26 cb_12 ?_
    refine lv_icmp_gt (tgt := 35) hC.1 hC.2.1 dX11_voteAt_28 (by decide) (fun hc4 => ?_) (fun hc4 => ?_)
    · have hf := o_t hc4 hf
      refine lv_iconst hC.1 hC.2.1 dX11_voteAt_35 ci_m1 ?_
      exact hret (Option.some.inj hf) hM dX11_voteAt_36
    · have hf := o_f hc4 hf
      refine lv_iconst hC.1 hC.2.1 dX11_voteAt_31 ci_1 ?_
      refine lv_goto (tgt := 36) hC.1 hC.2.1 dX11_voteAt_32 (by decide) ?_
      exact hret (Option.some.inj hf) hM dX11_voteAt_36
  · have hf := o_t hc5 hf
    refine lv_iconst hC.1 hC.2.1 dX11_voteAt_21 ci_0 ?_
    refine lv_goto (tgt := 36) hC.1 hC.2.1 dX11_voteAt_22 (by decide) ?_
    exact hret (Option.some.inj hf) hM dX11_voteAt_36
set_option maxHeartbeats 4000000 in
set_option maxRecDepth 100000 in
theorem mcJ6_bitCount_0f7a4C (V : mV) (l : Launch) (M : mM) (p0 : Int32) (r : Int32) (hf : fJ6_bitCount_0f7a4C p0 = r) : IC V l yJ6_bitCount_0f7a4 cJ6_bitCount_0f7a4 1 ({ frames := 0, cells := 0, slots := 0, locals := 0 } : Room) [.int p0] M r M := by
  unfold fJ6_bitCount_0f7a4C at hf
  refine mw_enterI RJ6 rfl (by decide +kernel) (Nat.le_of_ble_eq_true rfl) (fun {p e s m args below meth c} ls A Q hC hret hM hl => ?_)
  have hl : lv_has ls 1 [(0, .int p0)] := hl
  refine lv_iload_n hC.1 hC.2.1 dJ6_bitCount_0f7a4_0 rfl (lv_at hl 0 rfl) ?_
  refine lv_iload_n hC.1 hC.2.1 dJ6_bitCount_0f7a4_1 rfl (lv_at hl 0 rfl) ?_
  refine lv_iconst hC.1 hC.2.1 dJ6_bitCount_0f7a4_2 ci_1 ?_
  refine lv_iushr (v := (iushr p0 1)) hC.1 hC.2.1 dJ6_bitCount_0f7a4_3 rfl ?_
  refine lv_ldcw hC.1 hC.2.1 hC.2.2.2.1 (mw_w hC q_499) dJ6_bitCount_0f7a4_4 ?_
  refine lv_iand hC.1 hC.2.1 dJ6_bitCount_0f7a4_7 ?_
  refine lv_isub hC.1 hC.2.1 dJ6_bitCount_0f7a4_8 ?_
  refine lv_istore_n (lv' := [(0, .int (p0 - ((iushr p0 1) &&& 1431655765)))]) hC.1 hC.2.1 dJ6_bitCount_0f7a4_9 rfl hl (Nat.le_of_ble_eq_true rfl) rfl (fun ls hl => ?_)
  refine lv_iload_n hC.1 hC.2.1 dJ6_bitCount_0f7a4_10 rfl (lv_at hl 0 rfl) ?_
  refine lv_ldcw hC.1 hC.2.1 hC.2.2.2.1 (mw_w hC q_500) dJ6_bitCount_0f7a4_11 ?_
  refine lv_iand hC.1 hC.2.1 dJ6_bitCount_0f7a4_14 ?_
  refine lv_iload_n hC.1 hC.2.1 dJ6_bitCount_0f7a4_15 rfl (lv_at hl 0 rfl) ?_
  refine lv_iconst hC.1 hC.2.1 dJ6_bitCount_0f7a4_16 ci_2 ?_
  refine lv_iushr (v := (iushr (p0 - ((iushr p0 1) &&& 1431655765)) 2)) hC.1 hC.2.1 dJ6_bitCount_0f7a4_17 rfl ?_
  refine lv_ldcw hC.1 hC.2.1 hC.2.2.2.1 (mw_w hC q_500) dJ6_bitCount_0f7a4_18 ?_
  refine lv_iand hC.1 hC.2.1 dJ6_bitCount_0f7a4_21 ?_
  refine lv_iadd hC.1 hC.2.1 dJ6_bitCount_0f7a4_22 ?_
  refine lv_istore_n (lv' := [(0, .int (((p0 - ((iushr p0 1) &&& 1431655765)) &&& 858993459) + ((iushr (p0 - ((iushr p0 1) &&& 1431655765)) 2) &&& 858993459)))]) hC.1 hC.2.1 dJ6_bitCount_0f7a4_23 rfl hl (Nat.le_of_ble_eq_true rfl) rfl (fun ls hl => ?_)
  refine lv_iload_n hC.1 hC.2.1 dJ6_bitCount_0f7a4_24 rfl (lv_at hl 0 rfl) ?_
  refine lv_iload_n hC.1 hC.2.1 dJ6_bitCount_0f7a4_25 rfl (lv_at hl 0 rfl) ?_
  refine lv_iconst hC.1 hC.2.1 dJ6_bitCount_0f7a4_26 ci_4 ?_
  refine lv_iushr (v := (iushr (((p0 - ((iushr p0 1) &&& 1431655765)) &&& 858993459) + ((iushr (p0 - ((iushr p0 1) &&& 1431655765)) 2) &&& 858993459)) 4)) hC.1 hC.2.1 dJ6_bitCount_0f7a4_27 rfl ?_
  refine lv_iadd hC.1 hC.2.1 dJ6_bitCount_0f7a4_28 ?_
  refine lv_ldcw hC.1 hC.2.1 hC.2.2.2.1 (mw_w hC q_501) dJ6_bitCount_0f7a4_29 ?_
  refine lv_iand hC.1 hC.2.1 dJ6_bitCount_0f7a4_32 ?_
  refine lv_istore_n (lv' := [(0, .int (((((p0 - ((iushr p0 1) &&& 1431655765)) &&& 858993459) + ((iushr (p0 - ((iushr p0 1) &&& 1431655765)) 2) &&& 858993459)) + (iushr (((p0 - ((iushr p0 1) &&& 1431655765)) &&& 858993459) + ((iushr (p0 - ((iushr p0 1) &&& 1431655765)) 2) &&& 858993459)) 4)) &&& 252645135))]) hC.1 hC.2.1 dJ6_bitCount_0f7a4_33 rfl hl (Nat.le_of_ble_eq_true rfl) rfl (fun ls hl => ?_)
  refine lv_iload_n hC.1 hC.2.1 dJ6_bitCount_0f7a4_34 rfl (lv_at hl 0 rfl) ?_
  refine lv_iload_n hC.1 hC.2.1 dJ6_bitCount_0f7a4_35 rfl (lv_at hl 0 rfl) ?_
  refine lv_bipush hC.1 hC.2.1 dJ6_bitCount_0f7a4_36 cb_8 ?_
  refine lv_iushr (v := (iushr (((((p0 - ((iushr p0 1) &&& 1431655765)) &&& 858993459) + ((iushr (p0 - ((iushr p0 1) &&& 1431655765)) 2) &&& 858993459)) + (iushr (((p0 - ((iushr p0 1) &&& 1431655765)) &&& 858993459) + ((iushr (p0 - ((iushr p0 1) &&& 1431655765)) 2) &&& 858993459)) 4)) &&& 252645135) 8)) hC.1 hC.2.1 dJ6_bitCount_0f7a4_38 rfl ?_
  refine lv_iadd hC.1 hC.2.1 dJ6_bitCount_0f7a4_39 ?_
  refine lv_istore_n (lv' := [(0, .int ((((((p0 - ((iushr p0 1) &&& 1431655765)) &&& 858993459) + ((iushr (p0 - ((iushr p0 1) &&& 1431655765)) 2) &&& 858993459)) + (iushr (((p0 - ((iushr p0 1) &&& 1431655765)) &&& 858993459) + ((iushr (p0 - ((iushr p0 1) &&& 1431655765)) 2) &&& 858993459)) 4)) &&& 252645135) + (iushr (((((p0 - ((iushr p0 1) &&& 1431655765)) &&& 858993459) + ((iushr (p0 - ((iushr p0 1) &&& 1431655765)) 2) &&& 858993459)) + (iushr (((p0 - ((iushr p0 1) &&& 1431655765)) &&& 858993459) + ((iushr (p0 - ((iushr p0 1) &&& 1431655765)) 2) &&& 858993459)) 4)) &&& 252645135) 8)))]) hC.1 hC.2.1 dJ6_bitCount_0f7a4_40 rfl hl (Nat.le_of_ble_eq_true rfl) rfl (fun ls hl => ?_)
  refine lv_iload_n hC.1 hC.2.1 dJ6_bitCount_0f7a4_41 rfl (lv_at hl 0 rfl) ?_
  refine lv_iload_n hC.1 hC.2.1 dJ6_bitCount_0f7a4_42 rfl (lv_at hl 0 rfl) ?_
  refine lv_bipush hC.1 hC.2.1 dJ6_bitCount_0f7a4_43 cb_16 ?_
  refine lv_iushr (v := (iushr ((((((p0 - ((iushr p0 1) &&& 1431655765)) &&& 858993459) + ((iushr (p0 - ((iushr p0 1) &&& 1431655765)) 2) &&& 858993459)) + (iushr (((p0 - ((iushr p0 1) &&& 1431655765)) &&& 858993459) + ((iushr (p0 - ((iushr p0 1) &&& 1431655765)) 2) &&& 858993459)) 4)) &&& 252645135) + (iushr (((((p0 - ((iushr p0 1) &&& 1431655765)) &&& 858993459) + ((iushr (p0 - ((iushr p0 1) &&& 1431655765)) 2) &&& 858993459)) + (iushr (((p0 - ((iushr p0 1) &&& 1431655765)) &&& 858993459) + ((iushr (p0 - ((iushr p0 1) &&& 1431655765)) 2) &&& 858993459)) 4)) &&& 252645135) 8)) 16)) hC.1 hC.2.1 dJ6_bitCount_0f7a4_45 rfl ?_
  refine lv_iadd hC.1 hC.2.1 dJ6_bitCount_0f7a4_46 ?_
  refine lv_istore_n (lv' := [(0, .int (((((((p0 - ((iushr p0 1) &&& 1431655765)) &&& 858993459) + ((iushr (p0 - ((iushr p0 1) &&& 1431655765)) 2) &&& 858993459)) + (iushr (((p0 - ((iushr p0 1) &&& 1431655765)) &&& 858993459) + ((iushr (p0 - ((iushr p0 1) &&& 1431655765)) 2) &&& 858993459)) 4)) &&& 252645135) + (iushr (((((p0 - ((iushr p0 1) &&& 1431655765)) &&& 858993459) + ((iushr (p0 - ((iushr p0 1) &&& 1431655765)) 2) &&& 858993459)) + (iushr (((p0 - ((iushr p0 1) &&& 1431655765)) &&& 858993459) + ((iushr (p0 - ((iushr p0 1) &&& 1431655765)) 2) &&& 858993459)) 4)) &&& 252645135) 8)) + (iushr ((((((p0 - ((iushr p0 1) &&& 1431655765)) &&& 858993459) + ((iushr (p0 - ((iushr p0 1) &&& 1431655765)) 2) &&& 858993459)) + (iushr (((p0 - ((iushr p0 1) &&& 1431655765)) &&& 858993459) + ((iushr (p0 - ((iushr p0 1) &&& 1431655765)) 2) &&& 858993459)) 4)) &&& 252645135) + (iushr (((((p0 - ((iushr p0 1) &&& 1431655765)) &&& 858993459) + ((iushr (p0 - ((iushr p0 1) &&& 1431655765)) 2) &&& 858993459)) + (iushr (((p0 - ((iushr p0 1) &&& 1431655765)) &&& 858993459) + ((iushr (p0 - ((iushr p0 1) &&& 1431655765)) 2) &&& 858993459)) 4)) &&& 252645135) 8)) 16)))]) hC.1 hC.2.1 dJ6_bitCount_0f7a4_47 rfl hl (Nat.le_of_ble_eq_true rfl) rfl (fun ls hl => ?_)
  refine lv_iload_n hC.1 hC.2.1 dJ6_bitCount_0f7a4_48 rfl (lv_at hl 0 rfl) ?_
  refine lv_bipush hC.1 hC.2.1 dJ6_bitCount_0f7a4_49 cb_63 ?_
  refine lv_iand hC.1 hC.2.1 dJ6_bitCount_0f7a4_51 ?_
  exact hret hf hM dJ6_bitCount_0f7a4_52
set_option maxHeartbeats 4000000 in
set_option maxRecDepth 100000 in
theorem mcX11_isUnder (V : mV) (l : Launch) (M : mM) (p0 : Int32) (p1 : Int32) (r : Int32) (hf : fX11_isUnder M p0 p1 = r) : ZC V l yX11_isUnder cX11_isUnder 2 ({ frames := 0, cells := 0, slots := 0, locals := 0 } : Room) [.int p0, .int p1] M r M := by
  unfold fX11_isUnder at hf
  refine mw_enterZ RX11 rfl (by decide +kernel) (Nat.le_of_ble_eq_true rfl) (fun {p e s m args below meth c} ls A Q hC hret hM hl => ?_)
  have hl : lv_has ls 2 [(0, .int p0), (1, .int p1)] := hl
  have hL19 : ∀ (x0 : Int32) (x1 : Int32) (H : Heap) (locs : List Loc) (ls : Array Slot), fX11_isUnder_L19 M x0 x1 = r → PC V M A s H locs → lv_has ls 2 [(0, .int x0), (1, .int x1)] → W p l e ({ frames := 0, cells := 0, slots := 0, locals := 0 } : Room) s m args below meth c H locs 0 0 Q (F0 m 19 ls []) := by
    intro x0 x1 H locs ls hf hM hl
    unfold fX11_isUnder_L19 at hf
    refine lv_iload_n hC.1 hC.2.1 dX11_isUnder_19 rfl (lv_at hl 1 rfl) ?_
    refine lv_iconst hC.1 hC.2.1 dX11_isUnder_20 ci_4 ?_
    refine lv_icmp_ne (tgt := 33) hC.1 hC.2.1 dX11_isUnder_21 (by decide) (fun hc6 => ?_) (fun hc6 => ?_)
    · have hf := o_f hc6 hf
      refine lv_iconst hC.1 hC.2.1 dX11_isUnder_33 ci_0 ?_
      exact hret hf (Or.inl rfl) hM dX11_isUnder_34
    · have hf := o_t hc6 hf
      refine lv_iload_n hC.1 hC.2.1 dX11_isUnder_24 rfl (lv_at hl 0 rfl) ?_
      refine lv_iconst hC.1 hC.2.1 dX11_isUnder_25 ci_5 ?_
      refine lv_icmp_ne (tgt := 33) hC.1 hC.2.1 dX11_isUnder_26 (by decide) (fun hc5 => ?_) (fun hc5 => ?_)
      · have hf := o_f hc5 hf
        refine lv_iconst hC.1 hC.2.1 dX11_isUnder_33 ci_0 ?_
        exact hret hf (Or.inl rfl) hM dX11_isUnder_34
      · have hf := o_t hc5 hf
        refine lv_iconst hC.1 hC.2.1 dX11_isUnder_29 ci_1 ?_
        refine lv_goto (tgt := 34) hC.1 hC.2.1 dX11_isUnder_30 (by decide) ?_
        exact hret hf (Or.inr rfl) hM dX11_isUnder_34
  refine lv_iload_n hC.1 hC.2.1 dX11_isUnder_0 rfl (lv_at hl 1 rfl) ?_
  refine lv_if_eq (tgt := 29) hC.1 hC.2.1 dX11_isUnder_1 (by decide) (fun hc4 => ?_) (fun hc4 => ?_)
  · have hf := o_t hc4 hf
    refine lv_iconst hC.1 hC.2.1 dX11_isUnder_29 ci_1 ?_
    refine lv_goto (tgt := 34) hC.1 hC.2.1 dX11_isUnder_30 (by decide) ?_
    exact hret hf (Or.inr rfl) hM dX11_isUnder_34
  · have hf := o_f hc4 hf
    refine lv_iload_n hC.1 hC.2.1 dX11_isUnder_4 rfl (lv_at hl 1 rfl) ?_
    refine lv_iload_n hC.1 hC.2.1 dX11_isUnder_5 rfl (lv_at hl 0 rfl) ?_
    refine lv_icmp_eq (tgt := 29) hC.1 hC.2.1 dX11_isUnder_6 (by decide) (fun hc3 => ?_) (fun hc3 => ?_)
    · have hf := o_t hc3 hf
      refine lv_iconst hC.1 hC.2.1 dX11_isUnder_29 ci_1 ?_
      refine lv_goto (tgt := 34) hC.1 hC.2.1 dX11_isUnder_30 (by decide) ?_
      exact hret hf (Or.inr rfl) hM dX11_isUnder_34
    · have hf := o_f hc3 hf
      refine lv_iload_n hC.1 hC.2.1 dX11_isUnder_9 rfl (lv_at hl 1 rfl) ?_
      refine lv_iconst hC.1 hC.2.1 dX11_isUnder_10 ci_2 ?_
      refine lv_icmp_ne (tgt := 19) hC.1 hC.2.1 dX11_isUnder_11 (by decide) (fun hc2 => ?_) (fun hc2 => ?_)
      · have hf := o_f hc2 hf
        exact hL19 _ _ _ _ _ hf hM (lv_sub hl [0, 1] rfl)
      · have hf := o_t hc2 hf
        refine lv_iload_n hC.1 hC.2.1 dX11_isUnder_14 rfl (lv_at hl 0 rfl) ?_
        refine lv_iconst hC.1 hC.2.1 dX11_isUnder_15 ci_3 ?_
        refine lv_icmp_eq (tgt := 29) hC.1 hC.2.1 dX11_isUnder_16 (by decide) (fun hc1 => ?_) (fun hc1 => ?_)
        · have hf := o_t hc1 hf
          refine lv_iconst hC.1 hC.2.1 dX11_isUnder_29 ci_1 ?_
          refine lv_goto (tgt := 34) hC.1 hC.2.1 dX11_isUnder_30 (by decide) ?_
          exact hret hf (Or.inr rfl) hM dX11_isUnder_34
        · have hf := o_f hc1 hf
          exact hL19 _ _ _ _ _ hf hM (lv_sub hl [0, 1] rfl)
set_option maxHeartbeats 4000000 in
set_option maxRecDepth 100000 in
theorem mcX6_holds_q8 (V : mV) (l : Launch) (M : mM) (p1 : Int32) (r : Int32) (hf : fX6_holds_q8 M p1 = some r) : ZC V l yX6_holds cX6_holds 6 ({ frames := 0, cells := 0, slots := 0, locals := 0 } : Room) [.ref (mvA V 8), .int p1] M r M := by
  unfold fX6_holds_q8 at hf
  refine mw_enterZ RX6 rfl (by decide +kernel) (Nat.le_of_ble_eq_true rfl) (fun {p e s m args below meth c} ls A Q hC hret hM hl => ?_)
  have hl : lv_has ls 6 [(0, .ref (mvA V 8)), (1, .int p1)] := hl
  have hL19 : ∀ (n : Nat) (x1 : Int32) (x2 : Int32) (x3 : Int32) (H : Heap) (locs : List Loc) (ls : Array Slot), fX6_holds_q8_L19 n M x1 x2 x3 = some r → PC V M A s H locs → lv_has ls 6 [(0, .ref (mvA V 8)), (1, .int x1), (2, .int x2), (3, .int x3)] → W p l e ({ frames := 0, cells := 0, slots := 0, locals := 0 } : Room) s m args below meth c H locs 0 0 Q (F0 m 19 ls []) := by
    intro n13
    induction n13 with
    | zero => intro x1 x2 x3 H locs ls hf; cases hf
    | succ n13 ih13 =>
      intro x1 x2 x3 H locs ls hf hM hl
      have hf : fX6_holds_q8_L19_b (fX6_holds_q8_L19 n13) M x1 x2 x3 = some r := hf
      unfold fX6_holds_q8_L19_b at hf
      refine lv_iload_n hC.1 hC.2.1 dX6_holds_19 rfl (lv_at hl 3 rfl) ?_
      refine lv_aload_n hC.1 hC.2.1 dX6_holds_20 rfl (lv_at hl 0 rfl) ?_
      refine mw_get (v := .ref (mvA V 12)) hC hM 8 (Nat.le_of_ble_eq_true rfl) (eC_8 V) inW6 rfl 4 (by decide) q_174 (fun _ h9 => h9) rfl dX6_holds_21 ?_
      refine lv_iload_n hC.1 hC.2.1 dX6_holds_24 rfl (lv_at hl 1 rfl) ?_
      obtain ⟨hg3, hf⟩ := o_g hf
      refine mw_iald hC hM 12 0 (Nat.le_of_ble_eq_true rfl) (eC_12 V) rfl hg3 dX6_holds_25 ?_
      refine lv_icmp_ge (tgt := 221) hC.1 hC.2.1 dX6_holds_26 (by decide) (fun hc26 => ?_) (fun hc26 => ?_)
      · have hf := o_t hc26 hf
        refine lv_iload_n hC.1 hC.2.1 dX6_holds_221 rfl (lv_at hl 2 rfl) ?_
        refine lv_iconst hC.1 hC.2.1 dX6_holds_222 ci_1 ?_
        refine lv_iand hC.1 hC.2.1 dX6_holds_223 ?_
        refine lv_iconst hC.1 hC.2.1 dX6_holds_224 ci_1 ?_
        refine lv_icmp_ne (tgt := 232) hC.1 hC.2.1 dX6_holds_225 (by decide) (fun hc4 => ?_) (fun hc4 => ?_)
        · have hf := o_f hc4 hf
          refine lv_iconst hC.1 hC.2.1 dX6_holds_232 ci_0 ?_
          exact hret (Option.some.inj hf) (Or.inl rfl) hM dX6_holds_233
        · have hf := o_t hc4 hf
          refine lv_iconst hC.1 hC.2.1 dX6_holds_228 ci_1 ?_
          refine lv_goto (tgt := 233) hC.1 hC.2.1 dX6_holds_229 (by decide) ?_
          exact hret (Option.some.inj hf) (Or.inr rfl) hM dX6_holds_233
      · have hf := o_f hc26 hf
        refine lv_aload_n hC.1 hC.2.1 dX6_holds_29 rfl (lv_at hl 0 rfl) ?_
        refine mw_get (v := .ref (mvA V 16)) hC hM 8 (Nat.le_of_ble_eq_true rfl) (eC_8 V) inW6 rfl 10 (by decide) q_180 (fun _ h9 => h9) rfl dX6_holds_30 ?_
        refine lv_aload_n hC.1 hC.2.1 dX6_holds_33 rfl (lv_at hl 0 rfl) ?_
        refine mw_get (v := .ref (mvA V 14)) hC hM 8 (Nat.le_of_ble_eq_true rfl) (eC_8 V) inW6 rfl 7 (by decide) q_177 (fun _ h9 => h9) rfl dX6_holds_34 ?_
        refine lv_iload_n hC.1 hC.2.1 dX6_holds_37 rfl (lv_at hl 3 rfl) ?_
        obtain ⟨hg5, hf⟩ := o_g hf
        refine mw_iald hC hM 14 0 (Nat.le_of_ble_eq_true rfl) (eC_14 V) rfl hg5 dX6_holds_38 ?_
        obtain ⟨hg6, hf⟩ := o_g hf
        refine mw_iald hC hM 16 0 (Nat.le_of_ble_eq_true rfl) (eC_16 V) rfl hg6 dX6_holds_39 ?_
        refine lv_istore (lv' := [(4, .int (M 16 (Int32.toNatClampNeg (M 14 (Int32.toNatClampNeg x3))))), (0, .ref (mvA V 8)), (1, .int x1), (2, .int x2), (3, .int x3)]) hC.1 hC.2.1 dX6_holds_40 hl (Nat.le_of_ble_eq_true rfl) rfl (fun ls hl => ?_)
        refine lv_aload_n hC.1 hC.2.1 dX6_holds_42 rfl (lv_at hl 1 rfl) ?_
        refine mw_get (v := .ref (mvA V 16)) hC hM 8 (Nat.le_of_ble_eq_true rfl) (eC_8 V) inW6 rfl 10 (by decide) q_180 (fun _ h9 => h9) rfl dX6_holds_43 ?_
        refine lv_aload_n hC.1 hC.2.1 dX6_holds_46 rfl (lv_at hl 1 rfl) ?_
        refine mw_get (v := .ref (mvA V 15)) hC hM 8 (Nat.le_of_ble_eq_true rfl) (eC_8 V) inW6 rfl 8 (by decide) q_178 (fun _ h9 => h9) rfl dX6_holds_47 ?_
        refine lv_iload_n hC.1 hC.2.1 dX6_holds_50 rfl (lv_at hl 4 rfl) ?_
        obtain ⟨hg7, hf⟩ := o_g hf
        refine mw_iald hC hM 15 0 (Nat.le_of_ble_eq_true rfl) (eC_15 V) rfl hg7 dX6_holds_51 ?_
        obtain ⟨hg8, hf⟩ := o_g hf
        refine mw_iald hC hM 16 0 (Nat.le_of_ble_eq_true rfl) (eC_16 V) rfl hg8 dX6_holds_52 ?_
        refine lv_istore (lv' := [(5, .int (M 16 (Int32.toNatClampNeg (M 15 (Int32.toNatClampNeg x3))))), (4, .int (M 16 (Int32.toNatClampNeg (M 14 (Int32.toNatClampNeg x3))))), (0, .ref (mvA V 8)), (1, .int x1), (2, .int x2), (3, .int x3)]) hC.1 hC.2.1 dX6_holds_53 hl (Nat.le_of_ble_eq_true rfl) rfl (fun ls hl => ?_)
        refine lv_aload_n hC.1 hC.2.1 dX6_holds_55 rfl (lv_at hl 2 rfl) ?_
        refine mw_get (v := .ref (mvA V 13)) hC hM 8 (Nat.le_of_ble_eq_true rfl) (eC_8 V) inW6 rfl 6 (by decide) q_176 (fun _ h9 => h9) rfl dX6_holds_56 ?_
        refine lv_iload_n hC.1 hC.2.1 dX6_holds_59 rfl (lv_at hl 5 rfl) ?_
        obtain ⟨hg9, hf⟩ := o_g hf
        refine mw_iald hC hM 13 0 (Nat.le_of_ble_eq_true rfl) (eC_13 V) rfl hg9 dX6_holds_60 ?_
        by_cases hc10 : (M 13 (Int32.toNatClampNeg x3)) = 21
        · have hf := o_t hc10 hf
          refine lv_tableIn (off := 134) (tgt := 195) hC.1 hC.2.1 dX6_holds_61 (by rw [hc10]; decide) (by rw [hc10]; decide) (by rw [hc10]; rfl) (by decide) ?_
          refine lv_iload_n hC.1 hC.2.1 dX6_holds_195 rfl (lv_at hl 4 rfl) ?_
          refine lv_iconst hC.1 hC.2.1 dX6_holds_196 ci_1 ?_
          refine lv_ishr hC.1 hC.2.1 dX6_holds_197 ?_
          refine lv_iload_n hC.1 hC.2.1 dX6_holds_198 rfl (lv_at hl 4 rfl) ?_
          refine lv_bipush hC.1 hC.2.1 dX6_holds_199 cb_m2 ?_
          refine lv_ior hC.1 hC.2.1 dX6_holds_201 ?_
          refine lv_iand hC.1 hC.2.1 dX6_holds_202 ?_
          refine lv_istore_n (lv' := [(2, .int ((x2 >>> (1 &&& 31)) &&& (x2 ||| (-2)))), (5, .int (M 16 (Int32.toNatClampNeg (M 15 (Int32.toNatClampNeg x3))))), (4, .int (M 16 (Int32.toNatClampNeg (M 14 (Int32.toNatClampNeg x3))))), (0, .ref (mvA V 8)), (1, .int x1), (3, .int x3)]) hC.1 hC.2.1 dX6_holds_203 rfl hl (Nat.le_of_ble_eq_true rfl) rfl (fun ls hl => ?_)
          refine lv_goto (tgt := 215) hC.1 hC.2.1 dX6_holds_204 (by decide) ?_
          refine lv_iinc (k := 5) (lv' := [(3, .int (x3 + 1)), (2, .int ((x2 >>> (1 &&& 31)) &&& (x2 ||| (-2)))), (5, .int (M 16 (Int32.toNatClampNeg (M 15 (Int32.toNatClampNeg x3))))), (4, .int (M 16 (Int32.toNatClampNeg (M 14 (Int32.toNatClampNeg x3))))), (0, .ref (mvA V 8)), (1, .int x1)]) hC.1 hC.2.1 dX6_holds_215 hl rfl (inc_1 _) (Nat.le_of_ble_eq_true rfl) rfl (fun ls hl => ?_)
          refine lv_goto (tgt := 19) hC.1 hC.2.1 dX6_holds_218 (by decide) ?_
          exact ih13 _ _ _ _ _ _ hf hM (lv_sub hl [4, 5, 1, 0] rfl)
        have hf := o_f hc10 hf
        by_cases hc11 : (M 13 (Int32.toNatClampNeg x3)) = 22
        · have hf := o_t hc11 hf
          refine lv_tableIn (off := 146) (tgt := 207) hC.1 hC.2.1 dX6_holds_61 (by rw [hc11]; decide) (by rw [hc11]; decide) (by rw [hc11]; rfl) (by decide) ?_
          refine lv_iload_n hC.1 hC.2.1 dX6_holds_207 rfl (lv_at hl 4 rfl) ?_
          refine lv_iconst hC.1 hC.2.1 dX6_holds_208 ci_1 ?_
          refine lv_ishr hC.1 hC.2.1 dX6_holds_209 ?_
          refine lv_iload_n hC.1 hC.2.1 dX6_holds_210 rfl (lv_at hl 4 rfl) ?_
          refine lv_iconst hC.1 hC.2.1 dX6_holds_211 ci_1 ?_
          refine lv_iand hC.1 hC.2.1 dX6_holds_212 ?_
          refine lv_ior hC.1 hC.2.1 dX6_holds_213 ?_
          refine lv_istore_n (lv' := [(2, .int ((x2 >>> (1 &&& 31)) ||| (x2 &&& 1))), (5, .int (M 16 (Int32.toNatClampNeg (M 15 (Int32.toNatClampNeg x3))))), (4, .int (M 16 (Int32.toNatClampNeg (M 14 (Int32.toNatClampNeg x3))))), (0, .ref (mvA V 8)), (1, .int x1), (3, .int x3)]) hC.1 hC.2.1 dX6_holds_214 rfl hl (Nat.le_of_ble_eq_true rfl) rfl (fun ls hl => ?_)
          refine lv_iinc (k := 5) (lv' := [(3, .int (x3 + 1)), (2, .int ((x2 >>> (1 &&& 31)) ||| (x2 &&& 1))), (5, .int (M 16 (Int32.toNatClampNeg (M 15 (Int32.toNatClampNeg x3))))), (4, .int (M 16 (Int32.toNatClampNeg (M 14 (Int32.toNatClampNeg x3))))), (0, .ref (mvA V 8)), (1, .int x1)]) hC.1 hC.2.1 dX6_holds_215 hl rfl (inc_1 _) (Nat.le_of_ble_eq_true rfl) rfl (fun ls hl => ?_)
          refine lv_goto (tgt := 19) hC.1 hC.2.1 dX6_holds_218 (by decide) ?_
          exact ih13 _ _ _ _ _ _ hf hM (lv_sub hl [4, 5, 1, 0] rfl)
        have hf := o_f hc11 hf
        by_cases hc12 : (M 13 (Int32.toNatClampNeg x3)) = 23
        · have hf := o_t hc12 hf
          refine lv_tableIn (off := 127) (tgt := 188) hC.1 hC.2.1 dX6_holds_61 (by rw [hc12]; decide) (by rw [hc12]; decide) (by rw [hc12]; rfl) (by decide) ?_
          refine lv_iload_n hC.1 hC.2.1 dX6_holds_188 rfl (lv_at hl 4 rfl) ?_
          refine lv_iconst hC.1 hC.2.1 dX6_holds_189 ci_1 ?_
          refine lv_ixor hC.1 hC.2.1 dX6_holds_190 ?_
          refine lv_istore_n (lv' := [(2, .int (x2 ^^^ 1)), (5, .int (M 16 (Int32.toNatClampNeg (M 15 (Int32.toNatClampNeg x3))))), (4, .int (M 16 (Int32.toNatClampNeg (M 14 (Int32.toNatClampNeg x3))))), (0, .ref (mvA V 8)), (1, .int x1), (3, .int x3)]) hC.1 hC.2.1 dX6_holds_191 rfl hl (Nat.le_of_ble_eq_true rfl) rfl (fun ls hl => ?_)
          refine lv_goto (tgt := 215) hC.1 hC.2.1 dX6_holds_192 (by decide) ?_
          refine lv_iinc (k := 5) (lv' := [(3, .int (x3 + 1)), (2, .int (x2 ^^^ 1)), (5, .int (M 16 (Int32.toNatClampNeg (M 15 (Int32.toNatClampNeg x3))))), (4, .int (M 16 (Int32.toNatClampNeg (M 14 (Int32.toNatClampNeg x3))))), (0, .ref (mvA V 8)), (1, .int x1)]) hC.1 hC.2.1 dX6_holds_215 hl rfl (inc_1 _) (Nat.le_of_ble_eq_true rfl) rfl (fun ls hl => ?_)
          refine lv_goto (tgt := 19) hC.1 hC.2.1 dX6_holds_218 (by decide) ?_
          exact ih13 _ _ _ _ _ _ hf hM (lv_sub hl [4, 5, 1, 0] rfl)
        have hf := o_f hc12 hf
        by_cases hc13 : (M 13 (Int32.toNatClampNeg x3)) = 24
        · have hf := o_t hc13 hf
          refine lv_tableIn (off := 146) (tgt := 207) hC.1 hC.2.1 dX6_holds_61 (by rw [hc13]; decide) (by rw [hc13]; decide) (by rw [hc13]; rfl) (by decide) ?_
          refine lv_iload_n hC.1 hC.2.1 dX6_holds_207 rfl (lv_at hl 4 rfl) ?_
          refine lv_iconst hC.1 hC.2.1 dX6_holds_208 ci_1 ?_
          refine lv_ishr hC.1 hC.2.1 dX6_holds_209 ?_
          refine lv_iload_n hC.1 hC.2.1 dX6_holds_210 rfl (lv_at hl 4 rfl) ?_
          refine lv_iconst hC.1 hC.2.1 dX6_holds_211 ci_1 ?_
          refine lv_iand hC.1 hC.2.1 dX6_holds_212 ?_
          refine lv_ior hC.1 hC.2.1 dX6_holds_213 ?_
          refine lv_istore_n (lv' := [(2, .int ((x2 >>> (1 &&& 31)) ||| (x2 &&& 1))), (5, .int (M 16 (Int32.toNatClampNeg (M 15 (Int32.toNatClampNeg x3))))), (4, .int (M 16 (Int32.toNatClampNeg (M 14 (Int32.toNatClampNeg x3))))), (0, .ref (mvA V 8)), (1, .int x1), (3, .int x3)]) hC.1 hC.2.1 dX6_holds_214 rfl hl (Nat.le_of_ble_eq_true rfl) rfl (fun ls hl => ?_)
          refine lv_iinc (k := 5) (lv' := [(3, .int (x3 + 1)), (2, .int ((x2 >>> (1 &&& 31)) ||| (x2 &&& 1))), (5, .int (M 16 (Int32.toNatClampNeg (M 15 (Int32.toNatClampNeg x3))))), (4, .int (M 16 (Int32.toNatClampNeg (M 14 (Int32.toNatClampNeg x3))))), (0, .ref (mvA V 8)), (1, .int x1)]) hC.1 hC.2.1 dX6_holds_215 hl rfl (inc_1 _) (Nat.le_of_ble_eq_true rfl) rfl (fun ls hl => ?_)
          refine lv_goto (tgt := 19) hC.1 hC.2.1 dX6_holds_218 (by decide) ?_
          exact ih13 _ _ _ _ _ _ hf hM (lv_sub hl [4, 5, 1, 0] rfl)
        have hf := o_f hc13 hf
        by_cases hc14 : (M 13 (Int32.toNatClampNeg x3)) = 25
        · have hf := o_t hc14 hf
          refine lv_tableIn (off := 146) (tgt := 207) hC.1 hC.2.1 dX6_holds_61 (by rw [hc14]; decide) (by rw [hc14]; decide) (by rw [hc14]; rfl) (by decide) ?_
          refine lv_iload_n hC.1 hC.2.1 dX6_holds_207 rfl (lv_at hl 4 rfl) ?_
          refine lv_iconst hC.1 hC.2.1 dX6_holds_208 ci_1 ?_
          refine lv_ishr hC.1 hC.2.1 dX6_holds_209 ?_
          refine lv_iload_n hC.1 hC.2.1 dX6_holds_210 rfl (lv_at hl 4 rfl) ?_
          refine lv_iconst hC.1 hC.2.1 dX6_holds_211 ci_1 ?_
          refine lv_iand hC.1 hC.2.1 dX6_holds_212 ?_
          refine lv_ior hC.1 hC.2.1 dX6_holds_213 ?_
          refine lv_istore_n (lv' := [(2, .int ((x2 >>> (1 &&& 31)) ||| (x2 &&& 1))), (5, .int (M 16 (Int32.toNatClampNeg (M 15 (Int32.toNatClampNeg x3))))), (4, .int (M 16 (Int32.toNatClampNeg (M 14 (Int32.toNatClampNeg x3))))), (0, .ref (mvA V 8)), (1, .int x1), (3, .int x3)]) hC.1 hC.2.1 dX6_holds_214 rfl hl (Nat.le_of_ble_eq_true rfl) rfl (fun ls hl => ?_)
          refine lv_iinc (k := 5) (lv' := [(3, .int (x3 + 1)), (2, .int ((x2 >>> (1 &&& 31)) ||| (x2 &&& 1))), (5, .int (M 16 (Int32.toNatClampNeg (M 15 (Int32.toNatClampNeg x3))))), (4, .int (M 16 (Int32.toNatClampNeg (M 14 (Int32.toNatClampNeg x3))))), (0, .ref (mvA V 8)), (1, .int x1)]) hC.1 hC.2.1 dX6_holds_215 hl rfl (inc_1 _) (Nat.le_of_ble_eq_true rfl) rfl (fun ls hl => ?_)
          refine lv_goto (tgt := 19) hC.1 hC.2.1 dX6_holds_218 (by decide) ?_
          exact ih13 _ _ _ _ _ _ hf hM (lv_sub hl [4, 5, 1, 0] rfl)
        have hf := o_f hc14 hf
        by_cases hc15 : (M 13 (Int32.toNatClampNeg x3)) = 26
        · have hf := o_t hc15 hf
          refine lv_tableIn (off := 146) (tgt := 207) hC.1 hC.2.1 dX6_holds_61 (by rw [hc15]; decide) (by rw [hc15]; decide) (by rw [hc15]; rfl) (by decide) ?_
          refine lv_iload_n hC.1 hC.2.1 dX6_holds_207 rfl (lv_at hl 4 rfl) ?_
          refine lv_iconst hC.1 hC.2.1 dX6_holds_208 ci_1 ?_
          refine lv_ishr hC.1 hC.2.1 dX6_holds_209 ?_
          refine lv_iload_n hC.1 hC.2.1 dX6_holds_210 rfl (lv_at hl 4 rfl) ?_
          refine lv_iconst hC.1 hC.2.1 dX6_holds_211 ci_1 ?_
          refine lv_iand hC.1 hC.2.1 dX6_holds_212 ?_
          refine lv_ior hC.1 hC.2.1 dX6_holds_213 ?_
          refine lv_istore_n (lv' := [(2, .int ((x2 >>> (1 &&& 31)) ||| (x2 &&& 1))), (5, .int (M 16 (Int32.toNatClampNeg (M 15 (Int32.toNatClampNeg x3))))), (4, .int (M 16 (Int32.toNatClampNeg (M 14 (Int32.toNatClampNeg x3))))), (0, .ref (mvA V 8)), (1, .int x1), (3, .int x3)]) hC.1 hC.2.1 dX6_holds_214 rfl hl (Nat.le_of_ble_eq_true rfl) rfl (fun ls hl => ?_)
          refine lv_iinc (k := 5) (lv' := [(3, .int (x3 + 1)), (2, .int ((x2 >>> (1 &&& 31)) ||| (x2 &&& 1))), (5, .int (M 16 (Int32.toNatClampNeg (M 15 (Int32.toNatClampNeg x3))))), (4, .int (M 16 (Int32.toNatClampNeg (M 14 (Int32.toNatClampNeg x3))))), (0, .ref (mvA V 8)), (1, .int x1)]) hC.1 hC.2.1 dX6_holds_215 hl rfl (inc_1 _) (Nat.le_of_ble_eq_true rfl) rfl (fun ls hl => ?_)
          refine lv_goto (tgt := 19) hC.1 hC.2.1 dX6_holds_218 (by decide) ?_
          exact ih13 _ _ _ _ _ _ hf hM (lv_sub hl [4, 5, 1, 0] rfl)
        have hf := o_f hc15 hf
        by_cases hc16 : (M 13 (Int32.toNatClampNeg x3)) = 27
        · have hf := o_t hc16 hf
          refine lv_tableIn (off := 146) (tgt := 207) hC.1 hC.2.1 dX6_holds_61 (by rw [hc16]; decide) (by rw [hc16]; decide) (by rw [hc16]; rfl) (by decide) ?_
          refine lv_iload_n hC.1 hC.2.1 dX6_holds_207 rfl (lv_at hl 4 rfl) ?_
          refine lv_iconst hC.1 hC.2.1 dX6_holds_208 ci_1 ?_
          refine lv_ishr hC.1 hC.2.1 dX6_holds_209 ?_
          refine lv_iload_n hC.1 hC.2.1 dX6_holds_210 rfl (lv_at hl 4 rfl) ?_
          refine lv_iconst hC.1 hC.2.1 dX6_holds_211 ci_1 ?_
          refine lv_iand hC.1 hC.2.1 dX6_holds_212 ?_
          refine lv_ior hC.1 hC.2.1 dX6_holds_213 ?_
          refine lv_istore_n (lv' := [(2, .int ((x2 >>> (1 &&& 31)) ||| (x2 &&& 1))), (5, .int (M 16 (Int32.toNatClampNeg (M 15 (Int32.toNatClampNeg x3))))), (4, .int (M 16 (Int32.toNatClampNeg (M 14 (Int32.toNatClampNeg x3))))), (0, .ref (mvA V 8)), (1, .int x1), (3, .int x3)]) hC.1 hC.2.1 dX6_holds_214 rfl hl (Nat.le_of_ble_eq_true rfl) rfl (fun ls hl => ?_)
          refine lv_iinc (k := 5) (lv' := [(3, .int (x3 + 1)), (2, .int ((x2 >>> (1 &&& 31)) ||| (x2 &&& 1))), (5, .int (M 16 (Int32.toNatClampNeg (M 15 (Int32.toNatClampNeg x3))))), (4, .int (M 16 (Int32.toNatClampNeg (M 14 (Int32.toNatClampNeg x3))))), (0, .ref (mvA V 8)), (1, .int x1)]) hC.1 hC.2.1 dX6_holds_215 hl rfl (inc_1 _) (Nat.le_of_ble_eq_true rfl) rfl (fun ls hl => ?_)
          refine lv_goto (tgt := 19) hC.1 hC.2.1 dX6_holds_218 (by decide) ?_
          exact ih13 _ _ _ _ _ _ hf hM (lv_sub hl [4, 5, 1, 0] rfl)
        have hf := o_f hc16 hf
        by_cases hc17 : (M 13 (Int32.toNatClampNeg x3)) = 28
        · have hf := o_t hc17 hf
          refine lv_tableIn (off := 146) (tgt := 207) hC.1 hC.2.1 dX6_holds_61 (by rw [hc17]; decide) (by rw [hc17]; decide) (by rw [hc17]; rfl) (by decide) ?_
          refine lv_iload_n hC.1 hC.2.1 dX6_holds_207 rfl (lv_at hl 4 rfl) ?_
          refine lv_iconst hC.1 hC.2.1 dX6_holds_208 ci_1 ?_
          refine lv_ishr hC.1 hC.2.1 dX6_holds_209 ?_
          refine lv_iload_n hC.1 hC.2.1 dX6_holds_210 rfl (lv_at hl 4 rfl) ?_
          refine lv_iconst hC.1 hC.2.1 dX6_holds_211 ci_1 ?_
          refine lv_iand hC.1 hC.2.1 dX6_holds_212 ?_
          refine lv_ior hC.1 hC.2.1 dX6_holds_213 ?_
          refine lv_istore_n (lv' := [(2, .int ((x2 >>> (1 &&& 31)) ||| (x2 &&& 1))), (5, .int (M 16 (Int32.toNatClampNeg (M 15 (Int32.toNatClampNeg x3))))), (4, .int (M 16 (Int32.toNatClampNeg (M 14 (Int32.toNatClampNeg x3))))), (0, .ref (mvA V 8)), (1, .int x1), (3, .int x3)]) hC.1 hC.2.1 dX6_holds_214 rfl hl (Nat.le_of_ble_eq_true rfl) rfl (fun ls hl => ?_)
          refine lv_iinc (k := 5) (lv' := [(3, .int (x3 + 1)), (2, .int ((x2 >>> (1 &&& 31)) ||| (x2 &&& 1))), (5, .int (M 16 (Int32.toNatClampNeg (M 15 (Int32.toNatClampNeg x3))))), (4, .int (M 16 (Int32.toNatClampNeg (M 14 (Int32.toNatClampNeg x3))))), (0, .ref (mvA V 8)), (1, .int x1)]) hC.1 hC.2.1 dX6_holds_215 hl rfl (inc_1 _) (Nat.le_of_ble_eq_true rfl) rfl (fun ls hl => ?_)
          refine lv_goto (tgt := 19) hC.1 hC.2.1 dX6_holds_218 (by decide) ?_
          exact ih13 _ _ _ _ _ _ hf hM (lv_sub hl [4, 5, 1, 0] rfl)
        have hf := o_f hc17 hf
        by_cases hc18 : (M 13 (Int32.toNatClampNeg x3)) = 29
        · have hf := o_t hc18 hf
          refine lv_tableIn (off := 146) (tgt := 207) hC.1 hC.2.1 dX6_holds_61 (by rw [hc18]; decide) (by rw [hc18]; decide) (by rw [hc18]; rfl) (by decide) ?_
          refine lv_iload_n hC.1 hC.2.1 dX6_holds_207 rfl (lv_at hl 4 rfl) ?_
          refine lv_iconst hC.1 hC.2.1 dX6_holds_208 ci_1 ?_
          refine lv_ishr hC.1 hC.2.1 dX6_holds_209 ?_
          refine lv_iload_n hC.1 hC.2.1 dX6_holds_210 rfl (lv_at hl 4 rfl) ?_
          refine lv_iconst hC.1 hC.2.1 dX6_holds_211 ci_1 ?_
          refine lv_iand hC.1 hC.2.1 dX6_holds_212 ?_
          refine lv_ior hC.1 hC.2.1 dX6_holds_213 ?_
          refine lv_istore_n (lv' := [(2, .int ((x2 >>> (1 &&& 31)) ||| (x2 &&& 1))), (5, .int (M 16 (Int32.toNatClampNeg (M 15 (Int32.toNatClampNeg x3))))), (4, .int (M 16 (Int32.toNatClampNeg (M 14 (Int32.toNatClampNeg x3))))), (0, .ref (mvA V 8)), (1, .int x1), (3, .int x3)]) hC.1 hC.2.1 dX6_holds_214 rfl hl (Nat.le_of_ble_eq_true rfl) rfl (fun ls hl => ?_)
          refine lv_iinc (k := 5) (lv' := [(3, .int (x3 + 1)), (2, .int ((x2 >>> (1 &&& 31)) ||| (x2 &&& 1))), (5, .int (M 16 (Int32.toNatClampNeg (M 15 (Int32.toNatClampNeg x3))))), (4, .int (M 16 (Int32.toNatClampNeg (M 14 (Int32.toNatClampNeg x3))))), (0, .ref (mvA V 8)), (1, .int x1)]) hC.1 hC.2.1 dX6_holds_215 hl rfl (inc_1 _) (Nat.le_of_ble_eq_true rfl) rfl (fun ls hl => ?_)
          refine lv_goto (tgt := 19) hC.1 hC.2.1 dX6_holds_218 (by decide) ?_
          exact ih13 _ _ _ _ _ _ hf hM (lv_sub hl [4, 5, 1, 0] rfl)
        have hf := o_f hc18 hf
        by_cases hc19 : (M 13 (Int32.toNatClampNeg x3)) = 30
        · have hf := o_t hc19 hf
          refine lv_tableIn (off := 146) (tgt := 207) hC.1 hC.2.1 dX6_holds_61 (by rw [hc19]; decide) (by rw [hc19]; decide) (by rw [hc19]; rfl) (by decide) ?_
          refine lv_iload_n hC.1 hC.2.1 dX6_holds_207 rfl (lv_at hl 4 rfl) ?_
          refine lv_iconst hC.1 hC.2.1 dX6_holds_208 ci_1 ?_
          refine lv_ishr hC.1 hC.2.1 dX6_holds_209 ?_
          refine lv_iload_n hC.1 hC.2.1 dX6_holds_210 rfl (lv_at hl 4 rfl) ?_
          refine lv_iconst hC.1 hC.2.1 dX6_holds_211 ci_1 ?_
          refine lv_iand hC.1 hC.2.1 dX6_holds_212 ?_
          refine lv_ior hC.1 hC.2.1 dX6_holds_213 ?_
          refine lv_istore_n (lv' := [(2, .int ((x2 >>> (1 &&& 31)) ||| (x2 &&& 1))), (5, .int (M 16 (Int32.toNatClampNeg (M 15 (Int32.toNatClampNeg x3))))), (4, .int (M 16 (Int32.toNatClampNeg (M 14 (Int32.toNatClampNeg x3))))), (0, .ref (mvA V 8)), (1, .int x1), (3, .int x3)]) hC.1 hC.2.1 dX6_holds_214 rfl hl (Nat.le_of_ble_eq_true rfl) rfl (fun ls hl => ?_)
          refine lv_iinc (k := 5) (lv' := [(3, .int (x3 + 1)), (2, .int ((x2 >>> (1 &&& 31)) ||| (x2 &&& 1))), (5, .int (M 16 (Int32.toNatClampNeg (M 15 (Int32.toNatClampNeg x3))))), (4, .int (M 16 (Int32.toNatClampNeg (M 14 (Int32.toNatClampNeg x3))))), (0, .ref (mvA V 8)), (1, .int x1)]) hC.1 hC.2.1 dX6_holds_215 hl rfl (inc_1 _) (Nat.le_of_ble_eq_true rfl) rfl (fun ls hl => ?_)
          refine lv_goto (tgt := 19) hC.1 hC.2.1 dX6_holds_218 (by decide) ?_
          exact ih13 _ _ _ _ _ _ hf hM (lv_sub hl [4, 5, 1, 0] rfl)
        have hf := o_f hc19 hf
        by_cases hc21 : (M 13 (Int32.toNatClampNeg x3)) = 31
        · have hf := o_t hc21 hf
          refine lv_tableIn (off := 67) (tgt := 128) hC.1 hC.2.1 dX6_holds_61 (by rw [hc21]; decide) (by rw [hc21]; decide) (by rw [hc21]; rfl) (by decide) ?_
          refine lv_iload_n hC.1 hC.2.1 dX6_holds_128 rfl (lv_at hl 4 rfl) ?_
          refine lv_iconst hC.1 hC.2.1 dX6_holds_129 ci_1 ?_
          refine lv_ishl hC.1 hC.2.1 dX6_holds_130 ?_
          refine lv_iload hC.1 hC.2.1 dX6_holds_131 (lv_at hl 1 rfl) ?_
          refine lv_iload hC.1 hC.2.1 dX6_holds_133 (lv_at hl 0 rfl) ?_
          refine lv_icmp_ge (tgt := 142) hC.1 hC.2.1 dX6_holds_135 (by decide) (fun hc20 => ?_) (fun hc20 => ?_)
          · have hf := o_t hc20 hf
            refine lv_iconst hC.1 hC.2.1 dX6_holds_142 ci_0 ?_
            refine lv_ior hC.1 hC.2.1 dX6_holds_143 ?_
            refine lv_istore_n (lv' := [(2, .int ((x2 <<< (1 &&& 31)) ||| 0)), (5, .int (M 16 (Int32.toNatClampNeg (M 15 (Int32.toNatClampNeg x3))))), (4, .int (M 16 (Int32.toNatClampNeg (M 14 (Int32.toNatClampNeg x3))))), (0, .ref (mvA V 8)), (1, .int x1), (3, .int x3)]) hC.1 hC.2.1 dX6_holds_144 rfl hl (Nat.le_of_ble_eq_true rfl) rfl (fun ls hl => ?_)
            refine lv_goto (tgt := 215) hC.1 hC.2.1 dX6_holds_145 (by decide) ?_
            refine lv_iinc (k := 5) (lv' := [(3, .int (x3 + 1)), (2, .int ((x2 <<< (1 &&& 31)) ||| 0)), (5, .int (M 16 (Int32.toNatClampNeg (M 15 (Int32.toNatClampNeg x3))))), (4, .int (M 16 (Int32.toNatClampNeg (M 14 (Int32.toNatClampNeg x3))))), (0, .ref (mvA V 8)), (1, .int x1)]) hC.1 hC.2.1 dX6_holds_215 hl rfl (inc_1 _) (Nat.le_of_ble_eq_true rfl) rfl (fun ls hl => ?_)
            refine lv_goto (tgt := 19) hC.1 hC.2.1 dX6_holds_218 (by decide) ?_
            exact ih13 _ _ _ _ _ _ hf hM (lv_sub hl [4, 5, 1, 0] rfl)
          · have hf := o_f hc20 hf
            refine lv_iconst hC.1 hC.2.1 dX6_holds_138 ci_1 ?_
            refine lv_goto (tgt := 143) hC.1 hC.2.1 dX6_holds_139 (by decide) ?_
            refine lv_ior hC.1 hC.2.1 dX6_holds_143 ?_
            refine lv_istore_n (lv' := [(2, .int ((x2 <<< (1 &&& 31)) ||| 1)), (5, .int (M 16 (Int32.toNatClampNeg (M 15 (Int32.toNatClampNeg x3))))), (4, .int (M 16 (Int32.toNatClampNeg (M 14 (Int32.toNatClampNeg x3))))), (0, .ref (mvA V 8)), (1, .int x1), (3, .int x3)]) hC.1 hC.2.1 dX6_holds_144 rfl hl (Nat.le_of_ble_eq_true rfl) rfl (fun ls hl => ?_)
            refine lv_goto (tgt := 215) hC.1 hC.2.1 dX6_holds_145 (by decide) ?_
            refine lv_iinc (k := 5) (lv' := [(3, .int (x3 + 1)), (2, .int ((x2 <<< (1 &&& 31)) ||| 1)), (5, .int (M 16 (Int32.toNatClampNeg (M 15 (Int32.toNatClampNeg x3))))), (4, .int (M 16 (Int32.toNatClampNeg (M 14 (Int32.toNatClampNeg x3))))), (0, .ref (mvA V 8)), (1, .int x1)]) hC.1 hC.2.1 dX6_holds_215 hl rfl (inc_1 _) (Nat.le_of_ble_eq_true rfl) rfl (fun ls hl => ?_)
            refine lv_goto (tgt := 19) hC.1 hC.2.1 dX6_holds_218 (by decide) ?_
            exact ih13 _ _ _ _ _ _ hf hM (lv_sub hl [4, 5, 1, 0] rfl)
        have hf := o_f hc21 hf
        by_cases hc23 : (M 13 (Int32.toNatClampNeg x3)) = 32
        · have hf := o_t hc23 hf
          refine lv_tableIn (off := 87) (tgt := 148) hC.1 hC.2.1 dX6_holds_61 (by rw [hc23]; decide) (by rw [hc23]; decide) (by rw [hc23]; rfl) (by decide) ?_
          refine lv_iload_n hC.1 hC.2.1 dX6_holds_148 rfl (lv_at hl 4 rfl) ?_
          refine lv_iconst hC.1 hC.2.1 dX6_holds_149 ci_1 ?_
          refine lv_ishl hC.1 hC.2.1 dX6_holds_150 ?_
          refine lv_iload hC.1 hC.2.1 dX6_holds_151 (lv_at hl 1 rfl) ?_
          refine lv_iload hC.1 hC.2.1 dX6_holds_153 (lv_at hl 0 rfl) ?_
          refine lv_icmp_ne (tgt := 162) hC.1 hC.2.1 dX6_holds_155 (by decide) (fun hc22 => ?_) (fun hc22 => ?_)
          · have hf := o_f hc22 hf
            refine lv_iconst hC.1 hC.2.1 dX6_holds_162 ci_0 ?_
            refine lv_ior hC.1 hC.2.1 dX6_holds_163 ?_
            refine lv_istore_n (lv' := [(2, .int ((x2 <<< (1 &&& 31)) ||| 0)), (5, .int (M 16 (Int32.toNatClampNeg (M 15 (Int32.toNatClampNeg x3))))), (4, .int (M 16 (Int32.toNatClampNeg (M 14 (Int32.toNatClampNeg x3))))), (0, .ref (mvA V 8)), (1, .int x1), (3, .int x3)]) hC.1 hC.2.1 dX6_holds_164 rfl hl (Nat.le_of_ble_eq_true rfl) rfl (fun ls hl => ?_)
            refine lv_goto (tgt := 215) hC.1 hC.2.1 dX6_holds_165 (by decide) ?_
            refine lv_iinc (k := 5) (lv' := [(3, .int (x3 + 1)), (2, .int ((x2 <<< (1 &&& 31)) ||| 0)), (5, .int (M 16 (Int32.toNatClampNeg (M 15 (Int32.toNatClampNeg x3))))), (4, .int (M 16 (Int32.toNatClampNeg (M 14 (Int32.toNatClampNeg x3))))), (0, .ref (mvA V 8)), (1, .int x1)]) hC.1 hC.2.1 dX6_holds_215 hl rfl (inc_1 _) (Nat.le_of_ble_eq_true rfl) rfl (fun ls hl => ?_)
            refine lv_goto (tgt := 19) hC.1 hC.2.1 dX6_holds_218 (by decide) ?_
            exact ih13 _ _ _ _ _ _ hf hM (lv_sub hl [4, 5, 1, 0] rfl)
          · have hf := o_t hc22 hf
            refine lv_iconst hC.1 hC.2.1 dX6_holds_158 ci_1 ?_
            refine lv_goto (tgt := 163) hC.1 hC.2.1 dX6_holds_159 (by decide) ?_
            refine lv_ior hC.1 hC.2.1 dX6_holds_163 ?_
            refine lv_istore_n (lv' := [(2, .int ((x2 <<< (1 &&& 31)) ||| 1)), (5, .int (M 16 (Int32.toNatClampNeg (M 15 (Int32.toNatClampNeg x3))))), (4, .int (M 16 (Int32.toNatClampNeg (M 14 (Int32.toNatClampNeg x3))))), (0, .ref (mvA V 8)), (1, .int x1), (3, .int x3)]) hC.1 hC.2.1 dX6_holds_164 rfl hl (Nat.le_of_ble_eq_true rfl) rfl (fun ls hl => ?_)
            refine lv_goto (tgt := 215) hC.1 hC.2.1 dX6_holds_165 (by decide) ?_
            refine lv_iinc (k := 5) (lv' := [(3, .int (x3 + 1)), (2, .int ((x2 <<< (1 &&& 31)) ||| 1)), (5, .int (M 16 (Int32.toNatClampNeg (M 15 (Int32.toNatClampNeg x3))))), (4, .int (M 16 (Int32.toNatClampNeg (M 14 (Int32.toNatClampNeg x3))))), (0, .ref (mvA V 8)), (1, .int x1)]) hC.1 hC.2.1 dX6_holds_215 hl rfl (inc_1 _) (Nat.le_of_ble_eq_true rfl) rfl (fun ls hl => ?_)
            refine lv_goto (tgt := 19) hC.1 hC.2.1 dX6_holds_218 (by decide) ?_
            exact ih13 _ _ _ _ _ _ hf hM (lv_sub hl [4, 5, 1, 0] rfl)
        have hf := o_f hc23 hf
        by_cases hc25 : (M 13 (Int32.toNatClampNeg x3)) = 33
        · have hf := o_t hc25 hf
          refine lv_tableIn (off := 107) (tgt := 168) hC.1 hC.2.1 dX6_holds_61 (by rw [hc25]; decide) (by rw [hc25]; decide) (by rw [hc25]; rfl) (by decide) ?_
          refine lv_iload_n hC.1 hC.2.1 dX6_holds_168 rfl (lv_at hl 4 rfl) ?_
          refine lv_iconst hC.1 hC.2.1 dX6_holds_169 ci_1 ?_
          refine lv_ishl hC.1 hC.2.1 dX6_holds_170 ?_
          refine lv_iload hC.1 hC.2.1 dX6_holds_171 (lv_at hl 1 rfl) ?_
          refine lv_iload hC.1 hC.2.1 dX6_holds_173 (lv_at hl 0 rfl) ?_
          refine lv_icmp_le (tgt := 182) hC.1 hC.2.1 dX6_holds_175 (by decide) (fun hc24 => ?_) (fun hc24 => ?_)
          · have hf := o_t hc24 hf
            refine lv_iconst hC.1 hC.2.1 dX6_holds_182 ci_0 ?_
            refine lv_ior hC.1 hC.2.1 dX6_holds_183 ?_
            refine lv_istore_n (lv' := [(2, .int ((x2 <<< (1 &&& 31)) ||| 0)), (5, .int (M 16 (Int32.toNatClampNeg (M 15 (Int32.toNatClampNeg x3))))), (4, .int (M 16 (Int32.toNatClampNeg (M 14 (Int32.toNatClampNeg x3))))), (0, .ref (mvA V 8)), (1, .int x1), (3, .int x3)]) hC.1 hC.2.1 dX6_holds_184 rfl hl (Nat.le_of_ble_eq_true rfl) rfl (fun ls hl => ?_)
            refine lv_goto (tgt := 215) hC.1 hC.2.1 dX6_holds_185 (by decide) ?_
            refine lv_iinc (k := 5) (lv' := [(3, .int (x3 + 1)), (2, .int ((x2 <<< (1 &&& 31)) ||| 0)), (5, .int (M 16 (Int32.toNatClampNeg (M 15 (Int32.toNatClampNeg x3))))), (4, .int (M 16 (Int32.toNatClampNeg (M 14 (Int32.toNatClampNeg x3))))), (0, .ref (mvA V 8)), (1, .int x1)]) hC.1 hC.2.1 dX6_holds_215 hl rfl (inc_1 _) (Nat.le_of_ble_eq_true rfl) rfl (fun ls hl => ?_)
            refine lv_goto (tgt := 19) hC.1 hC.2.1 dX6_holds_218 (by decide) ?_
            exact ih13 _ _ _ _ _ _ hf hM (lv_sub hl [4, 5, 1, 0] rfl)
          · have hf := o_f hc24 hf
            refine lv_iconst hC.1 hC.2.1 dX6_holds_178 ci_1 ?_
            refine lv_goto (tgt := 183) hC.1 hC.2.1 dX6_holds_179 (by decide) ?_
            refine lv_ior hC.1 hC.2.1 dX6_holds_183 ?_
            refine lv_istore_n (lv' := [(2, .int ((x2 <<< (1 &&& 31)) ||| 1)), (5, .int (M 16 (Int32.toNatClampNeg (M 15 (Int32.toNatClampNeg x3))))), (4, .int (M 16 (Int32.toNatClampNeg (M 14 (Int32.toNatClampNeg x3))))), (0, .ref (mvA V 8)), (1, .int x1), (3, .int x3)]) hC.1 hC.2.1 dX6_holds_184 rfl hl (Nat.le_of_ble_eq_true rfl) rfl (fun ls hl => ?_)
            refine lv_goto (tgt := 215) hC.1 hC.2.1 dX6_holds_185 (by decide) ?_
            refine lv_iinc (k := 5) (lv' := [(3, .int (x3 + 1)), (2, .int ((x2 <<< (1 &&& 31)) ||| 1)), (5, .int (M 16 (Int32.toNatClampNeg (M 15 (Int32.toNatClampNeg x3))))), (4, .int (M 16 (Int32.toNatClampNeg (M 14 (Int32.toNatClampNeg x3))))), (0, .ref (mvA V 8)), (1, .int x1)]) hC.1 hC.2.1 dX6_holds_215 hl rfl (inc_1 _) (Nat.le_of_ble_eq_true rfl) rfl (fun ls hl => ?_)
            refine lv_goto (tgt := 19) hC.1 hC.2.1 dX6_holds_218 (by decide) ?_
            exact ih13 _ _ _ _ _ _ hf hM (lv_sub hl [4, 5, 1, 0] rfl)
        have hf := o_f hc25 hf
        have hc10 := sw_ne (k := 21) (v := 21) rfl hc10
        have hc11 := sw_ne (k := 22) (v := 22) rfl hc11
        have hc12 := sw_ne (k := 23) (v := 23) rfl hc12
        have hc13 := sw_ne (k := 24) (v := 24) rfl hc13
        have hc14 := sw_ne (k := 25) (v := 25) rfl hc14
        have hc15 := sw_ne (k := 26) (v := 26) rfl hc15
        have hc16 := sw_ne (k := 27) (v := 27) rfl hc16
        have hc17 := sw_ne (k := 28) (v := 28) rfl hc17
        have hc18 := sw_ne (k := 29) (v := 29) rfl hc18
        have hc19 := sw_ne (k := 30) (v := 30) rfl hc19
        have hc21 := sw_ne (k := 31) (v := 31) rfl hc21
        have hc23 := sw_ne (k := 32) (v := 32) rfl hc23
        have hc25 := sw_ne (k := 33) (v := 33) rfl hc25
        refine lv_tableOut (tgt := 207) hC.1 hC.2.1 dX6_holds_61 (by omega) (by decide) ?_
        refine lv_iload_n hC.1 hC.2.1 dX6_holds_207 rfl (lv_at hl 4 rfl) ?_
        refine lv_iconst hC.1 hC.2.1 dX6_holds_208 ci_1 ?_
        refine lv_ishr hC.1 hC.2.1 dX6_holds_209 ?_
        refine lv_iload_n hC.1 hC.2.1 dX6_holds_210 rfl (lv_at hl 4 rfl) ?_
        refine lv_iconst hC.1 hC.2.1 dX6_holds_211 ci_1 ?_
        refine lv_iand hC.1 hC.2.1 dX6_holds_212 ?_
        refine lv_ior hC.1 hC.2.1 dX6_holds_213 ?_
        refine lv_istore_n (lv' := [(2, .int ((x2 >>> (1 &&& 31)) ||| (x2 &&& 1))), (5, .int (M 16 (Int32.toNatClampNeg (M 15 (Int32.toNatClampNeg x3))))), (4, .int (M 16 (Int32.toNatClampNeg (M 14 (Int32.toNatClampNeg x3))))), (0, .ref (mvA V 8)), (1, .int x1), (3, .int x3)]) hC.1 hC.2.1 dX6_holds_214 rfl hl (Nat.le_of_ble_eq_true rfl) rfl (fun ls hl => ?_)
        refine lv_iinc (k := 5) (lv' := [(3, .int (x3 + 1)), (2, .int ((x2 >>> (1 &&& 31)) ||| (x2 &&& 1))), (5, .int (M 16 (Int32.toNatClampNeg (M 15 (Int32.toNatClampNeg x3))))), (4, .int (M 16 (Int32.toNatClampNeg (M 14 (Int32.toNatClampNeg x3))))), (0, .ref (mvA V 8)), (1, .int x1)]) hC.1 hC.2.1 dX6_holds_215 hl rfl (inc_1 _) (Nat.le_of_ble_eq_true rfl) rfl (fun ls hl => ?_)
        refine lv_goto (tgt := 19) hC.1 hC.2.1 dX6_holds_218 (by decide) ?_
        exact ih13 _ _ _ _ _ _ hf hM (lv_sub hl [4, 5, 1, 0] rfl)
  have hL18 : ∀ (x1 : Int32) (x2 : Int32) (t0 : Int32) (H : Heap) (locs : List Loc) (ls : Array Slot), fX6_holds_q8_L18 M x1 x2 t0 = some r → PC V M A s H locs → lv_has ls 6 [(0, .ref (mvA V 8)), (1, .int x1), (2, .int x2)] → W p l e ({ frames := 0, cells := 0, slots := 0, locals := 0 } : Room) s m args below meth c H locs 0 0 Q (F0 m 18 ls [.int t0]) := by
    intro x1 x2 t0 H locs ls hf hM hl
    unfold fX6_holds_q8_L18 at hf
    refine lv_istore_n (lv' := [(3, .int t0), (0, .ref (mvA V 8)), (1, .int x1), (2, .int x2)]) hC.1 hC.2.1 dX6_holds_18 rfl hl (Nat.le_of_ble_eq_true rfl) rfl (fun ls hl => ?_)
    exact hL19 _ _ _ _ _ _ _ hf hM (lv_sub hl [1, 2, 3, 0] rfl)
  refine lv_iconst hC.1 hC.2.1 dX6_holds_0 ci_1 ?_
  refine lv_istore_n (lv' := [(2, .int 1), (0, .ref (mvA V 8)), (1, .int p1)]) hC.1 hC.2.1 dX6_holds_1 rfl hl (Nat.le_of_ble_eq_true rfl) rfl (fun ls hl => ?_)
  refine lv_iload_n hC.1 hC.2.1 dX6_holds_2 rfl (lv_at hl 2 rfl) ?_
  refine lv_if_ne (tgt := 10) hC.1 hC.2.1 dX6_holds_3 (by decide) (fun hc2 => ?_) (fun hc2 => ?_)
  · have hf := o_f hc2 hf
    refine lv_aload_n hC.1 hC.2.1 dX6_holds_10 rfl (lv_at hl 1 rfl) ?_
    refine mw_get (v := .ref (mvA V 12)) hC hM 8 (Nat.le_of_ble_eq_true rfl) (eC_8 V) inW6 rfl 4 (by decide) q_174 (fun _ h9 => h9) rfl dX6_holds_11 ?_
    refine lv_iload_n hC.1 hC.2.1 dX6_holds_14 rfl (lv_at hl 2 rfl) ?_
    refine lv_iconst hC.1 hC.2.1 dX6_holds_15 ci_1 ?_
    refine lv_isub hC.1 hC.2.1 dX6_holds_16 ?_
    obtain ⟨hg1, hf⟩ := o_g hf
    refine mw_iald hC hM 12 0 (Nat.le_of_ble_eq_true rfl) (eC_12 V) rfl hg1 dX6_holds_17 ?_
    exact hL18 _ _ _ _ _ _ hf hM (lv_sub hl [1, 2, 0] rfl)
  · have hf := o_t hc2 hf
    refine lv_iconst hC.1 hC.2.1 dX6_holds_6 ci_0 ?_
    refine lv_goto (tgt := 18) hC.1 hC.2.1 dX6_holds_7 (by decide) ?_
    exact hL18 _ _ _ _ _ _ hf hM (lv_sub hl [1, 2, 0] rfl)
set_option maxHeartbeats 4000000 in
set_option maxRecDepth 100000 in
theorem mcX6_weigh_q8 (V : mV) (l : Launch) (M : mM) (p1 : Int32) (p2 : Int32) (r : Int32) (hf : fX6_weigh_q8 M p1 p2 = some r) : IC V l yX6_weigh cX6_weigh 4 ({ frames := 1, cells := 0, slots := 0, locals := 30 } : Room) [.ref (mvA V 8), .int p1, .int p2] M r M := by
  unfold fX6_weigh_q8 at hf
  refine mw_enterI RX6 rfl (by decide +kernel) (Nat.le_of_ble_eq_true rfl) (fun {p e s m args below meth c} ls A Q hC hret hM hl => ?_)
  have hl : lv_has ls 4 [(0, .ref (mvA V 8)), (1, .int p1), (2, .int p2)] := hl
  have hL2 : ∀ (n : Nat) (x1 : Int32) (x2 : Int32) (x3 : Int32) (H : Heap) (locs : List Loc) (ls : Array Slot), fX6_weigh_q8_L2 n M x1 x2 x3 = some r → PC V M A s H locs → lv_has ls 4 [(0, .ref (mvA V 8)), (1, .int x1), (2, .int x2), (3, .int x3)] → W p l e ({ frames := 1, cells := 0, slots := 0, locals := 30 } : Room) s m args below meth c H locs 0 0 Q (F0 m 2 ls []) := by
    intro n2
    induction n2 with
    | zero => intro x1 x2 x3 H locs ls hf; cases hf
    | succ n2 ih2 =>
      intro x1 x2 x3 H locs ls hf hM hl
      have hf : fX6_weigh_q8_L2_b (fX6_weigh_q8_L2 n2) M x1 x2 x3 = some r := hf
      unfold fX6_weigh_q8_L2_b at hf
      refine lv_iload_n hC.1 hC.2.1 dX6_weigh_2 rfl (lv_at hl 3 rfl) ?_
      refine lv_aload_n hC.1 hC.2.1 dX6_weigh_3 rfl (lv_at hl 0 rfl) ?_
      refine mw_get (v := .int (M 8 0)) hC hM 8 (Nat.le_of_ble_eq_true rfl) (eC_8 V) inW6 rfl 0 (by decide) q_169 (fun _ h9 => h9) rfl dX6_weigh_4 ?_
      refine lv_icmp_ge (tgt := 87) hC.1 hC.2.1 dX6_weigh_7 (by decide) (fun hc14 => ?_) (fun hc14 => ?_)
      · have hf := o_t hc14 hf
        refine lv_iload_n hC.1 hC.2.1 dX6_weigh_87 rfl (lv_at hl 2 rfl) ?_
        exact hret (Option.some.inj hf) hM dX6_weigh_88
      · have hf := o_f hc14 hf
        refine lv_iload_n hC.1 hC.2.1 dX6_weigh_10 rfl (lv_at hl 1 rfl) ?_
        refine lv_aload_n hC.1 hC.2.1 dX6_weigh_11 rfl (lv_at hl 0 rfl) ?_
        refine mw_get (v := .ref (mvA V 9)) hC hM 8 (Nat.le_of_ble_eq_true rfl) (eC_8 V) inW6 rfl 1 (by decide) q_171 (fun _ h9 => h9) rfl dX6_weigh_12 ?_
        refine lv_iload_n hC.1 hC.2.1 dX6_weigh_15 rfl (lv_at hl 3 rfl) ?_
        obtain ⟨hg1, hf⟩ := o_g hf
        refine mw_iald hC hM 9 0 (Nat.le_of_ble_eq_true rfl) (eC_9 V) rfl hg1 dX6_weigh_16 ?_
        refine mw_cNi (As := [.int x1, .int (M 9 (Int32.toNatClampNeg x3))]) (rest := []) hC hM (mcX11_isUnder V l M x1 (M 9 (Int32.toNatClampNeg x3)) _ rfl) (mw_kN hC (mw_nw hC 0 rfl) q_511 q_107 q_512 ⟨rfl, rfl⟩ kS_X11_isUnder ⟨Nat.le_of_ble_eq_true rfl, Nat.le_of_ble_eq_true rfl⟩) rfl rfl (Nat.le_of_ble_eq_true rfl) hl.1 dX6_weigh_17 (fun H locs hM hb2 => ?_)
        refine lv_if_eq (tgt := 81) hC.1 hC.2.1 dX6_weigh_20 (by decide) (fun hc13 => ?_) (fun hc13 => ?_)
        · have hf := o_t hc13 hf
          refine lv_iinc (k := 3) (lv' := [(3, .int (x3 + 1)), (0, .ref (mvA V 8)), (1, .int x1), (2, .int x2)]) hC.1 hC.2.1 dX6_weigh_81 hl rfl (inc_1 _) (Nat.le_of_ble_eq_true rfl) rfl (fun ls hl => ?_)
          refine lv_goto (tgt := 2) hC.1 hC.2.1 dX6_weigh_84 (by decide) ?_
          exact ih2 _ _ _ _ _ _ hf hM (lv_sub hl [1, 2, 3, 0] rfl)
        · have hf := o_f hc13 hf
          refine lv_aload_n hC.1 hC.2.1 dX6_weigh_23 rfl (lv_at hl 0 rfl) ?_
          refine lv_iload_n hC.1 hC.2.1 dX6_weigh_24 rfl (lv_at hl 3 rfl) ?_
          obtain ⟨r3, hq4, hf⟩ := o_b hf
          refine mw_cVi (As := [.int x3]) (rest := []) hC hM (mcX6_holds_q8 V l M x3 r3 hq4) (mw_kV hC q_513 q_515 q_5 q_110 q_516 ⟨rfl, rfl⟩ kV_X6_holds ⟨Nat.le_of_ble_eq_true rfl, Nat.le_of_ble_eq_true rfl⟩) (Nat.le_of_ble_eq_true rfl) (eC_8 V) rfl rfl rfl (Nat.le_of_ble_eq_true rfl) hl.1 dX6_weigh_25 (fun H locs hM hb5 => ?_)
          refine lv_if_eq (tgt := 81) hC.1 hC.2.1 dX6_weigh_28 (by decide) (fun hc12 => ?_) (fun hc12 => ?_)
          · have hf := o_t hc12 hf
            refine lv_iinc (k := 3) (lv' := [(3, .int (x3 + 1)), (0, .ref (mvA V 8)), (1, .int x1), (2, .int x2)]) hC.1 hC.2.1 dX6_weigh_81 hl rfl (inc_1 _) (Nat.le_of_ble_eq_true rfl) rfl (fun ls hl => ?_)
            refine lv_goto (tgt := 2) hC.1 hC.2.1 dX6_weigh_84 (by decide) ?_
            exact ih2 _ _ _ _ _ _ hf hM (lv_sub hl [1, 2, 3, 0] rfl)
          · have hf := o_f hc12 hf
            refine lv_aload_n hC.1 hC.2.1 dX6_weigh_31 rfl (lv_at hl 0 rfl) ?_
            refine mw_get (v := .ref (mvA V 10)) hC hM 8 (Nat.le_of_ble_eq_true rfl) (eC_8 V) inW6 rfl 2 (by decide) q_172 (fun _ h9 => h9) rfl dX6_weigh_32 ?_
            refine lv_iload_n hC.1 hC.2.1 dX6_weigh_35 rfl (lv_at hl 3 rfl) ?_
            obtain ⟨hg6, hf⟩ := o_g hf
            refine mw_iald hC hM 10 0 (Nat.le_of_ble_eq_true rfl) (eC_10 V) rfl hg6 dX6_weigh_36 ?_
            refine lv_bipush hC.1 hC.2.1 dX6_weigh_37 cb_24 ?_
            refine lv_icmp_ne (tgt := 53) hC.1 hC.2.1 dX6_weigh_39 (by decide) (fun hc11 => ?_) (fun hc11 => ?_)
            · have hf := o_f hc11 hf
              refine lv_aload_n hC.1 hC.2.1 dX6_weigh_53 rfl (lv_at hl 0 rfl) ?_
              refine mw_get (v := .ref (mvA V 10)) hC hM 8 (Nat.le_of_ble_eq_true rfl) (eC_8 V) inW6 rfl 2 (by decide) q_172 (fun _ h9 => h9) rfl dX6_weigh_54 ?_
              refine lv_iload_n hC.1 hC.2.1 dX6_weigh_57 rfl (lv_at hl 3 rfl) ?_
              obtain ⟨hg7, hf⟩ := o_g hf
              refine mw_iald hC hM 10 0 (Nat.le_of_ble_eq_true rfl) (eC_10 V) rfl hg7 dX6_weigh_58 ?_
              refine lv_bipush hC.1 hC.2.1 dX6_weigh_59 cb_25 ?_
              refine lv_icmp_ne (tgt := 79) hC.1 hC.2.1 dX6_weigh_61 (by decide) (fun hc9 => ?_) (fun hc9 => ?_)
              · have hf := o_f hc9 hf
                refine lv_iconst hC.1 hC.2.1 dX6_weigh_79 ci_0 ?_
                exact hret (Option.some.inj hf) hM dX6_weigh_80
              · have hf := o_t hc9 hf
                refine lv_iconst hC.1 hC.2.1 dX6_weigh_64 ci_0 ?_
                refine lv_iload_n hC.1 hC.2.1 dX6_weigh_65 rfl (lv_at hl 2 rfl) ?_
                refine lv_aload_n hC.1 hC.2.1 dX6_weigh_66 rfl (lv_at hl 0 rfl) ?_
                refine mw_get (v := .ref (mvA V 11)) hC hM 8 (Nat.le_of_ble_eq_true rfl) (eC_8 V) inW6 rfl 3 (by decide) q_173 (fun _ h9 => h9) rfl dX6_weigh_67 ?_
                refine lv_iload_n hC.1 hC.2.1 dX6_weigh_70 rfl (lv_at hl 3 rfl) ?_
                obtain ⟨hg8, hf⟩ := o_g hf
                refine mw_iald hC hM 11 0 (Nat.le_of_ble_eq_true rfl) (eC_11 V) rfl hg8 dX6_weigh_71 ?_
                refine lv_isub hC.1 hC.2.1 dX6_weigh_72 ?_
                refine mw_max hC hl.1 q_517 q_518 q_121 q_519 (Nat.le_of_ble_eq_true rfl) (Nat.le_of_ble_eq_true rfl) dX6_weigh_73 ?_
                refine lv_goto (tgt := 80) hC.1 hC.2.1 dX6_weigh_76 (by decide) ?_
                exact hret (Option.some.inj hf) hM dX6_weigh_80
            · have hf := o_t hc11 hf
              refine lv_iload_n hC.1 hC.2.1 dX6_weigh_42 rfl (lv_at hl 2 rfl) ?_
              refine lv_aload_n hC.1 hC.2.1 dX6_weigh_43 rfl (lv_at hl 0 rfl) ?_
              refine mw_get (v := .ref (mvA V 11)) hC hM 8 (Nat.le_of_ble_eq_true rfl) (eC_8 V) inW6 rfl 3 (by decide) q_173 (fun _ h9 => h9) rfl dX6_weigh_44 ?_
              refine lv_iload_n hC.1 hC.2.1 dX6_weigh_47 rfl (lv_at hl 3 rfl) ?_
              obtain ⟨hg10, hf⟩ := o_g hf
              refine mw_iald hC hM 11 0 (Nat.le_of_ble_eq_true rfl) (eC_11 V) rfl hg10 dX6_weigh_48 ?_
              refine lv_iadd hC.1 hC.2.1 dX6_weigh_49 ?_
              refine lv_goto (tgt := 80) hC.1 hC.2.1 dX6_weigh_50 (by decide) ?_
              exact hret (Option.some.inj hf) hM dX6_weigh_80
  refine lv_iconst hC.1 hC.2.1 dX6_weigh_0 ci_0 ?_
  refine lv_istore_n (lv' := [(3, .int 0), (0, .ref (mvA V 8)), (1, .int p1), (2, .int p2)]) hC.1 hC.2.1 dX6_weigh_1 rfl hl (Nat.le_of_ble_eq_true rfl) rfl (fun ls hl => ?_)
  exact hL2 _ _ _ _ _ _ _ hf hM (lv_sub hl [1, 2, 3, 0] rfl)
set_option maxHeartbeats 4000000 in
set_option maxRecDepth 100000 in
theorem mcX9_powerOf_q50 (V : mV) (l : Launch) (M : mM) (p1 : Int32) (p2 : Int32) (r : Int32) (hf : fX9_powerOf_q50 p1 p2 = r) : IC V l yX9_powerOf cX9_powerOf 3 ({ frames := 0, cells := 0, slots := 0, locals := 0 } : Room) [.ref (mvA V 50), .int p1, .int p2] M r M := by
  unfold fX9_powerOf_q50 at hf
  refine mw_enterI RX9 rfl (by decide +kernel) (Nat.le_of_ble_eq_true rfl) (fun {p e s m args below meth c} ls A Q hC hret hM hl => ?_)
  have hl : lv_has ls 3 [(0, .ref (mvA V 50)), (1, .int p1), (2, .int p2)] := hl
  refine lv_iload_n hC.1 hC.2.1 dX9_powerOf_0 rfl (lv_at hl 1 rfl) ?_
  exact hret hf hM dX9_powerOf_1
set_option maxHeartbeats 4000000 in
set_option maxRecDepth 100000 in
theorem mcX9_powerOf_q51 (V : mV) (l : Launch) (M : mM) (p1 : Int32) (p2 : Int32) (r : Int32) (hf : fX9_powerOf_q51 p1 p2 = r) : IC V l yX9_powerOf cX9_powerOf 3 ({ frames := 0, cells := 0, slots := 0, locals := 0 } : Room) [.ref (mvA V 51), .int p1, .int p2] M r M := by
  unfold fX9_powerOf_q51 at hf
  refine mw_enterI RX9 rfl (by decide +kernel) (Nat.le_of_ble_eq_true rfl) (fun {p e s m args below meth c} ls A Q hC hret hM hl => ?_)
  have hl : lv_has ls 3 [(0, .ref (mvA V 51)), (1, .int p1), (2, .int p2)] := hl
  refine lv_iload_n hC.1 hC.2.1 dX9_powerOf_0 rfl (lv_at hl 1 rfl) ?_
  exact hret hf hM dX9_powerOf_1
set_option maxHeartbeats 4000000 in
set_option maxRecDepth 100000 in
theorem mcX1_powerOf_q52 (V : mV) (l : Launch) (M : mM) (p1 : Int32) (p2 : Int32) (r : Int32) (hf : fX1_powerOf_q52 p1 p2 = r) : IC V l yX1_powerOf cX1_powerOf 3 ({ frames := 0, cells := 0, slots := 0, locals := 0 } : Room) [.ref (mvA V 52), .int p1, .int p2] M r M := by
  unfold fX1_powerOf_q52 at hf
  refine mw_enterI RX1 rfl (by decide +kernel) (Nat.le_of_ble_eq_true rfl) (fun {p e s m args below meth c} ls A Q hC hret hM hl => ?_)
  have hl : lv_has ls 3 [(0, .ref (mvA V 52)), (1, .int p1), (2, .int p2)] := hl
  refine lv_iload_n hC.1 hC.2.1 dX1_powerOf_0 rfl (lv_at hl 2 rfl) ?_
  refine lv_bipush hC.1 hC.2.1 dX1_powerOf_1 cb_12 ?_
  refine lv_icmp_lt (tgt := 12) hC.1 hC.2.1 dX1_powerOf_3 (by decide) (fun hc1 => ?_) (fun hc1 => ?_)
  · have hf := o_t hc1 hf
    refine lv_iload_n hC.1 hC.2.1 dX1_powerOf_12 rfl (lv_at hl 1 rfl) ?_
    exact hret hf hM dX1_powerOf_13
  · have hf := o_f hc1 hf
    refine lv_iload_n hC.1 hC.2.1 dX1_powerOf_6 rfl (lv_at hl 1 rfl) ?_
    refine lv_iconst hC.1 hC.2.1 dX1_powerOf_7 ci_2 ?_
    refine lv_iadd hC.1 hC.2.1 dX1_powerOf_8 ?_
    refine lv_goto (tgt := 13) hC.1 hC.2.1 dX1_powerOf_9 (by decide) ?_
    exact hret hf hM dX1_powerOf_13
set_option maxHeartbeats 4000000 in
set_option maxRecDepth 100000 in
theorem mcX1_powerOf_q53 (V : mV) (l : Launch) (M : mM) (p1 : Int32) (p2 : Int32) (r : Int32) (hf : fX1_powerOf_q53 p1 p2 = r) : IC V l yX1_powerOf cX1_powerOf 3 ({ frames := 0, cells := 0, slots := 0, locals := 0 } : Room) [.ref (mvA V 53), .int p1, .int p2] M r M := by
  unfold fX1_powerOf_q53 at hf
  refine mw_enterI RX1 rfl (by decide +kernel) (Nat.le_of_ble_eq_true rfl) (fun {p e s m args below meth c} ls A Q hC hret hM hl => ?_)
  have hl : lv_has ls 3 [(0, .ref (mvA V 53)), (1, .int p1), (2, .int p2)] := hl
  refine lv_iload_n hC.1 hC.2.1 dX1_powerOf_0 rfl (lv_at hl 2 rfl) ?_
  refine lv_bipush hC.1 hC.2.1 dX1_powerOf_1 cb_12 ?_
  refine lv_icmp_lt (tgt := 12) hC.1 hC.2.1 dX1_powerOf_3 (by decide) (fun hc1 => ?_) (fun hc1 => ?_)
  · have hf := o_t hc1 hf
    refine lv_iload_n hC.1 hC.2.1 dX1_powerOf_12 rfl (lv_at hl 1 rfl) ?_
    exact hret hf hM dX1_powerOf_13
  · have hf := o_f hc1 hf
    refine lv_iload_n hC.1 hC.2.1 dX1_powerOf_6 rfl (lv_at hl 1 rfl) ?_
    refine lv_iconst hC.1 hC.2.1 dX1_powerOf_7 ci_2 ?_
    refine lv_iadd hC.1 hC.2.1 dX1_powerOf_8 ?_
    refine lv_goto (tgt := 13) hC.1 hC.2.1 dX1_powerOf_9 (by decide) ?_
    exact hret hf hM dX1_powerOf_13
set_option maxHeartbeats 4000000 in
set_option maxRecDepth 100000 in
theorem mcX7_powerOf_q53 (V : mV) (l : Launch) (M : mM) (p1 : Int32) (p2 : Int32) (r : Int32) (hf : fX7_powerOf_q53 p1 p2 = r) : IC V l yX7_powerOf cX7_powerOf 3 ({ frames := 1, cells := 0, slots := 0, locals := 22 } : Room) [.ref (mvA V 53), .int p1, .int p2] M r M := by
  unfold fX7_powerOf_q53 at hf
  refine mw_enterI RX7 rfl (by decide +kernel) (Nat.le_of_ble_eq_true rfl) (fun {p e s m args below meth c} ls A Q hC hret hM hl => ?_)
  have hl : lv_has ls 3 [(0, .ref (mvA V 53)), (1, .int p1), (2, .int p2)] := hl
  refine lv_iconst hC.1 hC.2.1 dX7_powerOf_0 ci_3 ?_
  refine lv_aload_n hC.1 hC.2.1 dX7_powerOf_1 rfl (lv_at hl 0 rfl) ?_
  refine lv_iload_n hC.1 hC.2.1 dX7_powerOf_2 rfl (lv_at hl 1 rfl) ?_
  refine lv_iload_n hC.1 hC.2.1 dX7_powerOf_3 rfl (lv_at hl 2 rfl) ?_
  refine mw_cUi (As := [.int p1, .int p2]) (rest := [.int 3]) hC hM (mcX1_powerOf_q53 V l M p1 p2 _ rfl) (mw_kU hC q_534 q_1775 q_366 q_528 q_114 q_529 ⟨rfl, rfl⟩ kU_X1_powerOf ⟨Nat.le_of_ble_eq_true rfl, Nat.le_of_ble_eq_true rfl⟩) (Nat.le_of_ble_eq_true rfl) (eC_53 V) rfl rfl rfl (Nat.le_of_ble_eq_true rfl) hl.1 dX7_powerOf_4 (fun H locs hM _ => ?_)
  refine lv_imul hC.1 hC.2.1 dX7_powerOf_7 ?_
  exact hret hf hM dX7_powerOf_8
set_option maxHeartbeats 4000000 in
set_option maxRecDepth 100000 in
theorem mcX0_powerOf_q54 (V : mV) (l : Launch) (M : mM) (p1 : Int32) (p2 : Int32) (r : Int32) (hf : fX0_powerOf_q54 p1 p2 = r) : IC V l yX0_powerOf cX0_powerOf 3 ({ frames := 0, cells := 0, slots := 0, locals := 0 } : Room) [.ref (mvA V 54), .int p1, .int p2] M r M := by
  unfold fX0_powerOf_q54 at hf
  refine mw_enterI RX0 rfl (by decide +kernel) (Nat.le_of_ble_eq_true rfl) (fun {p e s m args below meth c} ls A Q hC hret hM hl => ?_)
  have hl : lv_has ls 3 [(0, .ref (mvA V 54)), (1, .int p1), (2, .int p2)] := hl
  refine lv_iload_n hC.1 hC.2.1 dX0_powerOf_0 rfl (lv_at hl 1 rfl) ?_
  refine lv_iconst hC.1 hC.2.1 dX0_powerOf_1 ci_2 ?_
  refine lv_idiv hC.1 hC.2.1 dX0_powerOf_2 (by decide) ?_
  exact hret hf hM dX0_powerOf_3
set_option maxHeartbeats 4000000 in
set_option maxRecDepth 100000 in
theorem mcX0_powerOf_q55 (V : mV) (l : Launch) (M : mM) (p1 : Int32) (p2 : Int32) (r : Int32) (hf : fX0_powerOf_q55 p1 p2 = r) : IC V l yX0_powerOf cX0_powerOf 3 ({ frames := 0, cells := 0, slots := 0, locals := 0 } : Room) [.ref (mvA V 55), .int p1, .int p2] M r M := by
  unfold fX0_powerOf_q55 at hf
  refine mw_enterI RX0 rfl (by decide +kernel) (Nat.le_of_ble_eq_true rfl) (fun {p e s m args below meth c} ls A Q hC hret hM hl => ?_)
  have hl : lv_has ls 3 [(0, .ref (mvA V 55)), (1, .int p1), (2, .int p2)] := hl
  refine lv_iload_n hC.1 hC.2.1 dX0_powerOf_0 rfl (lv_at hl 1 rfl) ?_
  refine lv_iconst hC.1 hC.2.1 dX0_powerOf_1 ci_2 ?_
  refine lv_idiv hC.1 hC.2.1 dX0_powerOf_2 (by decide) ?_
  exact hret hf hM dX0_powerOf_3
set_option maxHeartbeats 4000000 in
set_option maxRecDepth 100000 in
theorem mcX8_powerOf_q55 (V : mV) (l : Launch) (M : mM) (p1 : Int32) (p2 : Int32) (r : Int32) (hf : fX8_powerOf_q55 p1 p2 = r) : IC V l yX8_powerOf cX8_powerOf 3 ({ frames := 1, cells := 0, slots := 0, locals := 22 } : Room) [.ref (mvA V 55), .int p1, .int p2] M r M := by
  unfold fX8_powerOf_q55 at hf
  refine mw_enterI RX8 rfl (by decide +kernel) (Nat.le_of_ble_eq_true rfl) (fun {p e s m args below meth c} ls A Q hC hret hM hl => ?_)
  have hl : lv_has ls 3 [(0, .ref (mvA V 55)), (1, .int p1), (2, .int p2)] := hl
  refine lv_iload_n hC.1 hC.2.1 dX8_powerOf_0 rfl (lv_at hl 2 rfl) ?_
  refine lv_bipush hC.1 hC.2.1 dX8_powerOf_1 cb_6 ?_
  refine lv_icmp_ge (tgt := 10) hC.1 hC.2.1 dX8_powerOf_3 (by decide) (fun hc1 => ?_) (fun hc1 => ?_)
  · have hf := o_t hc1 hf
    refine lv_aload_n hC.1 hC.2.1 dX8_powerOf_10 rfl (lv_at hl 0 rfl) ?_
    refine lv_iload_n hC.1 hC.2.1 dX8_powerOf_11 rfl (lv_at hl 1 rfl) ?_
    refine lv_iload_n hC.1 hC.2.1 dX8_powerOf_12 rfl (lv_at hl 2 rfl) ?_
    refine mw_cUi (As := [.int p1, .int p2]) (rest := []) hC hM (mcX0_powerOf_q55 V l M p1 p2 _ rfl) (mw_kU hC q_538 q_1776 q_386 q_525 q_116 q_526 ⟨rfl, rfl⟩ kU_X0_powerOf ⟨Nat.le_of_ble_eq_true rfl, Nat.le_of_ble_eq_true rfl⟩) (Nat.le_of_ble_eq_true rfl) (eC_55 V) rfl rfl rfl (Nat.le_of_ble_eq_true rfl) hl.1 dX8_powerOf_13 (fun H locs hM _ => ?_)
    exact hret hf hM dX8_powerOf_16
  · have hf := o_f hc1 hf
    refine lv_iconst hC.1 hC.2.1 dX8_powerOf_6 ci_0 ?_
    refine lv_goto (tgt := 16) hC.1 hC.2.1 dX8_powerOf_7 (by decide) ?_
    exact hret hf hM dX8_powerOf_16
set_option maxHeartbeats 4000000 in
set_option maxRecDepth 100000 in
theorem mcX11_powerAt (V : mV) (l : Launch) (M : mM) (p1 : Int32) (p2 : Int32) (p3 : Int32) (r : Int32) (M' : mM) (hf : fX11_powerAt M p1 p2 p3 = some (r, M')) : IC V l yX11_powerAt cX11_powerAt 6 ({ frames := 2, cells := 0, slots := 0, locals := 53 } : Room) [.ref (mvA V 0), .int p1, .int p2, .int p3] M r M' := by
  unfold fX11_powerAt at hf
  refine mw_enterI RX11 rfl (by decide +kernel) (Nat.le_of_ble_eq_true rfl) (fun {p e s m args below meth c} ls A Q hC hret hM hl => ?_)
  have hl : lv_has ls 6 [(0, .ref (mvA V 0)), (1, .int p1), (2, .int p2), (3, .int p3)] := hl
  refine lv_aload_n hC.1 hC.2.1 dX11_powerAt_0 rfl (lv_at hl 0 rfl) ?_
  refine mw_get (v := .ref (mvA V 1)) hC hM 0 (Nat.le_of_ble_eq_true rfl) (eC_0 V) inW11 rfl 0 (by decide) q_424 (fun _ h9 => h9) rfl dX11_powerAt_1 ?_
  refine mw_get (v := .ref (mvA V 8)) hC hM 1 (Nat.le_of_ble_eq_true rfl) (eC_1 V) inW4 rfl 14 (by decide) q_235 (fun _ h9 => h9) rfl dX11_powerAt_4 ?_
  refine mw_get (v := .ref (mvA V 16)) hC hM 8 (Nat.le_of_ble_eq_true rfl) (eC_8 V) inW6 rfl 10 (by decide) q_182 (fun _ h9 => h9) rfl dX11_powerAt_7 ?_
  refine lv_astore (lv' := [(4, .ref (mvA V 16)), (0, .ref (mvA V 0)), (1, .int p1), (2, .int p2), (3, .int p3)]) hC.1 hC.2.1 dX11_powerAt_10 hl (Nat.le_of_ble_eq_true rfl) rfl (fun ls hl => ?_)
  refine lv_aload hC.1 hC.2.1 dX11_powerAt_12 (lv_at hl 0 rfl) ?_
  refine lv_iconst hC.1 hC.2.1 dX11_powerAt_14 ci_0 ?_
  refine lv_iload_n hC.1 hC.2.1 dX11_powerAt_15 rfl (lv_at hl 3 rfl) ?_
  obtain ⟨hg1, hf⟩ := o_g hf
  refine mw_iast hC hM 16 0 (Nat.le_of_ble_eq_true rfl) (eC_16 V) rfl hg1 dX11_powerAt_16 (fun H locs hM => ?_)
  refine lv_aload hC.1 hC.2.1 dX11_powerAt_17 (lv_at hl 0 rfl) ?_
  refine lv_iconst hC.1 hC.2.1 dX11_powerAt_19 ci_1 ?_
  refine lv_aload_n hC.1 hC.2.1 dX11_powerAt_20 rfl (lv_at hl 1 rfl) ?_
  refine mw_get (v := .ref (mvA V 1)) hC hM 0 (Nat.le_of_ble_eq_true rfl) (eC_0 V) inW11 rfl 0 (by decide) q_424 (fun _ h9 => h9) rfl dX11_powerAt_21 ?_
  refine mw_get (v := .ref (mvA V 3)) hC hM 1 (Nat.le_of_ble_eq_true rfl) (eC_1 V) inW4 rfl 2 (by decide) q_211 (fun _ h9 => h9) rfl dX11_powerAt_24 ?_
  refine lv_iload_n hC.1 hC.2.1 dX11_powerAt_27 rfl (lv_at hl 2 rfl) ?_
  obtain ⟨hg2, hf⟩ := o_g hf
  refine mw_iald hC hM 3 0 (Nat.le_of_ble_eq_true rfl) (eC_3 V) rfl hg2 dX11_powerAt_28 ?_
  obtain ⟨hg3, hf⟩ := o_g hf
  refine mw_iast hC hM 16 0 (Nat.le_of_ble_eq_true rfl) (eC_16 V) rfl hg3 dX11_powerAt_29 (fun H locs hM => ?_)
  refine lv_aload hC.1 hC.2.1 dX11_powerAt_30 (lv_at hl 0 rfl) ?_
  refine lv_iconst hC.1 hC.2.1 dX11_powerAt_32 ci_2 ?_
  refine lv_aload_n hC.1 hC.2.1 dX11_powerAt_33 rfl (lv_at hl 1 rfl) ?_
  refine mw_get (v := .ref (mvA V 1)) hC hM 0 (Nat.le_of_ble_eq_true rfl) (eC_0 V) inW11 rfl 0 (by decide) q_424 (fun _ h9 => h9) rfl dX11_powerAt_34 ?_
  refine mw_get (v := .ref (mvA V 4)) hC hM 1 (Nat.le_of_ble_eq_true rfl) (eC_1 V) inW4 rfl 3 (by decide) q_213 (fun _ h9 => h9) rfl dX11_powerAt_37 ?_
  refine lv_iload_n hC.1 hC.2.1 dX11_powerAt_40 rfl (lv_at hl 2 rfl) ?_
  obtain ⟨hg4, hf⟩ := o_g hf
  refine mw_iald hC hM 4 0 (Nat.le_of_ble_eq_true rfl) (eC_4 V) rfl hg4 dX11_powerAt_41 ?_
  obtain ⟨hg5, hf⟩ := o_g hf
  refine mw_iast hC hM 16 0 (Nat.le_of_ble_eq_true rfl) (eC_16 V) rfl hg5 dX11_powerAt_42 (fun H locs hM => ?_)
  refine lv_aload hC.1 hC.2.1 dX11_powerAt_43 (lv_at hl 0 rfl) ?_
  refine lv_iconst hC.1 hC.2.1 dX11_powerAt_45 ci_3 ?_
  refine lv_iload_n hC.1 hC.2.1 dX11_powerAt_46 rfl (lv_at hl 4 rfl) ?_
  obtain ⟨hg6, hf⟩ := o_g hf
  refine mw_iast hC hM 16 0 (Nat.le_of_ble_eq_true rfl) (eC_16 V) rfl hg6 dX11_powerAt_47 (fun H locs hM => ?_)
  refine lv_aload hC.1 hC.2.1 dX11_powerAt_48 (lv_at hl 0 rfl) ?_
  refine lv_iconst hC.1 hC.2.1 dX11_powerAt_50 ci_4 ?_
  refine lv_iload_n hC.1 hC.2.1 dX11_powerAt_51 rfl (lv_at hl 2 rfl) ?_
  obtain ⟨hg7, hf⟩ := o_g hf
  refine mw_iast hC hM 16 0 (Nat.le_of_ble_eq_true rfl) (eC_16 V) rfl hg7 dX11_powerAt_52 (fun H locs hM => ?_)
  refine lv_aload_n hC.1 hC.2.1 dX11_powerAt_53 rfl (lv_at hl 1 rfl) ?_
  refine mw_get (v := .ref (mvA V 1)) hC hM 0 (Nat.le_of_ble_eq_true rfl) (eC_0 V) inW11 rfl 0 (by decide) q_424 (fun _ h9 => h9) rfl dX11_powerAt_54 ?_
  refine mw_get (v := .ref (mvA V 2)) hC hM 1 (Nat.le_of_ble_eq_true rfl) (eC_1 V) inW4 rfl 1 (by decide) q_209 (fun _ h9 => h9) rfl dX11_powerAt_57 ?_
  refine lv_iload_n hC.1 hC.2.1 dX11_powerAt_60 rfl (lv_at hl 2 rfl) ?_
  obtain ⟨hg8, hf⟩ := o_g hf
  refine mw_iald hC hM 2 0 (Nat.le_of_ble_eq_true rfl) (eC_2 V) rfl hg8 dX11_powerAt_61 ?_
  refine lv_istore (lv' := [(5, .int ((wr (wr (wr (wr (wr M 16 (Int32.toNatClampNeg 0) p2) 16 (Int32.toNatClampNeg 1) ((wr M 16 (Int32.toNatClampNeg 0) p2) 3 (Int32.toNatClampNeg p1))) 16 (Int32.toNatClampNeg 2) ((wr (wr M 16 (Int32.toNatClampNeg 0) p2) 16 (Int32.toNatClampNeg 1) ((wr M 16 (Int32.toNatClampNeg 0) p2) 3 (Int32.toNatClampNeg p1))) 4 (Int32.toNatClampNeg p1))) 16 (Int32.toNatClampNeg 3) p3) 16 (Int32.toNatClampNeg 4) p1) 2 (Int32.toNatClampNeg p1))), (4, .ref (mvA V 16)), (0, .ref (mvA V 0)), (1, .int p1), (2, .int p2), (3, .int p3)]) hC.1 hC.2.1 dX11_powerAt_62 hl (Nat.le_of_ble_eq_true rfl) rfl (fun ls hl => ?_)
  refine lv_aload_n hC.1 hC.2.1 dX11_powerAt_64 rfl (lv_at hl 2 rfl) ?_
  refine mw_get (v := .ref (mvA V 49)) hC hM 0 (Nat.le_of_ble_eq_true rfl) (eC_0 V) inW11 rfl 5 (by decide) q_429 (fun _ h9 => h9) rfl dX11_powerAt_65 ?_
  refine lv_iload hC.1 hC.2.1 dX11_powerAt_68 (lv_at hl 0 rfl) ?_
  obtain ⟨hg9, hf⟩ := o_g hf
  refine mw_aald hC hM 49 1 (Nat.le_of_ble_eq_true rfl) (eC_49 V) rfl hg9 dX11_powerAt_70 ?_
  by_cases hc13 : ((wr (wr (wr (wr (wr M 16 (Int32.toNatClampNeg 0) p2) 16 (Int32.toNatClampNeg 1) ((wr M 16 (Int32.toNatClampNeg 0) p2) 3 (Int32.toNatClampNeg p1))) 16 (Int32.toNatClampNeg 2) ((wr (wr M 16 (Int32.toNatClampNeg 0) p2) 16 (Int32.toNatClampNeg 1) ((wr M 16 (Int32.toNatClampNeg 0) p2) 3 (Int32.toNatClampNeg p1))) 4 (Int32.toNatClampNeg p1))) 16 (Int32.toNatClampNeg 3) p3) 16 (Int32.toNatClampNeg 4) p1) 2 (Int32.toNatClampNeg p1)) = 0
  · have hf := o_t hc13 hf
    refine W.eq (g2 := F0 m 71 ls (.ref (mvA V 50) :: [])) (by rw [hc13]; rfl) ?_
    refine lv_aload_n hC.1 hC.2.1 dX11_powerAt_71 rfl (lv_at hl 2 rfl) ?_
    refine mw_get (v := .ref (mvA V 1)) hC hM 0 (Nat.le_of_ble_eq_true rfl) (eC_0 V) inW11 rfl 0 (by decide) q_424 (fun _ h9 => h9) rfl dX11_powerAt_72 ?_
    refine mw_get (v := .ref (mvA V 8)) hC hM 1 (Nat.le_of_ble_eq_true rfl) (eC_1 V) inW4 rfl 14 (by decide) q_235 (fun _ h9 => h9) rfl dX11_powerAt_75 ?_
    refine lv_iload hC.1 hC.2.1 dX11_powerAt_78 (lv_at hl 0 rfl) ?_
    refine lv_aload_n hC.1 hC.2.1 dX11_powerAt_80 rfl (lv_at hl 2 rfl) ?_
    refine mw_get (v := .ref (mvA V 1)) hC hM 0 (Nat.le_of_ble_eq_true rfl) (eC_0 V) inW11 rfl 0 (by decide) q_424 (fun _ h9 => h9) rfl dX11_powerAt_81 ?_
    refine mw_get (v := .ref (mvA V 4)) hC hM 1 (Nat.le_of_ble_eq_true rfl) (eC_1 V) inW4 rfl 3 (by decide) q_213 (fun _ h9 => h9) rfl dX11_powerAt_84 ?_
    refine lv_iload_n hC.1 hC.2.1 dX11_powerAt_87 rfl (lv_at hl 3 rfl) ?_
    obtain ⟨hg10, hf⟩ := o_g hf
    refine mw_iald hC hM 4 0 (Nat.le_of_ble_eq_true rfl) (eC_4 V) rfl hg10 dX11_powerAt_88 ?_
    obtain ⟨r11, hq12, hf⟩ := o_b hf
    refine mw_cVi (As := [.int ((wr (wr (wr (wr (wr M 16 (Int32.toNatClampNeg 0) p2) 16 (Int32.toNatClampNeg 1) ((wr M 16 (Int32.toNatClampNeg 0) p2) 3 (Int32.toNatClampNeg p1))) 16 (Int32.toNatClampNeg 2) ((wr (wr M 16 (Int32.toNatClampNeg 0) p2) 16 (Int32.toNatClampNeg 1) ((wr M 16 (Int32.toNatClampNeg 0) p2) 3 (Int32.toNatClampNeg p1))) 4 (Int32.toNatClampNeg p1))) 16 (Int32.toNatClampNeg 3) p3) 16 (Int32.toNatClampNeg 4) p1) 2 (Int32.toNatClampNeg p1)), .int ((wr (wr (wr (wr (wr M 16 (Int32.toNatClampNeg 0) p2) 16 (Int32.toNatClampNeg 1) ((wr M 16 (Int32.toNatClampNeg 0) p2) 3 (Int32.toNatClampNeg p1))) 16 (Int32.toNatClampNeg 2) ((wr (wr M 16 (Int32.toNatClampNeg 0) p2) 16 (Int32.toNatClampNeg 1) ((wr M 16 (Int32.toNatClampNeg 0) p2) 3 (Int32.toNatClampNeg p1))) 4 (Int32.toNatClampNeg p1))) 16 (Int32.toNatClampNeg 3) p3) 16 (Int32.toNatClampNeg 4) p1) 4 (Int32.toNatClampNeg p1))]) (rest := [.ref (mvA V 50)]) hC hM (mcX6_weigh_q8 V l (wr (wr (wr (wr (wr M 16 (Int32.toNatClampNeg 0) p2) 16 (Int32.toNatClampNeg 1) ((wr M 16 (Int32.toNatClampNeg 0) p2) 3 (Int32.toNatClampNeg p1))) 16 (Int32.toNatClampNeg 2) ((wr (wr M 16 (Int32.toNatClampNeg 0) p2) 16 (Int32.toNatClampNeg 1) ((wr M 16 (Int32.toNatClampNeg 0) p2) 3 (Int32.toNatClampNeg p1))) 4 (Int32.toNatClampNeg p1))) 16 (Int32.toNatClampNeg 3) p3) 16 (Int32.toNatClampNeg 4) p1) ((wr (wr (wr (wr (wr M 16 (Int32.toNatClampNeg 0) p2) 16 (Int32.toNatClampNeg 1) ((wr M 16 (Int32.toNatClampNeg 0) p2) 3 (Int32.toNatClampNeg p1))) 16 (Int32.toNatClampNeg 2) ((wr (wr M 16 (Int32.toNatClampNeg 0) p2) 16 (Int32.toNatClampNeg 1) ((wr M 16 (Int32.toNatClampNeg 0) p2) 3 (Int32.toNatClampNeg p1))) 4 (Int32.toNatClampNeg p1))) 16 (Int32.toNatClampNeg 3) p3) 16 (Int32.toNatClampNeg 4) p1) 2 (Int32.toNatClampNeg p1)) ((wr (wr (wr (wr (wr M 16 (Int32.toNatClampNeg 0) p2) 16 (Int32.toNatClampNeg 1) ((wr M 16 (Int32.toNatClampNeg 0) p2) 3 (Int32.toNatClampNeg p1))) 16 (Int32.toNatClampNeg 2) ((wr (wr M 16 (Int32.toNatClampNeg 0) p2) 16 (Int32.toNatClampNeg 1) ((wr M 16 (Int32.toNatClampNeg 0) p2) 3 (Int32.toNatClampNeg p1))) 4 (Int32.toNatClampNeg p1))) 16 (Int32.toNatClampNeg 3) p3) 16 (Int32.toNatClampNeg 4) p1) 4 (Int32.toNatClampNeg p1)) r11 hq12) (mw_kV hC q_506 q_507 q_508 q_110 q_509 ⟨rfl, rfl⟩ kV_X6_weigh ⟨Nat.le_of_ble_eq_true rfl, Nat.le_of_ble_eq_true rfl⟩) (Nat.le_of_ble_eq_true rfl) (eC_8 V) rfl rfl rfl (Nat.le_of_ble_eq_true rfl) hl.1 dX11_powerAt_89 (fun H locs hM _ => ?_)
    refine lv_iload_n hC.1 hC.2.1 dX11_powerAt_92 rfl (lv_at hl 4 rfl) ?_
    refine mw_cVi (As := [.int r11, .int p2]) (rest := []) hC hM (mcX9_powerOf_q50 V l (wr (wr (wr (wr (wr M 16 (Int32.toNatClampNeg 0) p2) 16 (Int32.toNatClampNeg 1) ((wr M 16 (Int32.toNatClampNeg 0) p2) 3 (Int32.toNatClampNeg p1))) 16 (Int32.toNatClampNeg 2) ((wr (wr M 16 (Int32.toNatClampNeg 0) p2) 16 (Int32.toNatClampNeg 1) ((wr M 16 (Int32.toNatClampNeg 0) p2) 3 (Int32.toNatClampNeg p1))) 4 (Int32.toNatClampNeg p1))) 16 (Int32.toNatClampNeg 3) p3) 16 (Int32.toNatClampNeg 4) p1) r11 p2 _ rfl) (mw_kV hC q_520 q_521 q_522 q_112 q_539 ⟨rfl, rfl⟩ kV_X9_powerOf ⟨Nat.le_of_ble_eq_true rfl, Nat.le_of_ble_eq_true rfl⟩) (Nat.le_of_ble_eq_true rfl) (eC_50 V) rfl rfl rfl (Nat.le_of_ble_eq_true rfl) hl.1 dX11_powerAt_93 (fun H locs hM _ => ?_)
    exact hret (o_r1 hf) (o_r2 hf hM) dX11_powerAt_96
  have hf := o_f hc13 hf
  by_cases hc17 : ((wr (wr (wr (wr (wr M 16 (Int32.toNatClampNeg 0) p2) 16 (Int32.toNatClampNeg 1) ((wr M 16 (Int32.toNatClampNeg 0) p2) 3 (Int32.toNatClampNeg p1))) 16 (Int32.toNatClampNeg 2) ((wr (wr M 16 (Int32.toNatClampNeg 0) p2) 16 (Int32.toNatClampNeg 1) ((wr M 16 (Int32.toNatClampNeg 0) p2) 3 (Int32.toNatClampNeg p1))) 4 (Int32.toNatClampNeg p1))) 16 (Int32.toNatClampNeg 3) p3) 16 (Int32.toNatClampNeg 4) p1) 2 (Int32.toNatClampNeg p1)) = 1
  · have hf := o_t hc17 hf
    refine W.eq (g2 := F0 m 71 ls (.ref (mvA V 51) :: [])) (by rw [hc17]; rfl) ?_
    refine lv_aload_n hC.1 hC.2.1 dX11_powerAt_71 rfl (lv_at hl 2 rfl) ?_
    refine mw_get (v := .ref (mvA V 1)) hC hM 0 (Nat.le_of_ble_eq_true rfl) (eC_0 V) inW11 rfl 0 (by decide) q_424 (fun _ h9 => h9) rfl dX11_powerAt_72 ?_
    refine mw_get (v := .ref (mvA V 8)) hC hM 1 (Nat.le_of_ble_eq_true rfl) (eC_1 V) inW4 rfl 14 (by decide) q_235 (fun _ h9 => h9) rfl dX11_powerAt_75 ?_
    refine lv_iload hC.1 hC.2.1 dX11_powerAt_78 (lv_at hl 0 rfl) ?_
    refine lv_aload_n hC.1 hC.2.1 dX11_powerAt_80 rfl (lv_at hl 2 rfl) ?_
    refine mw_get (v := .ref (mvA V 1)) hC hM 0 (Nat.le_of_ble_eq_true rfl) (eC_0 V) inW11 rfl 0 (by decide) q_424 (fun _ h9 => h9) rfl dX11_powerAt_81 ?_
    refine mw_get (v := .ref (mvA V 4)) hC hM 1 (Nat.le_of_ble_eq_true rfl) (eC_1 V) inW4 rfl 3 (by decide) q_213 (fun _ h9 => h9) rfl dX11_powerAt_84 ?_
    refine lv_iload_n hC.1 hC.2.1 dX11_powerAt_87 rfl (lv_at hl 3 rfl) ?_
    obtain ⟨hg14, hf⟩ := o_g hf
    refine mw_iald hC hM 4 0 (Nat.le_of_ble_eq_true rfl) (eC_4 V) rfl hg14 dX11_powerAt_88 ?_
    obtain ⟨r15, hq16, hf⟩ := o_b hf
    refine mw_cVi (As := [.int ((wr (wr (wr (wr (wr M 16 (Int32.toNatClampNeg 0) p2) 16 (Int32.toNatClampNeg 1) ((wr M 16 (Int32.toNatClampNeg 0) p2) 3 (Int32.toNatClampNeg p1))) 16 (Int32.toNatClampNeg 2) ((wr (wr M 16 (Int32.toNatClampNeg 0) p2) 16 (Int32.toNatClampNeg 1) ((wr M 16 (Int32.toNatClampNeg 0) p2) 3 (Int32.toNatClampNeg p1))) 4 (Int32.toNatClampNeg p1))) 16 (Int32.toNatClampNeg 3) p3) 16 (Int32.toNatClampNeg 4) p1) 2 (Int32.toNatClampNeg p1)), .int ((wr (wr (wr (wr (wr M 16 (Int32.toNatClampNeg 0) p2) 16 (Int32.toNatClampNeg 1) ((wr M 16 (Int32.toNatClampNeg 0) p2) 3 (Int32.toNatClampNeg p1))) 16 (Int32.toNatClampNeg 2) ((wr (wr M 16 (Int32.toNatClampNeg 0) p2) 16 (Int32.toNatClampNeg 1) ((wr M 16 (Int32.toNatClampNeg 0) p2) 3 (Int32.toNatClampNeg p1))) 4 (Int32.toNatClampNeg p1))) 16 (Int32.toNatClampNeg 3) p3) 16 (Int32.toNatClampNeg 4) p1) 4 (Int32.toNatClampNeg p1))]) (rest := [.ref (mvA V 51)]) hC hM (mcX6_weigh_q8 V l (wr (wr (wr (wr (wr M 16 (Int32.toNatClampNeg 0) p2) 16 (Int32.toNatClampNeg 1) ((wr M 16 (Int32.toNatClampNeg 0) p2) 3 (Int32.toNatClampNeg p1))) 16 (Int32.toNatClampNeg 2) ((wr (wr M 16 (Int32.toNatClampNeg 0) p2) 16 (Int32.toNatClampNeg 1) ((wr M 16 (Int32.toNatClampNeg 0) p2) 3 (Int32.toNatClampNeg p1))) 4 (Int32.toNatClampNeg p1))) 16 (Int32.toNatClampNeg 3) p3) 16 (Int32.toNatClampNeg 4) p1) ((wr (wr (wr (wr (wr M 16 (Int32.toNatClampNeg 0) p2) 16 (Int32.toNatClampNeg 1) ((wr M 16 (Int32.toNatClampNeg 0) p2) 3 (Int32.toNatClampNeg p1))) 16 (Int32.toNatClampNeg 2) ((wr (wr M 16 (Int32.toNatClampNeg 0) p2) 16 (Int32.toNatClampNeg 1) ((wr M 16 (Int32.toNatClampNeg 0) p2) 3 (Int32.toNatClampNeg p1))) 4 (Int32.toNatClampNeg p1))) 16 (Int32.toNatClampNeg 3) p3) 16 (Int32.toNatClampNeg 4) p1) 2 (Int32.toNatClampNeg p1)) ((wr (wr (wr (wr (wr M 16 (Int32.toNatClampNeg 0) p2) 16 (Int32.toNatClampNeg 1) ((wr M 16 (Int32.toNatClampNeg 0) p2) 3 (Int32.toNatClampNeg p1))) 16 (Int32.toNatClampNeg 2) ((wr (wr M 16 (Int32.toNatClampNeg 0) p2) 16 (Int32.toNatClampNeg 1) ((wr M 16 (Int32.toNatClampNeg 0) p2) 3 (Int32.toNatClampNeg p1))) 4 (Int32.toNatClampNeg p1))) 16 (Int32.toNatClampNeg 3) p3) 16 (Int32.toNatClampNeg 4) p1) 4 (Int32.toNatClampNeg p1)) r15 hq16) (mw_kV hC q_506 q_507 q_508 q_110 q_509 ⟨rfl, rfl⟩ kV_X6_weigh ⟨Nat.le_of_ble_eq_true rfl, Nat.le_of_ble_eq_true rfl⟩) (Nat.le_of_ble_eq_true rfl) (eC_8 V) rfl rfl rfl (Nat.le_of_ble_eq_true rfl) hl.1 dX11_powerAt_89 (fun H locs hM _ => ?_)
    refine lv_iload_n hC.1 hC.2.1 dX11_powerAt_92 rfl (lv_at hl 4 rfl) ?_
    refine mw_cOi (As := [.int r15, .int p2]) (rest := []) hC hM (mcX9_powerOf_q51 V l (wr (wr (wr (wr (wr M 16 (Int32.toNatClampNeg 0) p2) 16 (Int32.toNatClampNeg 1) ((wr M 16 (Int32.toNatClampNeg 0) p2) 3 (Int32.toNatClampNeg p1))) 16 (Int32.toNatClampNeg 2) ((wr (wr M 16 (Int32.toNatClampNeg 0) p2) 16 (Int32.toNatClampNeg 1) ((wr M 16 (Int32.toNatClampNeg 0) p2) 3 (Int32.toNatClampNeg p1))) 4 (Int32.toNatClampNeg p1))) 16 (Int32.toNatClampNeg 3) p3) 16 (Int32.toNatClampNeg 4) p1) r15 p2 _ rfl) (mw_kO (owner := RX9) hC q_520 q_523 q_521 q_530 q_521 q_112 q_539 q_539 ⟨rfl, rfl⟩ kO_X9_powerOf ⟨Nat.le_of_ble_eq_true rfl, Nat.le_of_ble_eq_true rfl⟩) (Nat.le_of_ble_eq_true rfl) (eC_51 V) rfl rfl rfl (Nat.le_of_ble_eq_true rfl) hl.1 dX11_powerAt_93 (fun H locs hM _ => ?_)
    exact hret (o_r1 hf) (o_r2 hf hM) dX11_powerAt_96
  have hf := o_f hc17 hf
  by_cases hc21 : ((wr (wr (wr (wr (wr M 16 (Int32.toNatClampNeg 0) p2) 16 (Int32.toNatClampNeg 1) ((wr M 16 (Int32.toNatClampNeg 0) p2) 3 (Int32.toNatClampNeg p1))) 16 (Int32.toNatClampNeg 2) ((wr (wr M 16 (Int32.toNatClampNeg 0) p2) 16 (Int32.toNatClampNeg 1) ((wr M 16 (Int32.toNatClampNeg 0) p2) 3 (Int32.toNatClampNeg p1))) 4 (Int32.toNatClampNeg p1))) 16 (Int32.toNatClampNeg 3) p3) 16 (Int32.toNatClampNeg 4) p1) 2 (Int32.toNatClampNeg p1)) = 2
  · have hf := o_t hc21 hf
    refine W.eq (g2 := F0 m 71 ls (.ref (mvA V 52) :: [])) (by rw [hc21]; rfl) ?_
    refine lv_aload_n hC.1 hC.2.1 dX11_powerAt_71 rfl (lv_at hl 2 rfl) ?_
    refine mw_get (v := .ref (mvA V 1)) hC hM 0 (Nat.le_of_ble_eq_true rfl) (eC_0 V) inW11 rfl 0 (by decide) q_424 (fun _ h9 => h9) rfl dX11_powerAt_72 ?_
    refine mw_get (v := .ref (mvA V 8)) hC hM 1 (Nat.le_of_ble_eq_true rfl) (eC_1 V) inW4 rfl 14 (by decide) q_235 (fun _ h9 => h9) rfl dX11_powerAt_75 ?_
    refine lv_iload hC.1 hC.2.1 dX11_powerAt_78 (lv_at hl 0 rfl) ?_
    refine lv_aload_n hC.1 hC.2.1 dX11_powerAt_80 rfl (lv_at hl 2 rfl) ?_
    refine mw_get (v := .ref (mvA V 1)) hC hM 0 (Nat.le_of_ble_eq_true rfl) (eC_0 V) inW11 rfl 0 (by decide) q_424 (fun _ h9 => h9) rfl dX11_powerAt_81 ?_
    refine mw_get (v := .ref (mvA V 4)) hC hM 1 (Nat.le_of_ble_eq_true rfl) (eC_1 V) inW4 rfl 3 (by decide) q_213 (fun _ h9 => h9) rfl dX11_powerAt_84 ?_
    refine lv_iload_n hC.1 hC.2.1 dX11_powerAt_87 rfl (lv_at hl 3 rfl) ?_
    obtain ⟨hg18, hf⟩ := o_g hf
    refine mw_iald hC hM 4 0 (Nat.le_of_ble_eq_true rfl) (eC_4 V) rfl hg18 dX11_powerAt_88 ?_
    obtain ⟨r19, hq20, hf⟩ := o_b hf
    refine mw_cVi (As := [.int ((wr (wr (wr (wr (wr M 16 (Int32.toNatClampNeg 0) p2) 16 (Int32.toNatClampNeg 1) ((wr M 16 (Int32.toNatClampNeg 0) p2) 3 (Int32.toNatClampNeg p1))) 16 (Int32.toNatClampNeg 2) ((wr (wr M 16 (Int32.toNatClampNeg 0) p2) 16 (Int32.toNatClampNeg 1) ((wr M 16 (Int32.toNatClampNeg 0) p2) 3 (Int32.toNatClampNeg p1))) 4 (Int32.toNatClampNeg p1))) 16 (Int32.toNatClampNeg 3) p3) 16 (Int32.toNatClampNeg 4) p1) 2 (Int32.toNatClampNeg p1)), .int ((wr (wr (wr (wr (wr M 16 (Int32.toNatClampNeg 0) p2) 16 (Int32.toNatClampNeg 1) ((wr M 16 (Int32.toNatClampNeg 0) p2) 3 (Int32.toNatClampNeg p1))) 16 (Int32.toNatClampNeg 2) ((wr (wr M 16 (Int32.toNatClampNeg 0) p2) 16 (Int32.toNatClampNeg 1) ((wr M 16 (Int32.toNatClampNeg 0) p2) 3 (Int32.toNatClampNeg p1))) 4 (Int32.toNatClampNeg p1))) 16 (Int32.toNatClampNeg 3) p3) 16 (Int32.toNatClampNeg 4) p1) 4 (Int32.toNatClampNeg p1))]) (rest := [.ref (mvA V 52)]) hC hM (mcX6_weigh_q8 V l (wr (wr (wr (wr (wr M 16 (Int32.toNatClampNeg 0) p2) 16 (Int32.toNatClampNeg 1) ((wr M 16 (Int32.toNatClampNeg 0) p2) 3 (Int32.toNatClampNeg p1))) 16 (Int32.toNatClampNeg 2) ((wr (wr M 16 (Int32.toNatClampNeg 0) p2) 16 (Int32.toNatClampNeg 1) ((wr M 16 (Int32.toNatClampNeg 0) p2) 3 (Int32.toNatClampNeg p1))) 4 (Int32.toNatClampNeg p1))) 16 (Int32.toNatClampNeg 3) p3) 16 (Int32.toNatClampNeg 4) p1) ((wr (wr (wr (wr (wr M 16 (Int32.toNatClampNeg 0) p2) 16 (Int32.toNatClampNeg 1) ((wr M 16 (Int32.toNatClampNeg 0) p2) 3 (Int32.toNatClampNeg p1))) 16 (Int32.toNatClampNeg 2) ((wr (wr M 16 (Int32.toNatClampNeg 0) p2) 16 (Int32.toNatClampNeg 1) ((wr M 16 (Int32.toNatClampNeg 0) p2) 3 (Int32.toNatClampNeg p1))) 4 (Int32.toNatClampNeg p1))) 16 (Int32.toNatClampNeg 3) p3) 16 (Int32.toNatClampNeg 4) p1) 2 (Int32.toNatClampNeg p1)) ((wr (wr (wr (wr (wr M 16 (Int32.toNatClampNeg 0) p2) 16 (Int32.toNatClampNeg 1) ((wr M 16 (Int32.toNatClampNeg 0) p2) 3 (Int32.toNatClampNeg p1))) 16 (Int32.toNatClampNeg 2) ((wr (wr M 16 (Int32.toNatClampNeg 0) p2) 16 (Int32.toNatClampNeg 1) ((wr M 16 (Int32.toNatClampNeg 0) p2) 3 (Int32.toNatClampNeg p1))) 4 (Int32.toNatClampNeg p1))) 16 (Int32.toNatClampNeg 3) p3) 16 (Int32.toNatClampNeg 4) p1) 4 (Int32.toNatClampNeg p1)) r19 hq20) (mw_kV hC q_506 q_507 q_508 q_110 q_509 ⟨rfl, rfl⟩ kV_X6_weigh ⟨Nat.le_of_ble_eq_true rfl, Nat.le_of_ble_eq_true rfl⟩) (Nat.le_of_ble_eq_true rfl) (eC_8 V) rfl rfl rfl (Nat.le_of_ble_eq_true rfl) hl.1 dX11_powerAt_89 (fun H locs hM _ => ?_)
    refine lv_iload_n hC.1 hC.2.1 dX11_powerAt_92 rfl (lv_at hl 4 rfl) ?_
    refine mw_cOi (As := [.int r19, .int p2]) (rest := []) hC hM (mcX1_powerOf_q52 V l (wr (wr (wr (wr (wr M 16 (Int32.toNatClampNeg 0) p2) 16 (Int32.toNatClampNeg 1) ((wr M 16 (Int32.toNatClampNeg 0) p2) 3 (Int32.toNatClampNeg p1))) 16 (Int32.toNatClampNeg 2) ((wr (wr M 16 (Int32.toNatClampNeg 0) p2) 16 (Int32.toNatClampNeg 1) ((wr M 16 (Int32.toNatClampNeg 0) p2) 3 (Int32.toNatClampNeg p1))) 4 (Int32.toNatClampNeg p1))) 16 (Int32.toNatClampNeg 3) p3) 16 (Int32.toNatClampNeg 4) p1) r19 p2 _ rfl) (mw_kO (owner := RX9) hC q_520 q_523 q_521 q_527 q_528 q_114 q_529 q_539 ⟨rfl, rfl⟩ kO_X9_powerOf ⟨Nat.le_of_ble_eq_true rfl, Nat.le_of_ble_eq_true rfl⟩) (Nat.le_of_ble_eq_true rfl) (eC_52 V) rfl rfl rfl (Nat.le_of_ble_eq_true rfl) hl.1 dX11_powerAt_93 (fun H locs hM _ => ?_)
    exact hret (o_r1 hf) (o_r2 hf hM) dX11_powerAt_96
  have hf := o_f hc21 hf
  by_cases hc25 : ((wr (wr (wr (wr (wr M 16 (Int32.toNatClampNeg 0) p2) 16 (Int32.toNatClampNeg 1) ((wr M 16 (Int32.toNatClampNeg 0) p2) 3 (Int32.toNatClampNeg p1))) 16 (Int32.toNatClampNeg 2) ((wr (wr M 16 (Int32.toNatClampNeg 0) p2) 16 (Int32.toNatClampNeg 1) ((wr M 16 (Int32.toNatClampNeg 0) p2) 3 (Int32.toNatClampNeg p1))) 4 (Int32.toNatClampNeg p1))) 16 (Int32.toNatClampNeg 3) p3) 16 (Int32.toNatClampNeg 4) p1) 2 (Int32.toNatClampNeg p1)) = 3
  · have hf := o_t hc25 hf
    refine W.eq (g2 := F0 m 71 ls (.ref (mvA V 53) :: [])) (by rw [hc25]; rfl) ?_
    refine lv_aload_n hC.1 hC.2.1 dX11_powerAt_71 rfl (lv_at hl 2 rfl) ?_
    refine mw_get (v := .ref (mvA V 1)) hC hM 0 (Nat.le_of_ble_eq_true rfl) (eC_0 V) inW11 rfl 0 (by decide) q_424 (fun _ h9 => h9) rfl dX11_powerAt_72 ?_
    refine mw_get (v := .ref (mvA V 8)) hC hM 1 (Nat.le_of_ble_eq_true rfl) (eC_1 V) inW4 rfl 14 (by decide) q_235 (fun _ h9 => h9) rfl dX11_powerAt_75 ?_
    refine lv_iload hC.1 hC.2.1 dX11_powerAt_78 (lv_at hl 0 rfl) ?_
    refine lv_aload_n hC.1 hC.2.1 dX11_powerAt_80 rfl (lv_at hl 2 rfl) ?_
    refine mw_get (v := .ref (mvA V 1)) hC hM 0 (Nat.le_of_ble_eq_true rfl) (eC_0 V) inW11 rfl 0 (by decide) q_424 (fun _ h9 => h9) rfl dX11_powerAt_81 ?_
    refine mw_get (v := .ref (mvA V 4)) hC hM 1 (Nat.le_of_ble_eq_true rfl) (eC_1 V) inW4 rfl 3 (by decide) q_213 (fun _ h9 => h9) rfl dX11_powerAt_84 ?_
    refine lv_iload_n hC.1 hC.2.1 dX11_powerAt_87 rfl (lv_at hl 3 rfl) ?_
    obtain ⟨hg22, hf⟩ := o_g hf
    refine mw_iald hC hM 4 0 (Nat.le_of_ble_eq_true rfl) (eC_4 V) rfl hg22 dX11_powerAt_88 ?_
    obtain ⟨r23, hq24, hf⟩ := o_b hf
    refine mw_cVi (As := [.int ((wr (wr (wr (wr (wr M 16 (Int32.toNatClampNeg 0) p2) 16 (Int32.toNatClampNeg 1) ((wr M 16 (Int32.toNatClampNeg 0) p2) 3 (Int32.toNatClampNeg p1))) 16 (Int32.toNatClampNeg 2) ((wr (wr M 16 (Int32.toNatClampNeg 0) p2) 16 (Int32.toNatClampNeg 1) ((wr M 16 (Int32.toNatClampNeg 0) p2) 3 (Int32.toNatClampNeg p1))) 4 (Int32.toNatClampNeg p1))) 16 (Int32.toNatClampNeg 3) p3) 16 (Int32.toNatClampNeg 4) p1) 2 (Int32.toNatClampNeg p1)), .int ((wr (wr (wr (wr (wr M 16 (Int32.toNatClampNeg 0) p2) 16 (Int32.toNatClampNeg 1) ((wr M 16 (Int32.toNatClampNeg 0) p2) 3 (Int32.toNatClampNeg p1))) 16 (Int32.toNatClampNeg 2) ((wr (wr M 16 (Int32.toNatClampNeg 0) p2) 16 (Int32.toNatClampNeg 1) ((wr M 16 (Int32.toNatClampNeg 0) p2) 3 (Int32.toNatClampNeg p1))) 4 (Int32.toNatClampNeg p1))) 16 (Int32.toNatClampNeg 3) p3) 16 (Int32.toNatClampNeg 4) p1) 4 (Int32.toNatClampNeg p1))]) (rest := [.ref (mvA V 53)]) hC hM (mcX6_weigh_q8 V l (wr (wr (wr (wr (wr M 16 (Int32.toNatClampNeg 0) p2) 16 (Int32.toNatClampNeg 1) ((wr M 16 (Int32.toNatClampNeg 0) p2) 3 (Int32.toNatClampNeg p1))) 16 (Int32.toNatClampNeg 2) ((wr (wr M 16 (Int32.toNatClampNeg 0) p2) 16 (Int32.toNatClampNeg 1) ((wr M 16 (Int32.toNatClampNeg 0) p2) 3 (Int32.toNatClampNeg p1))) 4 (Int32.toNatClampNeg p1))) 16 (Int32.toNatClampNeg 3) p3) 16 (Int32.toNatClampNeg 4) p1) ((wr (wr (wr (wr (wr M 16 (Int32.toNatClampNeg 0) p2) 16 (Int32.toNatClampNeg 1) ((wr M 16 (Int32.toNatClampNeg 0) p2) 3 (Int32.toNatClampNeg p1))) 16 (Int32.toNatClampNeg 2) ((wr (wr M 16 (Int32.toNatClampNeg 0) p2) 16 (Int32.toNatClampNeg 1) ((wr M 16 (Int32.toNatClampNeg 0) p2) 3 (Int32.toNatClampNeg p1))) 4 (Int32.toNatClampNeg p1))) 16 (Int32.toNatClampNeg 3) p3) 16 (Int32.toNatClampNeg 4) p1) 2 (Int32.toNatClampNeg p1)) ((wr (wr (wr (wr (wr M 16 (Int32.toNatClampNeg 0) p2) 16 (Int32.toNatClampNeg 1) ((wr M 16 (Int32.toNatClampNeg 0) p2) 3 (Int32.toNatClampNeg p1))) 16 (Int32.toNatClampNeg 2) ((wr (wr M 16 (Int32.toNatClampNeg 0) p2) 16 (Int32.toNatClampNeg 1) ((wr M 16 (Int32.toNatClampNeg 0) p2) 3 (Int32.toNatClampNeg p1))) 4 (Int32.toNatClampNeg p1))) 16 (Int32.toNatClampNeg 3) p3) 16 (Int32.toNatClampNeg 4) p1) 4 (Int32.toNatClampNeg p1)) r23 hq24) (mw_kV hC q_506 q_507 q_508 q_110 q_509 ⟨rfl, rfl⟩ kV_X6_weigh ⟨Nat.le_of_ble_eq_true rfl, Nat.le_of_ble_eq_true rfl⟩) (Nat.le_of_ble_eq_true rfl) (eC_8 V) rfl rfl rfl (Nat.le_of_ble_eq_true rfl) hl.1 dX11_powerAt_89 (fun H locs hM _ => ?_)
    refine lv_iload_n hC.1 hC.2.1 dX11_powerAt_92 rfl (lv_at hl 4 rfl) ?_
    refine mw_cOi (As := [.int r23, .int p2]) (rest := []) hC hM (mcX7_powerOf_q53 V l (wr (wr (wr (wr (wr M 16 (Int32.toNatClampNeg 0) p2) 16 (Int32.toNatClampNeg 1) ((wr M 16 (Int32.toNatClampNeg 0) p2) 3 (Int32.toNatClampNeg p1))) 16 (Int32.toNatClampNeg 2) ((wr (wr M 16 (Int32.toNatClampNeg 0) p2) 16 (Int32.toNatClampNeg 1) ((wr M 16 (Int32.toNatClampNeg 0) p2) 3 (Int32.toNatClampNeg p1))) 4 (Int32.toNatClampNeg p1))) 16 (Int32.toNatClampNeg 3) p3) 16 (Int32.toNatClampNeg 4) p1) r23 p2 _ rfl) (mw_kO (owner := RX9) hC q_520 q_523 q_521 q_531 q_532 q_115 q_533 q_539 ⟨rfl, rfl⟩ kO_X9_powerOf ⟨Nat.le_of_ble_eq_true rfl, Nat.le_of_ble_eq_true rfl⟩) (Nat.le_of_ble_eq_true rfl) (eC_53 V) rfl rfl rfl (Nat.le_of_ble_eq_true rfl) hl.1 dX11_powerAt_93 (fun H locs hM _ => ?_)
    exact hret (o_r1 hf) (o_r2 hf hM) dX11_powerAt_96
  have hf := o_f hc25 hf
  by_cases hc29 : ((wr (wr (wr (wr (wr M 16 (Int32.toNatClampNeg 0) p2) 16 (Int32.toNatClampNeg 1) ((wr M 16 (Int32.toNatClampNeg 0) p2) 3 (Int32.toNatClampNeg p1))) 16 (Int32.toNatClampNeg 2) ((wr (wr M 16 (Int32.toNatClampNeg 0) p2) 16 (Int32.toNatClampNeg 1) ((wr M 16 (Int32.toNatClampNeg 0) p2) 3 (Int32.toNatClampNeg p1))) 4 (Int32.toNatClampNeg p1))) 16 (Int32.toNatClampNeg 3) p3) 16 (Int32.toNatClampNeg 4) p1) 2 (Int32.toNatClampNeg p1)) = 4
  · have hf := o_t hc29 hf
    refine W.eq (g2 := F0 m 71 ls (.ref (mvA V 54) :: [])) (by rw [hc29]; rfl) ?_
    refine lv_aload_n hC.1 hC.2.1 dX11_powerAt_71 rfl (lv_at hl 2 rfl) ?_
    refine mw_get (v := .ref (mvA V 1)) hC hM 0 (Nat.le_of_ble_eq_true rfl) (eC_0 V) inW11 rfl 0 (by decide) q_424 (fun _ h9 => h9) rfl dX11_powerAt_72 ?_
    refine mw_get (v := .ref (mvA V 8)) hC hM 1 (Nat.le_of_ble_eq_true rfl) (eC_1 V) inW4 rfl 14 (by decide) q_235 (fun _ h9 => h9) rfl dX11_powerAt_75 ?_
    refine lv_iload hC.1 hC.2.1 dX11_powerAt_78 (lv_at hl 0 rfl) ?_
    refine lv_aload_n hC.1 hC.2.1 dX11_powerAt_80 rfl (lv_at hl 2 rfl) ?_
    refine mw_get (v := .ref (mvA V 1)) hC hM 0 (Nat.le_of_ble_eq_true rfl) (eC_0 V) inW11 rfl 0 (by decide) q_424 (fun _ h9 => h9) rfl dX11_powerAt_81 ?_
    refine mw_get (v := .ref (mvA V 4)) hC hM 1 (Nat.le_of_ble_eq_true rfl) (eC_1 V) inW4 rfl 3 (by decide) q_213 (fun _ h9 => h9) rfl dX11_powerAt_84 ?_
    refine lv_iload_n hC.1 hC.2.1 dX11_powerAt_87 rfl (lv_at hl 3 rfl) ?_
    obtain ⟨hg26, hf⟩ := o_g hf
    refine mw_iald hC hM 4 0 (Nat.le_of_ble_eq_true rfl) (eC_4 V) rfl hg26 dX11_powerAt_88 ?_
    obtain ⟨r27, hq28, hf⟩ := o_b hf
    refine mw_cVi (As := [.int ((wr (wr (wr (wr (wr M 16 (Int32.toNatClampNeg 0) p2) 16 (Int32.toNatClampNeg 1) ((wr M 16 (Int32.toNatClampNeg 0) p2) 3 (Int32.toNatClampNeg p1))) 16 (Int32.toNatClampNeg 2) ((wr (wr M 16 (Int32.toNatClampNeg 0) p2) 16 (Int32.toNatClampNeg 1) ((wr M 16 (Int32.toNatClampNeg 0) p2) 3 (Int32.toNatClampNeg p1))) 4 (Int32.toNatClampNeg p1))) 16 (Int32.toNatClampNeg 3) p3) 16 (Int32.toNatClampNeg 4) p1) 2 (Int32.toNatClampNeg p1)), .int ((wr (wr (wr (wr (wr M 16 (Int32.toNatClampNeg 0) p2) 16 (Int32.toNatClampNeg 1) ((wr M 16 (Int32.toNatClampNeg 0) p2) 3 (Int32.toNatClampNeg p1))) 16 (Int32.toNatClampNeg 2) ((wr (wr M 16 (Int32.toNatClampNeg 0) p2) 16 (Int32.toNatClampNeg 1) ((wr M 16 (Int32.toNatClampNeg 0) p2) 3 (Int32.toNatClampNeg p1))) 4 (Int32.toNatClampNeg p1))) 16 (Int32.toNatClampNeg 3) p3) 16 (Int32.toNatClampNeg 4) p1) 4 (Int32.toNatClampNeg p1))]) (rest := [.ref (mvA V 54)]) hC hM (mcX6_weigh_q8 V l (wr (wr (wr (wr (wr M 16 (Int32.toNatClampNeg 0) p2) 16 (Int32.toNatClampNeg 1) ((wr M 16 (Int32.toNatClampNeg 0) p2) 3 (Int32.toNatClampNeg p1))) 16 (Int32.toNatClampNeg 2) ((wr (wr M 16 (Int32.toNatClampNeg 0) p2) 16 (Int32.toNatClampNeg 1) ((wr M 16 (Int32.toNatClampNeg 0) p2) 3 (Int32.toNatClampNeg p1))) 4 (Int32.toNatClampNeg p1))) 16 (Int32.toNatClampNeg 3) p3) 16 (Int32.toNatClampNeg 4) p1) ((wr (wr (wr (wr (wr M 16 (Int32.toNatClampNeg 0) p2) 16 (Int32.toNatClampNeg 1) ((wr M 16 (Int32.toNatClampNeg 0) p2) 3 (Int32.toNatClampNeg p1))) 16 (Int32.toNatClampNeg 2) ((wr (wr M 16 (Int32.toNatClampNeg 0) p2) 16 (Int32.toNatClampNeg 1) ((wr M 16 (Int32.toNatClampNeg 0) p2) 3 (Int32.toNatClampNeg p1))) 4 (Int32.toNatClampNeg p1))) 16 (Int32.toNatClampNeg 3) p3) 16 (Int32.toNatClampNeg 4) p1) 2 (Int32.toNatClampNeg p1)) ((wr (wr (wr (wr (wr M 16 (Int32.toNatClampNeg 0) p2) 16 (Int32.toNatClampNeg 1) ((wr M 16 (Int32.toNatClampNeg 0) p2) 3 (Int32.toNatClampNeg p1))) 16 (Int32.toNatClampNeg 2) ((wr (wr M 16 (Int32.toNatClampNeg 0) p2) 16 (Int32.toNatClampNeg 1) ((wr M 16 (Int32.toNatClampNeg 0) p2) 3 (Int32.toNatClampNeg p1))) 4 (Int32.toNatClampNeg p1))) 16 (Int32.toNatClampNeg 3) p3) 16 (Int32.toNatClampNeg 4) p1) 4 (Int32.toNatClampNeg p1)) r27 hq28) (mw_kV hC q_506 q_507 q_508 q_110 q_509 ⟨rfl, rfl⟩ kV_X6_weigh ⟨Nat.le_of_ble_eq_true rfl, Nat.le_of_ble_eq_true rfl⟩) (Nat.le_of_ble_eq_true rfl) (eC_8 V) rfl rfl rfl (Nat.le_of_ble_eq_true rfl) hl.1 dX11_powerAt_89 (fun H locs hM _ => ?_)
    refine lv_iload_n hC.1 hC.2.1 dX11_powerAt_92 rfl (lv_at hl 4 rfl) ?_
    refine mw_cOi (As := [.int r27, .int p2]) (rest := []) hC hM (mcX0_powerOf_q54 V l (wr (wr (wr (wr (wr M 16 (Int32.toNatClampNeg 0) p2) 16 (Int32.toNatClampNeg 1) ((wr M 16 (Int32.toNatClampNeg 0) p2) 3 (Int32.toNatClampNeg p1))) 16 (Int32.toNatClampNeg 2) ((wr (wr M 16 (Int32.toNatClampNeg 0) p2) 16 (Int32.toNatClampNeg 1) ((wr M 16 (Int32.toNatClampNeg 0) p2) 3 (Int32.toNatClampNeg p1))) 4 (Int32.toNatClampNeg p1))) 16 (Int32.toNatClampNeg 3) p3) 16 (Int32.toNatClampNeg 4) p1) r27 p2 _ rfl) (mw_kO (owner := RX9) hC q_520 q_523 q_521 q_524 q_525 q_116 q_526 q_539 ⟨rfl, rfl⟩ kO_X9_powerOf ⟨Nat.le_of_ble_eq_true rfl, Nat.le_of_ble_eq_true rfl⟩) (Nat.le_of_ble_eq_true rfl) (eC_54 V) rfl rfl rfl (Nat.le_of_ble_eq_true rfl) hl.1 dX11_powerAt_93 (fun H locs hM _ => ?_)
    exact hret (o_r1 hf) (o_r2 hf hM) dX11_powerAt_96
  have hf := o_f hc29 hf
  have hc33 := th_last hg9 hc13 hc17 hc21 hc25 hc29
  refine W.eq (g2 := F0 m 71 ls (.ref (mvA V 55) :: [])) (by rw [hc33]; rfl) ?_
  refine lv_aload_n hC.1 hC.2.1 dX11_powerAt_71 rfl (lv_at hl 2 rfl) ?_
  refine mw_get (v := .ref (mvA V 1)) hC hM 0 (Nat.le_of_ble_eq_true rfl) (eC_0 V) inW11 rfl 0 (by decide) q_424 (fun _ h9 => h9) rfl dX11_powerAt_72 ?_
  refine mw_get (v := .ref (mvA V 8)) hC hM 1 (Nat.le_of_ble_eq_true rfl) (eC_1 V) inW4 rfl 14 (by decide) q_235 (fun _ h9 => h9) rfl dX11_powerAt_75 ?_
  refine lv_iload hC.1 hC.2.1 dX11_powerAt_78 (lv_at hl 0 rfl) ?_
  refine lv_aload_n hC.1 hC.2.1 dX11_powerAt_80 rfl (lv_at hl 2 rfl) ?_
  refine mw_get (v := .ref (mvA V 1)) hC hM 0 (Nat.le_of_ble_eq_true rfl) (eC_0 V) inW11 rfl 0 (by decide) q_424 (fun _ h9 => h9) rfl dX11_powerAt_81 ?_
  refine mw_get (v := .ref (mvA V 4)) hC hM 1 (Nat.le_of_ble_eq_true rfl) (eC_1 V) inW4 rfl 3 (by decide) q_213 (fun _ h9 => h9) rfl dX11_powerAt_84 ?_
  refine lv_iload_n hC.1 hC.2.1 dX11_powerAt_87 rfl (lv_at hl 3 rfl) ?_
  obtain ⟨hg30, hf⟩ := o_g hf
  refine mw_iald hC hM 4 0 (Nat.le_of_ble_eq_true rfl) (eC_4 V) rfl hg30 dX11_powerAt_88 ?_
  obtain ⟨r31, hq32, hf⟩ := o_b hf
  refine mw_cVi (As := [.int ((wr (wr (wr (wr (wr M 16 (Int32.toNatClampNeg 0) p2) 16 (Int32.toNatClampNeg 1) ((wr M 16 (Int32.toNatClampNeg 0) p2) 3 (Int32.toNatClampNeg p1))) 16 (Int32.toNatClampNeg 2) ((wr (wr M 16 (Int32.toNatClampNeg 0) p2) 16 (Int32.toNatClampNeg 1) ((wr M 16 (Int32.toNatClampNeg 0) p2) 3 (Int32.toNatClampNeg p1))) 4 (Int32.toNatClampNeg p1))) 16 (Int32.toNatClampNeg 3) p3) 16 (Int32.toNatClampNeg 4) p1) 2 (Int32.toNatClampNeg p1)), .int ((wr (wr (wr (wr (wr M 16 (Int32.toNatClampNeg 0) p2) 16 (Int32.toNatClampNeg 1) ((wr M 16 (Int32.toNatClampNeg 0) p2) 3 (Int32.toNatClampNeg p1))) 16 (Int32.toNatClampNeg 2) ((wr (wr M 16 (Int32.toNatClampNeg 0) p2) 16 (Int32.toNatClampNeg 1) ((wr M 16 (Int32.toNatClampNeg 0) p2) 3 (Int32.toNatClampNeg p1))) 4 (Int32.toNatClampNeg p1))) 16 (Int32.toNatClampNeg 3) p3) 16 (Int32.toNatClampNeg 4) p1) 4 (Int32.toNatClampNeg p1))]) (rest := [.ref (mvA V 55)]) hC hM (mcX6_weigh_q8 V l (wr (wr (wr (wr (wr M 16 (Int32.toNatClampNeg 0) p2) 16 (Int32.toNatClampNeg 1) ((wr M 16 (Int32.toNatClampNeg 0) p2) 3 (Int32.toNatClampNeg p1))) 16 (Int32.toNatClampNeg 2) ((wr (wr M 16 (Int32.toNatClampNeg 0) p2) 16 (Int32.toNatClampNeg 1) ((wr M 16 (Int32.toNatClampNeg 0) p2) 3 (Int32.toNatClampNeg p1))) 4 (Int32.toNatClampNeg p1))) 16 (Int32.toNatClampNeg 3) p3) 16 (Int32.toNatClampNeg 4) p1) ((wr (wr (wr (wr (wr M 16 (Int32.toNatClampNeg 0) p2) 16 (Int32.toNatClampNeg 1) ((wr M 16 (Int32.toNatClampNeg 0) p2) 3 (Int32.toNatClampNeg p1))) 16 (Int32.toNatClampNeg 2) ((wr (wr M 16 (Int32.toNatClampNeg 0) p2) 16 (Int32.toNatClampNeg 1) ((wr M 16 (Int32.toNatClampNeg 0) p2) 3 (Int32.toNatClampNeg p1))) 4 (Int32.toNatClampNeg p1))) 16 (Int32.toNatClampNeg 3) p3) 16 (Int32.toNatClampNeg 4) p1) 2 (Int32.toNatClampNeg p1)) ((wr (wr (wr (wr (wr M 16 (Int32.toNatClampNeg 0) p2) 16 (Int32.toNatClampNeg 1) ((wr M 16 (Int32.toNatClampNeg 0) p2) 3 (Int32.toNatClampNeg p1))) 16 (Int32.toNatClampNeg 2) ((wr (wr M 16 (Int32.toNatClampNeg 0) p2) 16 (Int32.toNatClampNeg 1) ((wr M 16 (Int32.toNatClampNeg 0) p2) 3 (Int32.toNatClampNeg p1))) 4 (Int32.toNatClampNeg p1))) 16 (Int32.toNatClampNeg 3) p3) 16 (Int32.toNatClampNeg 4) p1) 4 (Int32.toNatClampNeg p1)) r31 hq32) (mw_kV hC q_506 q_507 q_508 q_110 q_509 ⟨rfl, rfl⟩ kV_X6_weigh ⟨Nat.le_of_ble_eq_true rfl, Nat.le_of_ble_eq_true rfl⟩) (Nat.le_of_ble_eq_true rfl) (eC_8 V) rfl rfl rfl (Nat.le_of_ble_eq_true rfl) hl.1 dX11_powerAt_89 (fun H locs hM _ => ?_)
  refine lv_iload_n hC.1 hC.2.1 dX11_powerAt_92 rfl (lv_at hl 4 rfl) ?_
  refine mw_cOi (As := [.int r31, .int p2]) (rest := []) hC hM (mcX8_powerOf_q55 V l (wr (wr (wr (wr (wr M 16 (Int32.toNatClampNeg 0) p2) 16 (Int32.toNatClampNeg 1) ((wr M 16 (Int32.toNatClampNeg 0) p2) 3 (Int32.toNatClampNeg p1))) 16 (Int32.toNatClampNeg 2) ((wr (wr M 16 (Int32.toNatClampNeg 0) p2) 16 (Int32.toNatClampNeg 1) ((wr M 16 (Int32.toNatClampNeg 0) p2) 3 (Int32.toNatClampNeg p1))) 4 (Int32.toNatClampNeg p1))) 16 (Int32.toNatClampNeg 3) p3) 16 (Int32.toNatClampNeg 4) p1) r31 p2 _ rfl) (mw_kO (owner := RX9) hC q_520 q_523 q_521 q_535 q_536 q_117 q_537 q_539 ⟨rfl, rfl⟩ kO_X9_powerOf ⟨Nat.le_of_ble_eq_true rfl, Nat.le_of_ble_eq_true rfl⟩) (Nat.le_of_ble_eq_true rfl) (eC_55 V) rfl rfl rfl (Nat.le_of_ble_eq_true rfl) hl.1 dX11_powerAt_93 (fun H locs hM _ => ?_)
  exact hret (o_r1 hf) (o_r2 hf hM) dX11_powerAt_96
set_option maxHeartbeats 4000000 in
set_option maxRecDepth 100000 in
theorem mcX11_voterOf (V : mV) (l : Launch) (M : mM) (p1 : Int32) (p2 : Int32) (r : Int32) (M' : mM) (hf : fX11_voterOf M p1 p2 = some (r, M')) : IC V l yX11_voterOf cX11_voterOf 3 ({ frames := 3, cells := 0, slots := 0, locals := 78 } : Room) [.ref (mvA V 0), .int p1, .int p2] M r M' := by
  unfold fX11_voterOf at hf
  refine mw_enterI RX11 rfl (by decide +kernel) (Nat.le_of_ble_eq_true rfl) (fun {p e s m args below meth c} ls A Q hC hret hM hl => ?_)
  have hl : lv_has ls 3 [(0, .ref (mvA V 0)), (1, .int p1), (2, .int p2)] := hl
  refine lv_aload_n hC.1 hC.2.1 dX11_voterOf_0 rfl (lv_at hl 0 rfl) ?_
  refine lv_iload_n hC.1 hC.2.1 dX11_voterOf_1 rfl (lv_at hl 1 rfl) ?_
  refine mw_cVi (As := [.int p1]) (rest := []) hC hM (mcX11_isVoter V l M p1 _ rfl) (mw_kV hC q_481 q_483 q_1 q_107 q_484 ⟨rfl, rfl⟩ kV_X11_isVoter ⟨Nat.le_of_ble_eq_true rfl, Nat.le_of_ble_eq_true rfl⟩) (Nat.le_of_ble_eq_true rfl) (eC_0 V) rfl rfl rfl (Nat.le_of_ble_eq_true rfl) hl.1 dX11_voterOf_2 (fun H locs hM hb1 => ?_)
  refine lv_if_ne (tgt := 10) hC.1 hC.2.1 dX11_voterOf_5 (by decide) (fun hc20 => ?_) (fun hc20 => ?_)
  · have hf := o_f hc20 hf
    refine lv_iload_n hC.1 hC.2.1 dX11_voterOf_10 rfl (lv_at hl 2 rfl) ?_
    by_cases hc3 : p2 = 0
    · have hf := o_t hc3 hf
      refine lv_tableIn (off := 41) (tgt := 52) hC.1 hC.2.1 dX11_voterOf_11 (by rw [hc3]; decide) (by rw [hc3]; decide) (by rw [hc3]; rfl) (by decide) ?_
      refine lv_aload_n hC.1 hC.2.1 dX11_voterOf_52 rfl (lv_at hl 0 rfl) ?_
      refine mw_get (v := .ref (mvA V 1)) hC hM 0 (Nat.le_of_ble_eq_true rfl) (eC_0 V) inW11 rfl 0 (by decide) q_424 (fun _ h9 => h9) rfl dX11_voterOf_53 ?_
      refine mw_get (v := .ref (mvA V 2)) hC hM 1 (Nat.le_of_ble_eq_true rfl) (eC_1 V) inW4 rfl 1 (by decide) q_209 (fun _ h9 => h9) rfl dX11_voterOf_56 ?_
      refine lv_iload_n hC.1 hC.2.1 dX11_voterOf_59 rfl (lv_at hl 1 rfl) ?_
      obtain ⟨hg2, hf⟩ := o_g hf
      refine mw_iald hC hM 2 0 (Nat.le_of_ble_eq_true rfl) (eC_2 V) rfl hg2 dX11_voterOf_60 ?_
      exact hret (o_r1 hf) (o_r2 hf hM) dX11_voterOf_61
    have hf := o_f hc3 hf
    by_cases hc5 : p2 = 1
    · have hf := o_t hc5 hf
      refine lv_tableIn (off := 51) (tgt := 62) hC.1 hC.2.1 dX11_voterOf_11 (by rw [hc5]; decide) (by rw [hc5]; decide) (by rw [hc5]; rfl) (by decide) ?_
      refine lv_aload_n hC.1 hC.2.1 dX11_voterOf_62 rfl (lv_at hl 0 rfl) ?_
      refine mw_get (v := .ref (mvA V 1)) hC hM 0 (Nat.le_of_ble_eq_true rfl) (eC_0 V) inW11 rfl 0 (by decide) q_424 (fun _ h9 => h9) rfl dX11_voterOf_63 ?_
      refine mw_get (v := .ref (mvA V 3)) hC hM 1 (Nat.le_of_ble_eq_true rfl) (eC_1 V) inW4 rfl 2 (by decide) q_211 (fun _ h9 => h9) rfl dX11_voterOf_66 ?_
      refine lv_iload_n hC.1 hC.2.1 dX11_voterOf_69 rfl (lv_at hl 1 rfl) ?_
      obtain ⟨hg4, hf⟩ := o_g hf
      refine mw_iald hC hM 3 0 (Nat.le_of_ble_eq_true rfl) (eC_3 V) rfl hg4 dX11_voterOf_70 ?_
      exact hret (o_r1 hf) (o_r2 hf hM) dX11_voterOf_71
    have hf := o_f hc5 hf
    by_cases hc7 : p2 = 2
    · have hf := o_t hc7 hf
      refine lv_tableIn (off := 61) (tgt := 72) hC.1 hC.2.1 dX11_voterOf_11 (by rw [hc7]; decide) (by rw [hc7]; decide) (by rw [hc7]; rfl) (by decide) ?_
      refine lv_aload_n hC.1 hC.2.1 dX11_voterOf_72 rfl (lv_at hl 0 rfl) ?_
      refine mw_get (v := .ref (mvA V 1)) hC hM 0 (Nat.le_of_ble_eq_true rfl) (eC_0 V) inW11 rfl 0 (by decide) q_424 (fun _ h9 => h9) rfl dX11_voterOf_73 ?_
      refine mw_get (v := .ref (mvA V 4)) hC hM 1 (Nat.le_of_ble_eq_true rfl) (eC_1 V) inW4 rfl 3 (by decide) q_213 (fun _ h9 => h9) rfl dX11_voterOf_76 ?_
      refine lv_iload_n hC.1 hC.2.1 dX11_voterOf_79 rfl (lv_at hl 1 rfl) ?_
      obtain ⟨hg6, hf⟩ := o_g hf
      refine mw_iald hC hM 4 0 (Nat.le_of_ble_eq_true rfl) (eC_4 V) rfl hg6 dX11_voterOf_80 ?_
      exact hret (o_r1 hf) (o_r2 hf hM) dX11_voterOf_81
    have hf := o_f hc7 hf
    by_cases hc9 : p2 = 3
    · have hf := o_t hc9 hf
      refine lv_tableIn (off := 71) (tgt := 82) hC.1 hC.2.1 dX11_voterOf_11 (by rw [hc9]; decide) (by rw [hc9]; decide) (by rw [hc9]; rfl) (by decide) ?_
      refine lv_aload_n hC.1 hC.2.1 dX11_voterOf_82 rfl (lv_at hl 0 rfl) ?_
      refine mw_get (v := .ref (mvA V 1)) hC hM 0 (Nat.le_of_ble_eq_true rfl) (eC_0 V) inW11 rfl 0 (by decide) q_424 (fun _ h9 => h9) rfl dX11_voterOf_83 ?_
      refine mw_get (v := .ref (mvA V 5)) hC hM 1 (Nat.le_of_ble_eq_true rfl) (eC_1 V) inW4 rfl 4 (by decide) q_215 (fun _ h9 => h9) rfl dX11_voterOf_86 ?_
      refine lv_iload_n hC.1 hC.2.1 dX11_voterOf_89 rfl (lv_at hl 1 rfl) ?_
      obtain ⟨hg8, hf⟩ := o_g hf
      refine mw_iald hC hM 5 0 (Nat.le_of_ble_eq_true rfl) (eC_5 V) rfl hg8 dX11_voterOf_90 ?_
      exact hret (o_r1 hf) (o_r2 hf hM) dX11_voterOf_91
    have hf := o_f hc9 hf
    by_cases hc12 : p2 = 4
    · have hf := o_t hc12 hf
      refine lv_tableIn (off := 81) (tgt := 92) hC.1 hC.2.1 dX11_voterOf_11 (by rw [hc12]; decide) (by rw [hc12]; decide) (by rw [hc12]; rfl) (by decide) ?_
      refine lv_aload_n hC.1 hC.2.1 dX11_voterOf_92 rfl (lv_at hl 0 rfl) ?_
      refine lv_iload_n hC.1 hC.2.1 dX11_voterOf_93 rfl (lv_at hl 1 rfl) ?_
      refine mw_cVi (As := [.int p1]) (rest := []) hC hM (mcX11_isAwake V l M p1 _ rfl) (mw_kV hC q_485 q_487 q_2 q_107 q_488 ⟨rfl, rfl⟩ kV_X11_isAwake ⟨Nat.le_of_ble_eq_true rfl, Nat.le_of_ble_eq_true rfl⟩) (Nat.le_of_ble_eq_true rfl) (eC_0 V) rfl rfl rfl (Nat.le_of_ble_eq_true rfl) hl.1 dX11_voterOf_94 (fun H locs hM hb10 => ?_)
      refine lv_if_eq (tgt := 104) hC.1 hC.2.1 dX11_voterOf_97 (by decide) (fun hc11 => ?_) (fun hc11 => ?_)
      · have hf := o_t hc11 hf
        refine lv_iconst hC.1 hC.2.1 dX11_voterOf_104 ci_0 ?_
        exact hret (o_r1 hf) (o_r2 hf hM) dX11_voterOf_105
      · have hf := o_f hc11 hf
        refine lv_iconst hC.1 hC.2.1 dX11_voterOf_100 ci_1 ?_
        refine lv_goto (tgt := 105) hC.1 hC.2.1 dX11_voterOf_101 (by decide) ?_
        exact hret (o_r1 hf) (o_r2 hf hM) dX11_voterOf_105
    have hf := o_f hc12 hf
    by_cases hc15 : p2 = 5
    · have hf := o_t hc15 hf
      refine lv_tableIn (off := 95) (tgt := 106) hC.1 hC.2.1 dX11_voterOf_11 (by rw [hc15]; decide) (by rw [hc15]; decide) (by rw [hc15]; rfl) (by decide) ?_
      refine lv_aload_n hC.1 hC.2.1 dX11_voterOf_106 rfl (lv_at hl 0 rfl) ?_
      refine lv_iload_n hC.1 hC.2.1 dX11_voterOf_107 rfl (lv_at hl 1 rfl) ?_
      refine lv_aload_n hC.1 hC.2.1 dX11_voterOf_108 rfl (lv_at hl 0 rfl) ?_
      refine mw_get (v := .ref (mvA V 1)) hC hM 0 (Nat.le_of_ble_eq_true rfl) (eC_0 V) inW11 rfl 0 (by decide) q_424 (fun _ h9 => h9) rfl dX11_voterOf_109 ?_
      refine mw_get (v := .int (M 1 6)) hC hM 1 (Nat.le_of_ble_eq_true rfl) (eC_1 V) inW4 rfl 6 (by decide) q_219 (fun _ h9 => h9) rfl dX11_voterOf_112 ?_
      obtain ⟨r13, hq14, hf⟩ := o_b hf
      refine mw_cVi (As := [.int p1, .int (M 1 6)]) (rest := []) hC hM (mcX11_voteAt V l M p1 (M 1 6) r13 hq14) (mw_kV hC q_489 q_491 q_3 q_107 q_492 ⟨rfl, rfl⟩ kV_X11_voteAt ⟨Nat.le_of_ble_eq_true rfl, Nat.le_of_ble_eq_true rfl⟩) (Nat.le_of_ble_eq_true rfl) (eC_0 V) rfl rfl rfl (Nat.le_of_ble_eq_true rfl) hl.1 dX11_voterOf_115 (fun H locs hM _ => ?_)
      refine lv_iconst hC.1 hC.2.1 dX11_voterOf_118 ci_1 ?_
      refine lv_iadd hC.1 hC.2.1 dX11_voterOf_119 ?_
      exact hret (o_r1 hf) (o_r2 hf hM) dX11_voterOf_120
    have hf := o_f hc15 hf
    by_cases hc19 : p2 = 6
    · have hf := o_t hc19 hf
      refine lv_tableIn (off := 110) (tgt := 121) hC.1 hC.2.1 dX11_voterOf_11 (by rw [hc19]; decide) (by rw [hc19]; decide) (by rw [hc19]; rfl) (by decide) ?_
      refine lv_aload_n hC.1 hC.2.1 dX11_voterOf_121 rfl (lv_at hl 0 rfl) ?_
      refine lv_iload_n hC.1 hC.2.1 dX11_voterOf_122 rfl (lv_at hl 1 rfl) ?_
      refine lv_aload_n hC.1 hC.2.1 dX11_voterOf_123 rfl (lv_at hl 0 rfl) ?_
      refine mw_get (v := .ref (mvA V 1)) hC hM 0 (Nat.le_of_ble_eq_true rfl) (eC_0 V) inW11 rfl 0 (by decide) q_424 (fun _ h9 => h9) rfl dX11_voterOf_124 ?_
      refine mw_get (v := .int (M 1 6)) hC hM 1 (Nat.le_of_ble_eq_true rfl) (eC_1 V) inW4 rfl 6 (by decide) q_219 (fun _ h9 => h9) rfl dX11_voterOf_127 ?_
      refine lv_aload_n hC.1 hC.2.1 dX11_voterOf_130 rfl (lv_at hl 0 rfl) ?_
      refine mw_get (v := .ref (mvA V 1)) hC hM 0 (Nat.le_of_ble_eq_true rfl) (eC_0 V) inW11 rfl 0 (by decide) q_424 (fun _ h9 => h9) rfl dX11_voterOf_131 ?_
      refine mw_get (v := .int (M 1 5)) hC hM 1 (Nat.le_of_ble_eq_true rfl) (eC_1 V) inW4 rfl 5 (by decide) q_216 (fun _ h9 => h9) rfl dX11_voterOf_134 ?_
      refine mw_cSi (As := [.int (M 1 5)]) (rest := [.int (M 1 6), .int p1, .ref (mvA V 0)]) hC hM (mcJ6_bitCount_0f7a4C V l M (M 1 5) _ rfl) (mw_kS hC q_496 q_497 q_122 q_498 ⟨rfl, rfl⟩ kS_J6_bitCount_0f7a4 ⟨Nat.le_of_ble_eq_true rfl, Nat.le_of_ble_eq_true rfl⟩) rfl rfl (Nat.le_of_ble_eq_true rfl) hl.1 dX11_voterOf_137 (fun H locs hM _ => ?_)
      obtain ⟨r16, M18, hq17, hf⟩ := o_b2 hf
      refine mw_cVi (As := [.int p1, .int (M 1 6), .int (fJ6_bitCount_0f7a4C (M 1 5))]) (rest := []) hC hM (mcX11_powerAt V l M p1 (M 1 6) (fJ6_bitCount_0f7a4C (M 1 5)) r16 M18 hq17) (mw_kV hC q_502 q_504 q_4 q_107 q_505 ⟨rfl, rfl⟩ kV_X11_powerAt ⟨Nat.le_of_ble_eq_true rfl, Nat.le_of_ble_eq_true rfl⟩) (Nat.le_of_ble_eq_true rfl) (eC_0 V) rfl rfl rfl (Nat.le_of_ble_eq_true rfl) hl.1 dX11_voterOf_140 (fun H locs hM _ => ?_)
      exact hret (o_r1 hf) (o_r2 hf hM) dX11_voterOf_143
    have hf := o_f hc19 hf
    have hc3 := sw_ne (k := 0) (v := 0) rfl hc3
    have hc5 := sw_ne (k := 1) (v := 1) rfl hc5
    have hc7 := sw_ne (k := 2) (v := 2) rfl hc7
    have hc9 := sw_ne (k := 3) (v := 3) rfl hc9
    have hc12 := sw_ne (k := 4) (v := 4) rfl hc12
    have hc15 := sw_ne (k := 5) (v := 5) rfl hc15
    have hc19 := sw_ne (k := 6) (v := 6) rfl hc19
    refine lv_tableOut (tgt := 144) hC.1 hC.2.1 dX11_voterOf_11 (by omega) (by decide) ?_
    refine lv_iconst hC.1 hC.2.1 dX11_voterOf_144 ci_m1 ?_
    exact hret (o_r1 hf) (o_r2 hf hM) dX11_voterOf_145
  · have hf := o_t hc20 hf
    refine lv_iconst hC.1 hC.2.1 dX11_voterOf_8 ci_m1 ?_
    exact hret (o_r1 hf) (o_r2 hf hM) dX11_voterOf_9
