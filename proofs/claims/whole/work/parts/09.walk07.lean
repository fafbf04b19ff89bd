set_option maxHeartbeats 4000000 in
set_option maxRecDepth 100000 in
theorem mcX1_sways_q52 (V : mV) (l : Launch) (M : mM) (p1 : Int32) (r : Int32) (M' : mM) (hf : fX1_sways_q52 M p1 = some (r, M')) : IC V l yX1_sways cX1_sways 2 ({ frames := 3, cells := 0, slots := 0, locals := 63 } : Room) [.ref (mvA V 52), .int p1] M r M' := by
  unfold fX1_sways_q52 at hf
  refine mw_enterI RX1 rfl (by decide +kernel) (Nat.le_of_ble_eq_true rfl) (fun {p e s m args below meth c} ls A Q hC hret hM hl => ?_)
  have hl : lv_has ls 2 [(0, .ref (mvA V 52)), (1, .int p1)] := hl
  refine lv_aload_n hC.1 hC.2.1 dX1_sways_0 rfl (lv_at hl 0 rfl) ?_
  refine mw_get (v := .ref (mvA V 47)) hC hM 52 (Nat.le_of_ble_eq_true rfl) (eC_52 V) inW1 rfl 0 (by decide) q_314 (fun z h9 => u_same (mw_w hC q_315) z h9) rfl dX1_sways_1 ?_
  refine lv_bipush hC.1 hC.2.1 dX1_sways_4 cb_30 ?_
  obtain ⟨r1, M3, hq2, hf⟩ := o_b2 hf
  refine mw_cVv (As := [.int 30]) (rest := []) hC hM (mcX10_begins V l M 30 r1 M3 hq2) (mw_kV hC q_1065 q_1043 q_1044 q_108 q_1045 ⟨rfl, rfl⟩ kV_X10_begins ⟨Nat.le_of_ble_eq_true rfl, Nat.le_of_ble_eq_true rfl⟩) (Nat.le_of_ble_eq_true rfl) (eC_47 V) rfl rfl rfl (Nat.le_of_ble_eq_true rfl) hl.1 dX1_sways_6 (fun H locs hM => ?_)
  refine lv_aload_n hC.1 hC.2.1 dX1_sways_9 rfl (lv_at hl 0 rfl) ?_
  refine lv_iload_n hC.1 hC.2.1 dX1_sways_10 rfl (lv_at hl 1 rfl) ?_
  obtain ⟨r4, M6, hq5, hf⟩ := o_b2 hf
  refine mw_cUi (As := [.int p1]) (rest := []) hC hM (mcX9_sways_q52 V l M3 p1 r4 M6 hq5) (mw_kU hC q_1066 q_1060 q_356 q_1058 q_112 q_1076 ⟨rfl, rfl⟩ kU_X9_sways ⟨Nat.le_of_ble_eq_true rfl, Nat.le_of_ble_eq_true rfl⟩) (Nat.le_of_ble_eq_true rfl) (eC_52 V) rfl rfl rfl (Nat.le_of_ble_eq_true rfl) hl.1 dX1_sways_11 (fun H locs hM _ => ?_)
  refine lv_aload_n hC.1 hC.2.1 dX1_sways_14 rfl (lv_at hl 0 rfl) ?_
  refine mw_get (v := .int (M6 52 1)) hC hM 52 (Nat.le_of_ble_eq_true rfl) (eC_52 V) inW1 rfl 1 (by decide) q_320 (fun z h9 => u_same (mw_w hC q_321) z h9) rfl dX1_sways_15 ?_
  refine lv_ixor hC.1 hC.2.1 dX1_sways_18 ?_
  exact hret (o_r1 hf) (o_r2 hf hM) dX1_sways_19
set_option maxHeartbeats 4000000 in
set_option maxRecDepth 100000 in
theorem mcX9_tells_q52 (V : mV) (l : Launch) (M : mM) (p1 : Int32) (r : Int32) (M' : mM) (hf : fX9_tells_q52 M p1 = some (r, M')) : IC V l yX9_tells cX9_tells 2 ({ frames := 4, cells := 0, slots := 0, locals := 84 } : Room) [.ref (mvA V 52), .int p1] M r M' := by
  unfold fX9_tells_q52 at hf
  refine mw_enterI RX9 rfl (by decide +kernel) (Nat.le_of_ble_eq_true rfl) (fun {p e s m args below meth c} ls A Q hC hret hM hl => ?_)
  have hl : lv_has ls 2 [(0, .ref (mvA V 52)), (1, .int p1)] := hl
  refine lv_aload_n hC.1 hC.2.1 dX9_tells_0 rfl (lv_at hl 0 rfl) ?_
  refine mw_get (v := .ref (mvA V 47)) hC hM 52 (Nat.le_of_ble_eq_true rfl) (eC_52 V) inW1 rfl 0 (by decide) q_309 (fun _ h9 => h9) rfl dX9_tells_1 ?_
  refine lv_bipush hC.1 hC.2.1 dX9_tells_4 cb_13 ?_
  obtain ⟨r1, M3, hq2, hf⟩ := o_b2 hf
  refine mw_cVv (As := [.int 13]) (rest := []) hC hM (mcX10_begins V l M 13 r1 M3 hq2) (mw_kV hC q_1056 q_1043 q_1044 q_108 q_1045 ⟨rfl, rfl⟩ kV_X10_begins ⟨Nat.le_of_ble_eq_true rfl, Nat.le_of_ble_eq_true rfl⟩) (Nat.le_of_ble_eq_true rfl) (eC_47 V) rfl rfl rfl (Nat.le_of_ble_eq_true rfl) hl.1 dX9_tells_6 (fun H locs hM => ?_)
  refine lv_aload_n hC.1 hC.2.1 dX9_tells_9 rfl (lv_at hl 0 rfl) ?_
  refine lv_iload_n hC.1 hC.2.1 dX9_tells_10 rfl (lv_at hl 1 rfl) ?_
  obtain ⟨r4, M6, hq5, hf⟩ := o_b2 hf
  refine mw_cOi (As := [.int p1]) (rest := []) hC hM (mcX1_sways_q52 V l M3 p1 r4 M6 hq5) (mw_kO (owner := RX9) hC q_1117 q_1060 q_1058 q_1062 q_1063 q_114 q_1064 q_1076 ⟨rfl, rfl⟩ kO_X9_sways ⟨Nat.le_of_ble_eq_true rfl, Nat.le_of_ble_eq_true rfl⟩) (Nat.le_of_ble_eq_true rfl) (eC_52 V) rfl rfl rfl (Nat.le_of_ble_eq_true rfl) hl.1 dX9_tells_11 (fun H locs hM _ => ?_)
  refine lv_aload_n hC.1 hC.2.1 dX9_tells_14 rfl (lv_at hl 0 rfl) ?_
  refine mw_get (v := .int (M6 52 2)) hC hM 52 (Nat.le_of_ble_eq_true rfl) (eC_52 V) inW1 rfl 2 (by decide) q_326 (fun _ h9 => h9) rfl dX9_tells_15 ?_
  refine lv_ixor hC.1 hC.2.1 dX9_tells_18 ?_
  exact hret (o_r1 hf) (o_r2 hf hM) dX9_tells_19
set_option maxHeartbeats 4000000 in
set_option maxRecDepth 100000 in
theorem mcX9_shares_q52 (V : mV) (l : Launch) (M : mM) (p1 : Int32) (r : Int32) (M' : mM) (hf : fX9_shares_q52 M p1 = some (r, M')) : IC V l yX9_shares cX9_shares 3 ({ frames := 1, cells := 0, slots := 0, locals := 21 } : Room) [.ref (mvA V 52), .int p1] M r M' := by
  unfold fX9_shares_q52 at hf
  refine mw_enterI RX9 rfl (by decide +kernel) (Nat.le_of_ble_eq_true rfl) (fun {p e s m args below meth c} ls A Q hC hret hM hl => ?_)
  have hl : lv_has ls 3 [(0, .ref (mvA V 52)), (1, .int p1)] := hl
  refine lv_aload_n hC.1 hC.2.1 dX9_shares_0 rfl (lv_at hl 0 rfl) ?_
  refine mw_get (v := .ref (mvA V 47)) hC hM 52 (Nat.le_of_ble_eq_true rfl) (eC_52 V) inW1 rfl 0 (by decide) q_309 (fun _ h9 => h9) rfl dX9_shares_1 ?_
  refine lv_bipush hC.1 hC.2.1 dX9_shares_4 cb_12 ?_
  obtain ⟨r1, M3, hq2, hf⟩ := o_b2 hf
  refine mw_cVv (As := [.int 12]) (rest := []) hC hM (mcX10_begins V l M 12 r1 M3 hq2) (mw_kV hC q_1056 q_1043 q_1044 q_108 q_1045 ⟨rfl, rfl⟩ kV_X10_begins ⟨Nat.le_of_ble_eq_true rfl, Nat.le_of_ble_eq_true rfl⟩) (Nat.le_of_ble_eq_true rfl) (eC_47 V) rfl rfl rfl (Nat.le_of_ble_eq_true rfl) hl.1 dX9_shares_6 (fun H locs hM => ?_)
  refine lv_aload_n hC.1 hC.2.1 dX9_shares_9 rfl (lv_at hl 0 rfl) ?_
  refine mw_get (v := .int (M3 52 2)) hC hM 52 (Nat.le_of_ble_eq_true rfl) (eC_52 V) inW1 rfl 2 (by decide) q_326 (fun _ h9 => h9) rfl dX9_shares_10 ?_
  refine lv_aload_n hC.1 hC.2.1 dX9_shares_13 rfl (lv_at hl 0 rfl) ?_
  refine mw_get (v := .int (M3 52 1)) hC hM 52 (Nat.le_of_ble_eq_true rfl) (eC_52 V) inW1 rfl 1 (by decide) q_322 (fun _ h9 => h9) rfl dX9_shares_14 ?_
  refine lv_isub hC.1 hC.2.1 dX9_shares_17 ?_
  refine lv_istore_n (lv' := [(2, .int ((M3 52 2) - (M3 52 1))), (0, .ref (mvA V 52)), (1, .int p1)]) hC.1 hC.2.1 dX9_shares_18 rfl hl (Nat.le_of_ble_eq_true rfl) rfl (fun ls hl => ?_)
  refine lv_iload_n hC.1 hC.2.1 dX9_shares_19 rfl (lv_at hl 0 rfl) ?_
  refine lv_if_ne (tgt := 33) hC.1 hC.2.1 dX9_shares_20 (by decide) (fun hc5 => ?_) (fun hc5 => ?_)
  · have hf := o_f hc5 hf
    refine lv_iload_n hC.1 hC.2.1 dX9_shares_33 rfl (lv_at hl 2 rfl) ?_
    refine lv_iload_n hC.1 hC.2.1 dX9_shares_34 rfl (lv_at hl 0 rfl) ?_
    obtain ⟨hg4, hf⟩ := o_g hf
    refine lv_idiv hC.1 hC.2.1 dX9_shares_35 (nz_ne hg4) ?_
    exact hret (o_r1 hf) (o_r2 hf hM) dX9_shares_36
  · have hf := o_t hc5 hf
    refine lv_aload_n hC.1 hC.2.1 dX9_shares_23 rfl (lv_at hl 1 rfl) ?_
    refine mw_get (v := .ref (mvA V 47)) hC hM 52 (Nat.le_of_ble_eq_true rfl) (eC_52 V) inW1 rfl 0 (by decide) q_309 (fun _ h9 => h9) rfl dX9_shares_24 ?_
    refine lv_iconst hC.1 hC.2.1 dX9_shares_27 ci_1 ?_
    refine mw_put hC hM 47 (Nat.le_of_ble_eq_true rfl) (eC_47 V) inW10 tyX10 tyX10_ok nmX10 rfl 1 (by decide) q_145 (fun _ h9 => h9) rfl (nar_b (Or.inr rfl)) (fit_b (Or.inr rfl)) (Nat.le_of_ble_eq_true rfl) rfl dX9_shares_28 (fun H locs hM => ?_)
    refine lv_iconst hC.1 hC.2.1 dX9_shares_31 ci_0 ?_
    exact hret (o_r1 hf) (o_r2 hf hM) dX9_shares_32
set_option maxHeartbeats 4000000 in
set_option maxRecDepth 100000 in
theorem mcX9_wishes_q53 (V : mV) (l : Launch) (M : mM) (p1 : Int32) (r : Int32) (M' : mM) (hf : fX9_wishes_q53 M p1 = some (r, M')) : IC V l yX9_wishes cX9_wishes 2 ({ frames := 1, cells := 0, slots := 0, locals := 21 } : Room) [.ref (mvA V 53), .int p1] M r M' := by
  unfold fX9_wishes_q53 at hf
  refine mw_enterI RX9 rfl (by decide +kernel) (Nat.le_of_ble_eq_true rfl) (fun {p e s m args below meth c} ls A Q hC hret hM hl => ?_)
  have hl : lv_has ls 2 [(0, .ref (mvA V 53)), (1, .int p1)] := hl
  refine lv_aload_n hC.1 hC.2.1 dX9_wishes_0 rfl (lv_at hl 0 rfl) ?_
  refine mw_get (v := .ref (mvA V 47)) hC hM 53 (Nat.le_of_ble_eq_true rfl) (eC_53 V) inW7 rfl 0 (by decide) q_309 (fun _ h9 => h9) rfl dX9_wishes_1 ?_
  refine lv_bipush hC.1 hC.2.1 dX9_wishes_4 cb_10 ?_
  obtain ⟨r1, M3, hq2, hf⟩ := o_b2 hf
  refine mw_cVv (As := [.int 10]) (rest := []) hC hM (mcX10_begins V l M 10 r1 M3 hq2) (mw_kV hC q_1056 q_1043 q_1044 q_108 q_1045 ⟨rfl, rfl⟩ kV_X10_begins ⟨Nat.le_of_ble_eq_true rfl, Nat.le_of_ble_eq_true rfl⟩) (Nat.le_of_ble_eq_true rfl) (eC_47 V) rfl rfl rfl (Nat.le_of_ble_eq_true rfl) hl.1 dX9_wishes_6 (fun H locs hM => ?_)
  refine lv_iload_n hC.1 hC.2.1 dX9_wishes_9 rfl (lv_at hl 1 rfl) ?_
  refine lv_aload_n hC.1 hC.2.1 dX9_wishes_10 rfl (lv_at hl 0 rfl) ?_
  refine mw_get (v := .int (M3 53 2)) hC hM 53 (Nat.le_of_ble_eq_true rfl) (eC_53 V) inW7 rfl 2 (by decide) q_326 (fun _ h9 => h9) rfl dX9_wishes_11 ?_
  refine lv_iadd hC.1 hC.2.1 dX9_wishes_14 ?_
  exact hret (o_r1 hf) (o_r2 hf hM) dX9_wishes_15
set_option maxHeartbeats 4000000 in
set_option maxRecDepth 100000 in
theorem mcX7_wishes_q53 (V : mV) (l : Launch) (M : mM) (p1 : Int32) (r : Int32) (M' : mM) (hf : fX7_wishes_q53 M p1 = some (r, M')) : IC V l yX7_wishes cX7_wishes 2 ({ frames := 2, cells := 0, slots := 0, locals := 42 } : Room) [.ref (mvA V 53), .int p1] M r M' := by
  unfold fX7_wishes_q53 at hf
  refine mw_enterI RX7 rfl (by decide +kernel) (Nat.le_of_ble_eq_true rfl) (fun {p e s m args below meth c} ls A Q hC hret hM hl => ?_)
  have hl : lv_has ls 2 [(0, .ref (mvA V 53)), (1, .int p1)] := hl
  refine lv_aload_n hC.1 hC.2.1 dX7_wishes_0 rfl (lv_at hl 0 rfl) ?_
  refine mw_get (v := .ref (mvA V 47)) hC hM 53 (Nat.le_of_ble_eq_true rfl) (eC_53 V) inW7 rfl 0 (by decide) q_312 (fun z h9 => u_same (mw_w hC q_313) z h9) rfl dX7_wishes_1 ?_
  refine lv_bipush hC.1 hC.2.1 dX7_wishes_4 cb_50 ?_
  obtain ⟨r1, M3, hq2, hf⟩ := o_b2 hf
  refine mw_cVv (As := [.int 50]) (rest := []) hC hM (mcX10_begins V l M 50 r1 M3 hq2) (mw_kV hC q_1050 q_1043 q_1044 q_108 q_1045 ⟨rfl, rfl⟩ kV_X10_begins ⟨Nat.le_of_ble_eq_true rfl, Nat.le_of_ble_eq_true rfl⟩) (Nat.le_of_ble_eq_true rfl) (eC_47 V) rfl rfl rfl (Nat.le_of_ble_eq_true rfl) hl.1 dX7_wishes_6 (fun H locs hM => ?_)
  refine lv_aload_n hC.1 hC.2.1 dX7_wishes_9 rfl (lv_at hl 0 rfl) ?_
  refine lv_iload_n hC.1 hC.2.1 dX7_wishes_10 rfl (lv_at hl 1 rfl) ?_
  obtain ⟨r4, M6, hq5, hf⟩ := o_b2 hf
  refine mw_cXi (As := [.int p1]) (rest := []) hC hM (mcX9_wishes_q53 V l M3 p1 r4 M6 hq5) q_1051 q_1052 q_366 q_356 q_1034 q_112 q_1055 kU_X9_wishes ⟨Nat.le_of_ble_eq_true rfl, Nat.le_of_ble_eq_true rfl⟩ ⟨rfl, rfl⟩ rfl (Nat.le_of_ble_eq_true rfl) (eC_53 V) rfl rfl rfl (Nat.le_of_ble_eq_true rfl) hl.1 dX7_wishes_11 (fun H locs hM _ => ?_)
  refine lv_iconst hC.1 hC.2.1 dX7_wishes_14 ci_1 ?_
  refine lv_isub hC.1 hC.2.1 dX7_wishes_15 ?_
  exact hret (o_r1 hf) (o_r2 hf hM) dX7_wishes_16
set_option maxHeartbeats 4000000 in
set_option maxRecDepth 100000 in
theorem mcX9_sways_q53 (V : mV) (l : Launch) (M : mM) (p1 : Int32) (r : Int32) (M' : mM) (hf : fX9_sways_q53 M p1 = some (r, M')) : IC V l yX9_sways cX9_sways 2 ({ frames := 3, cells := 0, slots := 0, locals := 63 } : Room) [.ref (mvA V 53), .int p1] M r M' := by
  unfold fX9_sways_q53 at hf
  refine mw_enterI RX9 rfl (by decide +kernel) (Nat.le_of_ble_eq_true rfl) (fun {p e s m args below meth c} ls A Q hC hret hM hl => ?_)
  have hl : lv_has ls 2 [(0, .ref (mvA V 53)), (1, .int p1)] := hl
  refine lv_aload_n hC.1 hC.2.1 dX9_sways_0 rfl (lv_at hl 0 rfl) ?_
  refine mw_get (v := .ref (mvA V 47)) hC hM 53 (Nat.le_of_ble_eq_true rfl) (eC_53 V) inW7 rfl 0 (by decide) q_309 (fun _ h9 => h9) rfl dX9_sways_1 ?_
  refine lv_bipush hC.1 hC.2.1 dX9_sways_4 cb_11 ?_
  obtain ⟨r1, M3, hq2, hf⟩ := o_b2 hf
  refine mw_cVv (As := [.int 11]) (rest := []) hC hM (mcX10_begins V l M 11 r1 M3 hq2) (mw_kV hC q_1056 q_1043 q_1044 q_108 q_1045 ⟨rfl, rfl⟩ kV_X10_begins ⟨Nat.le_of_ble_eq_true rfl, Nat.le_of_ble_eq_true rfl⟩) (Nat.le_of_ble_eq_true rfl) (eC_47 V) rfl rfl rfl (Nat.le_of_ble_eq_true rfl) hl.1 dX9_sways_6 (fun H locs hM => ?_)
  refine lv_aload_n hC.1 hC.2.1 dX9_sways_9 rfl (lv_at hl 0 rfl) ?_
  refine lv_iload_n hC.1 hC.2.1 dX9_sways_10 rfl (lv_at hl 1 rfl) ?_
  obtain ⟨r4, M6, hq5, hf⟩ := o_b2 hf
  refine mw_cOi (As := [.int p1]) (rest := []) hC hM (mcX7_wishes_q53 V l M3 p1 r4 M6 hq5) (mw_kO (owner := RX9) hC q_1077 q_1036 q_1034 q_1047 q_1048 q_115 q_1049 q_1055 ⟨rfl, rfl⟩ kO_X9_wishes ⟨Nat.le_of_ble_eq_true rfl, Nat.le_of_ble_eq_true rfl⟩) (Nat.le_of_ble_eq_true rfl) (eC_53 V) rfl rfl rfl (Nat.le_of_ble_eq_true rfl) hl.1 dX9_sways_11 (fun H locs hM _ => ?_)
  refine lv_aload_n hC.1 hC.2.1 dX9_sways_14 rfl (lv_at hl 0 rfl) ?_
  refine mw_get (v := .int (M6 53 1)) hC hM 53 (Nat.le_of_ble_eq_true rfl) (eC_53 V) inW7 rfl 1 (by decide) q_322 (fun _ h9 => h9) rfl dX9_sways_15 ?_
  refine lv_isub hC.1 hC.2.1 dX9_sways_18 ?_
  exact hret (o_r1 hf) (o_r2 hf hM) dX9_sways_19
set_option maxHeartbeats 4000000 in
set_option maxRecDepth 100000 in
theorem mcX1_sways_q53 (V : mV) (l : Launch) (M : mM) (p1 : Int32) (r : Int32) (M' : mM) (hf : fX1_sways_q53 M p1 = some (r, M')) : IC V l yX1_sways cX1_sways 2 ({ frames := 4, cells := 0, slots := 0, locals := 84 } : Room) [.ref (mvA V 53), .int p1] M r M' := by
  unfold fX1_sways_q53 at hf
  refine mw_enterI RX1 rfl (by decide +kernel) (Nat.le_of_ble_eq_true rfl) (fun {p e s m args below meth c} ls A Q hC hret hM hl => ?_)
  have hl : lv_has ls 2 [(0, .ref (mvA V 53)), (1, .int p1)] := hl
  refine lv_aload_n hC.1 hC.2.1 dX1_sways_0 rfl (lv_at hl 0 rfl) ?_
  refine mw_get (v := .ref (mvA V 47)) hC hM 53 (Nat.le_of_ble_eq_true rfl) (eC_53 V) inW7 rfl 0 (by decide) q_314 (fun z h9 => u_same (mw_w hC q_315) z h9) rfl dX1_sways_1 ?_
  refine lv_bipush hC.1 hC.2.1 dX1_sways_4 cb_30 ?_
  obtain ⟨r1, M3, hq2, hf⟩ := o_b2 hf
  refine mw_cVv (As := [.int 30]) (rest := []) hC hM (mcX10_begins V l M 30 r1 M3 hq2) (mw_kV hC q_1065 q_1043 q_1044 q_108 q_1045 ⟨rfl, rfl⟩ kV_X10_begins ⟨Nat.le_of_ble_eq_true rfl, Nat.le_of_ble_eq_true rfl⟩) (Nat.le_of_ble_eq_true rfl) (eC_47 V) rfl rfl rfl (Nat.le_of_ble_eq_true rfl) hl.1 dX1_sways_6 (fun H locs hM => ?_)
  refine lv_aload_n hC.1 hC.2.1 dX1_sways_9 rfl (lv_at hl 0 rfl) ?_
  refine lv_iload_n hC.1 hC.2.1 dX1_sways_10 rfl (lv_at hl 1 rfl) ?_
  obtain ⟨r4, M6, hq5, hf⟩ := o_b2 hf
  refine mw_cUi (As := [.int p1]) (rest := []) hC hM (mcX9_sways_q53 V l M3 p1 r4 M6 hq5) (mw_kU hC q_1066 q_1060 q_356 q_1058 q_112 q_1076 ⟨rfl, rfl⟩ kU_X9_sways ⟨Nat.le_of_ble_eq_true rfl, Nat.le_of_ble_eq_true rfl⟩) (Nat.le_of_ble_eq_true rfl) (eC_53 V) rfl rfl rfl (Nat.le_of_ble_eq_true rfl) hl.1 dX1_sways_11 (fun H locs hM _ => ?_)
  refine lv_aload_n hC.1 hC.2.1 dX1_sways_14 rfl (lv_at hl 0 rfl) ?_
  refine mw_get (v := .int (M6 53 1)) hC hM 53 (Nat.le_of_ble_eq_true rfl) (eC_53 V) inW7 rfl 1 (by decide) q_320 (fun z h9 => u_same (mw_w hC q_321) z h9) rfl dX1_sways_15 ?_
  refine lv_ixor hC.1 hC.2.1 dX1_sways_18 ?_
  exact hret (o_r1 hf) (o_r2 hf hM) dX1_sways_19
set_option maxHeartbeats 4000000 in
set_option maxRecDepth 100000 in
theorem mcX9_tells_q53 (V : mV) (l : Launch) (M : mM) (p1 : Int32) (r : Int32) (M' : mM) (hf : fX9_tells_q53 M p1 = some (r, M')) : IC V l yX9_tells cX9_tells 2 ({ frames := 5, cells := 0, slots := 0, locals := 105 } : Room) [.ref (mvA V 53), .int p1] M r M' := by
  unfold fX9_tells_q53 at hf
  refine mw_enterI RX9 rfl (by decide +kernel) (Nat.le_of_ble_eq_true rfl) (fun {p e s m args below meth c} ls A Q hC hret hM hl => ?_)
  have hl : lv_has ls 2 [(0, .ref (mvA V 53)), (1, .int p1)] := hl
  refine lv_aload_n hC.1 hC.2.1 dX9_tells_0 rfl (lv_at hl 0 rfl) ?_
  refine mw_get (v := .ref (mvA V 47)) hC hM 53 (Nat.le_of_ble_eq_true rfl) (eC_53 V) inW7 rfl 0 (by decide) q_309 (fun _ h9 => h9) rfl dX9_tells_1 ?_
  refine lv_bipush hC.1 hC.2.1 dX9_tells_4 cb_13 ?_
  obtain ⟨r1, M3, hq2, hf⟩ := o_b2 hf
  refine mw_cVv (As := [.int 13]) (rest := []) hC hM (mcX10_begins V l M 13 r1 M3 hq2) (mw_kV hC q_1056 q_1043 q_1044 q_108 q_1045 ⟨rfl, rfl⟩ kV_X10_begins ⟨Nat.le_of_ble_eq_true rfl, Nat.le_of_ble_eq_true rfl⟩) (Nat.le_of_ble_eq_true rfl) (eC_47 V) rfl rfl rfl (Nat.le_of_ble_eq_true rfl) hl.1 dX9_tells_6 (fun H locs hM => ?_)
  refine lv_aload_n hC.1 hC.2.1 dX9_tells_9 rfl (lv_at hl 0 rfl) ?_
  refine lv_iload_n hC.1 hC.2.1 dX9_tells_10 rfl (lv_at hl 1 rfl) ?_
  obtain ⟨r4, M6, hq5, hf⟩ := o_b2 hf
  refine mw_cOi (As := [.int p1]) (rest := []) hC hM (mcX1_sways_q53 V l M3 p1 r4 M6 hq5) (mw_kO (owner := RX9) hC q_1117 q_1060 q_1058 q_1068 q_1063 q_114 q_1064 q_1076 ⟨rfl, rfl⟩ kO_X9_sways ⟨Nat.le_of_ble_eq_true rfl, Nat.le_of_ble_eq_true rfl⟩) (Nat.le_of_ble_eq_true rfl) (eC_53 V) rfl rfl rfl (Nat.le_of_ble_eq_true rfl) hl.1 dX9_tells_11 (fun H locs hM _ => ?_)
  refine lv_aload_n hC.1 hC.2.1 dX9_tells_14 rfl (lv_at hl 0 rfl) ?_
  refine mw_get (v := .int (M6 53 2)) hC hM 53 (Nat.le_of_ble_eq_true rfl) (eC_53 V) inW7 rfl 2 (by decide) q_326 (fun _ h9 => h9) rfl dX9_tells_15 ?_
  refine lv_ixor hC.1 hC.2.1 dX9_tells_18 ?_
  exact hret (o_r1 hf) (o_r2 hf hM) dX9_tells_19
set_option maxHeartbeats 4000000 in
set_option maxRecDepth 100000 in
theorem mcX9_shares_q53 (V : mV) (l : Launch) (M : mM) (p1 : Int32) (r : Int32) (M' : mM) (hf : fX9_shares_q53 M p1 = some (r, M')) : IC V l yX9_shares cX9_shares 3 ({ frames := 1, cells := 0, slots := 0, locals := 21 } : Room) [.ref (mvA V 53), .int p1] M r M' := by
  unfold fX9_shares_q53 at hf
  refine mw_enterI RX9 rfl (by decide +kernel) (Nat.le_of_ble_eq_true rfl) (fun {p e s m args below meth c} ls A Q hC hret hM hl => ?_)
  have hl : lv_has ls 3 [(0, .ref (mvA V 53)), (1, .int p1)] := hl
  refine lv_aload_n hC.1 hC.2.1 dX9_shares_0 rfl (lv_at hl 0 rfl) ?_
  refine mw_get (v := .ref (mvA V 47)) hC hM 53 (Nat.le_of_ble_eq_true rfl) (eC_53 V) inW7 rfl 0 (by decide) q_309 (fun _ h9 => h9) rfl dX9_shares_1 ?_
  refine lv_bipush hC.1 hC.2.1 dX9_shares_4 cb_12 ?_
  obtain ⟨r1, M3, hq2, hf⟩ := o_b2 hf
  refine mw_cVv (As := [.int 12]) (rest := []) hC hM (mcX10_begins V l M 12 r1 M3 hq2) (mw_kV hC q_1056 q_1043 q_1044 q_108 q_1045 ⟨rfl, rfl⟩ kV_X10_begins ⟨Nat.le_of_ble_eq_true rfl, Nat.le_of_ble_eq_true rfl⟩) (Nat.le_of_ble_eq_true rfl) (eC_47 V) rfl rfl rfl (Nat.le_of_ble_eq_true rfl) hl.1 dX9_shares_6 (fun H locs hM => ?_)
  refine lv_aload_n hC.1 hC.2.1 dX9_shares_9 rfl (lv_at hl 0 rfl) ?_
  refine mw_get (v := .int (M3 53 2)) hC hM 53 (Nat.le_of_ble_eq_true rfl) (eC_53 V) inW7 rfl 2 (by decide) q_326 (fun _ h9 => h9) rfl dX9_shares_10 ?_
  refine lv_aload_n hC.1 hC.2.1 dX9_shares_13 rfl (lv_at hl 0 rfl) ?_
  refine mw_get (v := .int (M3 53 1)) hC hM 53 (Nat.le_of_ble_eq_true rfl) (eC_53 V) inW7 rfl 1 (by decide) q_322 (fun _ h9 => h9) rfl dX9_shares_14 ?_
  refine lv_isub hC.1 hC.2.1 dX9_shares_17 ?_
  refine lv_istore_n (lv' := [(2, .int ((M3 53 2) - (M3 53 1))), (0, .ref (mvA V 53)), (1, .int p1)]) hC.1 hC.2.1 dX9_shares_18 rfl hl (Nat.le_of_ble_eq_true rfl) rfl (fun ls hl => ?_)
  refine lv_iload_n hC.1 hC.2.1 dX9_shares_19 rfl (lv_at hl 0 rfl) ?_
  refine lv_if_ne (tgt := 33) hC.1 hC.2.1 dX9_shares_20 (by decide) (fun hc5 => ?_) (fun hc5 => ?_)
  · have hf := o_f hc5 hf
    refine lv_iload_n hC.1 hC.2.1 dX9_shares_33 rfl (lv_at hl 2 rfl) ?_
    refine lv_iload_n hC.1 hC.2.1 dX9_shares_34 rfl (lv_at hl 0 rfl) ?_
    obtain ⟨hg4, hf⟩ := o_g hf
    refine lv_idiv hC.1 hC.2.1 dX9_shares_35 (nz_ne hg4) ?_
    exact hret (o_r1 hf) (o_r2 hf hM) dX9_shares_36
  · have hf := o_t hc5 hf
    refine lv_aload_n hC.1 hC.2.1 dX9_shares_23 rfl (lv_at hl 1 rfl) ?_
    refine mw_get (v := .ref (mvA V 47)) hC hM 53 (Nat.le_of_ble_eq_true rfl) (eC_53 V) inW7 rfl 0 (by decide) q_309 (fun _ h9 => h9) rfl dX9_shares_24 ?_
    refine lv_iconst hC.1 hC.2.1 dX9_shares_27 ci_1 ?_
    refine mw_put hC hM 47 (Nat.le_of_ble_eq_true rfl) (eC_47 V) inW10 tyX10 tyX10_ok nmX10 rfl 1 (by decide) q_145 (fun _ h9 => h9) rfl (nar_b (Or.inr rfl)) (fit_b (Or.inr rfl)) (Nat.le_of_ble_eq_true rfl) rfl dX9_shares_28 (fun H locs hM => ?_)
    refine lv_iconst hC.1 hC.2.1 dX9_shares_31 ci_0 ?_
    exact hret (o_r1 hf) (o_r2 hf hM) dX9_shares_32
set_option maxHeartbeats 4000000 in
set_option maxRecDepth 100000 in
theorem mcX7_tells_q53 (V : mV) (l : Launch) (M : mM) (p1 : Int32) (r : Int32) (M' : mM) (hf : fX7_tells_q53 M p1 = some (r, M')) : IC V l yX7_tells cX7_tells 2 ({ frames := 6, cells := 0, slots := 0, locals := 126 } : Room) [.ref (mvA V 53), .int p1] M r M' := by
  unfold fX7_tells_q53 at hf
  refine mw_enterI RX7 rfl (by decide +kernel) (Nat.le_of_ble_eq_true rfl) (fun {p e s m args below meth c} ls A Q hC hret hM hl => ?_)
  have hl : lv_has ls 2 [(0, .ref (mvA V 53)), (1, .int p1)] := hl
  refine lv_aload_n hC.1 hC.2.1 dX7_tells_0 rfl (lv_at hl 0 rfl) ?_
  refine mw_get (v := .ref (mvA V 47)) hC hM 53 (Nat.le_of_ble_eq_true rfl) (eC_53 V) inW7 rfl 0 (by decide) q_312 (fun z h9 => u_same (mw_w hC q_313) z h9) rfl dX7_tells_1 ?_
  refine lv_bipush hC.1 hC.2.1 dX7_tells_4 cb_51 ?_
  obtain ⟨r1, M3, hq2, hf⟩ := o_b2 hf
  refine mw_cVv (As := [.int 51]) (rest := []) hC hM (mcX10_begins V l M 51 r1 M3 hq2) (mw_kV hC q_1050 q_1043 q_1044 q_108 q_1045 ⟨rfl, rfl⟩ kV_X10_begins ⟨Nat.le_of_ble_eq_true rfl, Nat.le_of_ble_eq_true rfl⟩) (Nat.le_of_ble_eq_true rfl) (eC_47 V) rfl rfl rfl (Nat.le_of_ble_eq_true rfl) hl.1 dX7_tells_6 (fun H locs hM => ?_)
  refine lv_aload_n hC.1 hC.2.1 dX7_tells_9 rfl (lv_at hl 0 rfl) ?_
  refine lv_iload_n hC.1 hC.2.1 dX7_tells_10 rfl (lv_at hl 1 rfl) ?_
  obtain ⟨r4, M6, hq5, hf⟩ := o_b2 hf
  refine mw_cXi (As := [.int p1]) (rest := []) hC hM (mcX9_tells_q53 V l M3 p1 r4 M6 hq5) q_1108 q_1109 q_366 q_356 q_1099 q_112 q_1116 kU_X9_tells ⟨Nat.le_of_ble_eq_true rfl, Nat.le_of_ble_eq_true rfl⟩ ⟨rfl, rfl⟩ rfl (Nat.le_of_ble_eq_true rfl) (eC_53 V) rfl rfl rfl (Nat.le_of_ble_eq_true rfl) hl.1 dX7_tells_11 (fun H locs hM _ => ?_)
  refine lv_aload_n hC.1 hC.2.1 dX7_tells_14 rfl (lv_at hl 0 rfl) ?_
  refine lv_aload_n hC.1 hC.2.1 dX7_tells_15 rfl (lv_at hl 0 rfl) ?_
  refine mw_get (v := .int (M6 53 2)) hC hM 53 (Nat.le_of_ble_eq_true rfl) (eC_53 V) inW7 rfl 2 (by decide) q_327 (fun z h9 => u_same (mw_w hC q_328) z h9) rfl dX7_tells_16 ?_
  obtain ⟨r7, M9, hq8, hf⟩ := o_b2 hf
  refine mw_cOi (As := [.int (M6 53 2)]) (rest := [.int r4]) hC hM (mcX9_shares_q53 V l M6 (M6 53 2) r7 M9 hq8) (mw_kO (owner := RX9) hC q_1111 q_1112 q_1079 q_1114 q_1079 q_112 q_1097 q_1097 ⟨rfl, rfl⟩ kO_X9_shares ⟨Nat.le_of_ble_eq_true rfl, Nat.le_of_ble_eq_true rfl⟩) (Nat.le_of_ble_eq_true rfl) (eC_53 V) rfl rfl rfl (Nat.le_of_ble_eq_true rfl) hl.1 dX7_tells_19 (fun H locs hM _ => ?_)
  refine lv_iadd hC.1 hC.2.1 dX7_tells_22 ?_
  exact hret (o_r1 hf) (o_r2 hf hM) dX7_tells_23
set_option maxHeartbeats 4000000 in
set_option maxRecDepth 100000 in
theorem mcX9_wishes_q54 (V : mV) (l : Launch) (M : mM) (p1 : Int32) (r : Int32) (M' : mM) (hf : fX9_wishes_q54 M p1 = some (r, M')) : IC V l yX9_wishes cX9_wishes 2 ({ frames := 1, cells := 0, slots := 0, locals := 21 } : Room) [.ref (mvA V 54), .int p1] M r M' := by
  unfold fX9_wishes_q54 at hf
  refine mw_enterI RX9 rfl (by decide +kernel) (Nat.le_of_ble_eq_true rfl) (fun {p e s m args below meth c} ls A Q hC hret hM hl => ?_)
  have hl : lv_has ls 2 [(0, .ref (mvA V 54)), (1, .int p1)] := hl
  refine lv_aload_n hC.1 hC.2.1 dX9_wishes_0 rfl (lv_at hl 0 rfl) ?_
  refine mw_get (v := .ref (mvA V 47)) hC hM 54 (Nat.le_of_ble_eq_true rfl) (eC_54 V) inW0 rfl 0 (by decide) q_309 (fun _ h9 => h9) rfl dX9_wishes_1 ?_
  refine lv_bipush hC.1 hC.2.1 dX9_wishes_4 cb_10 ?_
  obtain ⟨r1, M3, hq2, hf⟩ := o_b2 hf
  refine mw_cVv (As := [.int 10]) (rest := []) hC hM (mcX10_begins V l M 10 r1 M3 hq2) (mw_kV hC q_1056 q_1043 q_1044 q_108 q_1045 ⟨rfl, rfl⟩ kV_X10_begins ⟨Nat.le_of_ble_eq_true rfl, Nat.le_of_ble_eq_true rfl⟩) (Nat.le_of_ble_eq_true rfl) (eC_47 V) rfl rfl rfl (Nat.le_of_ble_eq_true rfl) hl.1 dX9_wishes_6 (fun H locs hM => ?_)
  refine lv_iload_n hC.1 hC.2.1 dX9_wishes_9 rfl (lv_at hl 1 rfl) ?_
  refine lv_aload_n hC.1 hC.2.1 dX9_wishes_10 rfl (lv_at hl 0 rfl) ?_
  refine mw_get (v := .int (M3 54 2)) hC hM 54 (Nat.le_of_ble_eq_true rfl) (eC_54 V) inW0 rfl 2 (by decide) q_326 (fun _ h9 => h9) rfl dX9_wishes_11 ?_
  refine lv_iadd hC.1 hC.2.1 dX9_wishes_14 ?_
  exact hret (o_r1 hf) (o_r2 hf hM) dX9_wishes_15
set_option maxHeartbeats 4000000 in
set_option maxRecDepth 100000 in
theorem mcX9_sways_q54 (V : mV) (l : Launch) (M : mM) (p1 : Int32) (r : Int32) (M' : mM) (hf : fX9_sways_q54 M p1 = some (r, M')) : IC V l yX9_sways cX9_sways 2 ({ frames := 2, cells := 0, slots := 0, locals := 42 } : Room) [.ref (mvA V 54), .int p1] M r M' := by
  unfold fX9_sways_q54 at hf
  refine mw_enterI RX9 rfl (by decide +kernel) (Nat.le_of_ble_eq_true rfl) (fun {p e s m args below meth c} ls A Q hC hret hM hl => ?_)
  have hl : lv_has ls 2 [(0, .ref (mvA V 54)), (1, .int p1)] := hl
  refine lv_aload_n hC.1 hC.2.1 dX9_sways_0 rfl (lv_at hl 0 rfl) ?_
  refine mw_get (v := .ref (mvA V 47)) hC hM 54 (Nat.le_of_ble_eq_true rfl) (eC_54 V) inW0 rfl 0 (by decide) q_309 (fun _ h9 => h9) rfl dX9_sways_1 ?_
  refine lv_bipush hC.1 hC.2.1 dX9_sways_4 cb_11 ?_
  obtain ⟨r1, M3, hq2, hf⟩ := o_b2 hf
  refine mw_cVv (As := [.int 11]) (rest := []) hC hM (mcX10_begins V l M 11 r1 M3 hq2) (mw_kV hC q_1056 q_1043 q_1044 q_108 q_1045 ⟨rfl, rfl⟩ kV_X10_begins ⟨Nat.le_of_ble_eq_true rfl, Nat.le_of_ble_eq_true rfl⟩) (Nat.le_of_ble_eq_true rfl) (eC_47 V) rfl rfl rfl (Nat.le_of_ble_eq_true rfl) hl.1 dX9_sways_6 (fun H locs hM => ?_)
  refine lv_aload_n hC.1 hC.2.1 dX9_sways_9 rfl (lv_at hl 0 rfl) ?_
  refine lv_iload_n hC.1 hC.2.1 dX9_sways_10 rfl (lv_at hl 1 rfl) ?_
  obtain ⟨r4, M6, hq5, hf⟩ := o_b2 hf
  refine mw_cOi (As := [.int p1]) (rest := []) hC hM (mcX9_wishes_q54 V l M3 p1 r4 M6 hq5) (mw_kO (owner := RX9) hC q_1077 q_1036 q_1034 q_1037 q_1034 q_112 q_1055 q_1055 ⟨rfl, rfl⟩ kO_X9_wishes ⟨Nat.le_of_ble_eq_true rfl, Nat.le_of_ble_eq_true rfl⟩) (Nat.le_of_ble_eq_true rfl) (eC_54 V) rfl rfl rfl (Nat.le_of_ble_eq_true rfl) hl.1 dX9_sways_11 (fun H locs hM _ => ?_)
  refine lv_aload_n hC.1 hC.2.1 dX9_sways_14 rfl (lv_at hl 0 rfl) ?_
  refine mw_get (v := .int (M6 54 1)) hC hM 54 (Nat.le_of_ble_eq_true rfl) (eC_54 V) inW0 rfl 1 (by decide) q_322 (fun _ h9 => h9) rfl dX9_sways_15 ?_
  refine lv_isub hC.1 hC.2.1 dX9_sways_18 ?_
  exact hret (o_r1 hf) (o_r2 hf hM) dX9_sways_19
set_option maxHeartbeats 4000000 in
set_option maxRecDepth 100000 in
theorem mcX9_tells_q54 (V : mV) (l : Launch) (M : mM) (p1 : Int32) (r : Int32) (M' : mM) (hf : fX9_tells_q54 M p1 = some (r, M')) : IC V l yX9_tells cX9_tells 2 ({ frames := 3, cells := 0, slots := 0, locals := 63 } : Room) [.ref (mvA V 54), .int p1] M r M' := by
  unfold fX9_tells_q54 at hf
  refine mw_enterI RX9 rfl (by decide +kernel) (Nat.le_of_ble_eq_true rfl) (fun {p e s m args below meth c} ls A Q hC hret hM hl => ?_)
  have hl : lv_has ls 2 [(0, .ref (mvA V 54)), (1, .int p1)] := hl
  refine lv_aload_n hC.1 hC.2.1 dX9_tells_0 rfl (lv_at hl 0 rfl) ?_
  refine mw_get (v := .ref (mvA V 47)) hC hM 54 (Nat.le_of_ble_eq_true rfl) (eC_54 V) inW0 rfl 0 (by decide) q_309 (fun _ h9 => h9) rfl dX9_tells_1 ?_
  refine lv_bipush hC.1 hC.2.1 dX9_tells_4 cb_13 ?_
  obtain ⟨r1, M3, hq2, hf⟩ := o_b2 hf
  refine mw_cVv (As := [.int 13]) (rest := []) hC hM (mcX10_begins V l M 13 r1 M3 hq2) (mw_kV hC q_1056 q_1043 q_1044 q_108 q_1045 ⟨rfl, rfl⟩ kV_X10_begins ⟨Nat.le_of_ble_eq_true rfl, Nat.le_of_ble_eq_true rfl⟩) (Nat.le_of_ble_eq_true rfl) (eC_47 V) rfl rfl rfl (Nat.le_of_ble_eq_true rfl) hl.1 dX9_tells_6 (fun H locs hM => ?_)
  refine lv_aload_n hC.1 hC.2.1 dX9_tells_9 rfl (lv_at hl 0 rfl) ?_
  refine lv_iload_n hC.1 hC.2.1 dX9_tells_10 rfl (lv_at hl 1 rfl) ?_
  obtain ⟨r4, M6, hq5, hf⟩ := o_b2 hf
  refine mw_cOi (As := [.int p1]) (rest := []) hC hM (mcX9_sways_q54 V l M3 p1 r4 M6 hq5) (mw_kO (owner := RX9) hC q_1117 q_1060 q_1058 q_1061 q_1058 q_112 q_1076 q_1076 ⟨rfl, rfl⟩ kO_X9_sways ⟨Nat.le_of_ble_eq_true rfl, Nat.le_of_ble_eq_true rfl⟩) (Nat.le_of_ble_eq_true rfl) (eC_54 V) rfl rfl rfl (Nat.le_of_ble_eq_true rfl) hl.1 dX9_tells_11 (fun H locs hM _ => ?_)
  refine lv_aload_n hC.1 hC.2.1 dX9_tells_14 rfl (lv_at hl 0 rfl) ?_
  refine mw_get (v := .int (M6 54 2)) hC hM 54 (Nat.le_of_ble_eq_true rfl) (eC_54 V) inW0 rfl 2 (by decide) q_326 (fun _ h9 => h9) rfl dX9_tells_15 ?_
  refine lv_ixor hC.1 hC.2.1 dX9_tells_18 ?_
  exact hret (o_r1 hf) (o_r2 hf hM) dX9_tells_19
set_option maxHeartbeats 4000000 in
set_option maxRecDepth 100000 in
theorem mcX9_shares_q54 (V : mV) (l : Launch) (M : mM) (p1 : Int32) (r : Int32) (M' : mM) (hf : fX9_shares_q54 M p1 = some (r, M')) : IC V l yX9_shares cX9_shares 3 ({ frames := 1, cells := 0, slots := 0, locals := 21 } : Room) [.ref (mvA V 54), .int p1] M r M' := by
  unfold fX9_shares_q54 at hf
  refine mw_enterI RX9 rfl (by decide +kernel) (Nat.le_of_ble_eq_true rfl) (fun {p e s m args below meth c} ls A Q hC hret hM hl => ?_)
  have hl : lv_has ls 3 [(0, .ref (mvA V 54)), (1, .int p1)] := hl
  refine lv_aload_n hC.1 hC.2.1 dX9_shares_0 rfl (lv_at hl 0 rfl) ?_
  refine mw_get (v := .ref (mvA V 47)) hC hM 54 (Nat.le_of_ble_eq_true rfl) (eC_54 V) inW0 rfl 0 (by decide) q_309 (fun _ h9 => h9) rfl dX9_shares_1 ?_
  refine lv_bipush hC.1 hC.2.1 dX9_shares_4 cb_12 ?_
  obtain ⟨r1, M3, hq2, hf⟩ := o_b2 hf
  refine mw_cVv (As := [.int 12]) (rest := []) hC hM (mcX10_begins V l M 12 r1 M3 hq2) (mw_kV hC q_1056 q_1043 q_1044 q_108 q_1045 ⟨rfl, rfl⟩ kV_X10_begins ⟨Nat.le_of_ble_eq_true rfl, Nat.le_of_ble_eq_true rfl⟩) (Nat.le_of_ble_eq_true rfl) (eC_47 V) rfl rfl rfl (Nat.le_of_ble_eq_true rfl) hl.1 dX9_shares_6 (fun H locs hM => ?_)
  refine lv_aload_n hC.1 hC.2.1 dX9_shares_9 rfl (lv_at hl 0 rfl) ?_
  refine mw_get (v := .int (M3 54 2)) hC hM 54 (Nat.le_of_ble_eq_true rfl) (eC_54 V) inW0 rfl 2 (by decide) q_326 (fun _ h9 => h9) rfl dX9_shares_10 ?_
  refine lv_aload_n hC.1 hC.2.1 dX9_shares_13 rfl (lv_at hl 0 rfl) ?_
  refine mw_get (v := .int (M3 54 1)) hC hM 54 (Nat.le_of_ble_eq_true rfl) (eC_54 V) inW0 rfl 1 (by decide) q_322 (fun _ h9 => h9) rfl dX9_shares_14 ?_
  refine lv_isub hC.1 hC.2.1 dX9_shares_17 ?_
  refine lv_istore_n (lv' := [(2, .int ((M3 54 2) - (M3 54 1))), (0, .ref (mvA V 54)), (1, .int p1)]) hC.1 hC.2.1 dX9_shares_18 rfl hl (Nat.le_of_ble_eq_true rfl) rfl (fun ls hl => ?_)
  refine lv_iload_n hC.1 hC.2.1 dX9_shares_19 rfl (lv_at hl 0 rfl) ?_
  refine lv_if_ne (tgt := 33) hC.1 hC.2.1 dX9_shares_20 (by decide) (fun hc5 => ?_) (fun hc5 => ?_)
  · have hf := o_f hc5 hf
    refine lv_iload_n hC.1 hC.2.1 dX9_shares_33 rfl (lv_at hl 2 rfl) ?_
    refine lv_iload_n hC.1 hC.2.1 dX9_shares_34 rfl (lv_at hl 0 rfl) ?_
    obtain ⟨hg4, hf⟩ := o_g hf
    refine lv_idiv hC.1 hC.2.1 dX9_shares_35 (nz_ne hg4) ?_
    exact hret (o_r1 hf) (o_r2 hf hM) dX9_shares_36
  · have hf := o_t hc5 hf
    refine lv_aload_n hC.1 hC.2.1 dX9_shares_23 rfl (lv_at hl 1 rfl) ?_
    refine mw_get (v := .ref (mvA V 47)) hC hM 54 (Nat.le_of_ble_eq_true rfl) (eC_54 V) inW0 rfl 0 (by decide) q_309 (fun _ h9 => h9) rfl dX9_shares_24 ?_
    refine lv_iconst hC.1 hC.2.1 dX9_shares_27 ci_1 ?_
    refine mw_put hC hM 47 (Nat.le_of_ble_eq_true rfl) (eC_47 V) inW10 tyX10 tyX10_ok nmX10 rfl 1 (by decide) q_145 (fun _ h9 => h9) rfl (nar_b (Or.inr rfl)) (fit_b (Or.inr rfl)) (Nat.le_of_ble_eq_true rfl) rfl dX9_shares_28 (fun H locs hM => ?_)
    refine lv_iconst hC.1 hC.2.1 dX9_shares_31 ci_0 ?_
    exact hret (o_r1 hf) (o_r2 hf hM) dX9_shares_32
set_option maxHeartbeats 4000000 in
set_option maxRecDepth 100000 in
theorem mcX0_shares_q54 (V : mV) (l : Launch) (M : mM) (p1 : Int32) (r : Int32) (M' : mM) (hf : fX0_shares_q54 M p1 = some (r, M')) : IC V l yX0_shares cX0_shares 2 ({ frames := 2, cells := 0, slots := 0, locals := 43 } : Room) [.ref (mvA V 54), .int p1] M r M' := by
  unfold fX0_shares_q54 at hf
  refine mw_enterI RX0 rfl (by decide +kernel) (Nat.le_of_ble_eq_true rfl) (fun {p e s m args below meth c} ls A Q hC hret hM hl => ?_)
  have hl : lv_has ls 2 [(0, .ref (mvA V 54)), (1, .int p1)] := hl
  refine lv_aload_n hC.1 hC.2.1 dX0_shares_0 rfl (lv_at hl 0 rfl) ?_
  refine mw_get (v := .ref (mvA V 47)) hC hM 54 (Nat.le_of_ble_eq_true rfl) (eC_54 V) inW0 rfl 0 (by decide) q_318 (fun z h9 => u_same (mw_w hC q_319) z h9) rfl dX0_shares_1 ?_
  refine lv_bipush hC.1 hC.2.1 dX0_shares_4 cb_40 ?_
  obtain ⟨r1, M3, hq2, hf⟩ := o_b2 hf
  refine mw_cVv (As := [.int 40]) (rest := []) hC hM (mcX10_begins V l M 40 r1 M3 hq2) (mw_kV hC q_1085 q_1043 q_1044 q_108 q_1045 ⟨rfl, rfl⟩ kV_X10_begins ⟨Nat.le_of_ble_eq_true rfl, Nat.le_of_ble_eq_true rfl⟩) (Nat.le_of_ble_eq_true rfl) (eC_47 V) rfl rfl rfl (Nat.le_of_ble_eq_true rfl) hl.1 dX0_shares_6 (fun H locs hM => ?_)
  refine lv_aload_n hC.1 hC.2.1 dX0_shares_9 rfl (lv_at hl 0 rfl) ?_
  refine lv_iload_n hC.1 hC.2.1 dX0_shares_10 rfl (lv_at hl 1 rfl) ?_
  refine lv_iconst hC.1 hC.2.1 dX0_shares_11 ci_3 ?_
  refine lv_isub hC.1 hC.2.1 dX0_shares_12 ?_
  obtain ⟨r4, M6, hq5, hf⟩ := o_b2 hf
  refine mw_cUi (As := [.int (p1 - 3)]) (rest := []) hC hM (mcX9_shares_q54 V l M3 (p1 - 3) r4 M6 hq5) (mw_kU hC q_1086 q_1081 q_376 q_1079 q_112 q_1097 ⟨rfl, rfl⟩ kU_X9_shares ⟨Nat.le_of_ble_eq_true rfl, Nat.le_of_ble_eq_true rfl⟩) (Nat.le_of_ble_eq_true rfl) (eC_54 V) rfl rfl rfl (Nat.le_of_ble_eq_true rfl) hl.1 dX0_shares_13 (fun H locs hM _ => ?_)
  exact hret (o_r1 hf) (o_r2 hf hM) dX0_shares_16
set_option maxHeartbeats 4000000 in
set_option maxRecDepth 100000 in
theorem mcX9_wishes_q55 (V : mV) (l : Launch) (M : mM) (p1 : Int32) (r : Int32) (M' : mM) (hf : fX9_wishes_q55 M p1 = some (r, M')) : IC V l yX9_wishes cX9_wishes 2 ({ frames := 1, cells := 0, slots := 0, locals := 21 } : Room) [.ref (mvA V 55), .int p1] M r M' := by
  unfold fX9_wishes_q55 at hf
  refine mw_enterI RX9 rfl (by decide +kernel) (Nat.le_of_ble_eq_true rfl) (fun {p e s m args below meth c} ls A Q hC hret hM hl => ?_)
  have hl : lv_has ls 2 [(0, .ref (mvA V 55)), (1, .int p1)] := hl
  refine lv_aload_n hC.1 hC.2.1 dX9_wishes_0 rfl (lv_at hl 0 rfl) ?_
  refine mw_get (v := .ref (mvA V 47)) hC hM 55 (Nat.le_of_ble_eq_true rfl) (eC_55 V) inW8 rfl 0 (by decide) q_309 (fun _ h9 => h9) rfl dX9_wishes_1 ?_
  refine lv_bipush hC.1 hC.2.1 dX9_wishes_4 cb_10 ?_
  obtain ⟨r1, M3, hq2, hf⟩ := o_b2 hf
  refine mw_cVv (As := [.int 10]) (rest := []) hC hM (mcX10_begins V l M 10 r1 M3 hq2) (mw_kV hC q_1056 q_1043 q_1044 q_108 q_1045 ⟨rfl, rfl⟩ kV_X10_begins ⟨Nat.le_of_ble_eq_true rfl, Nat.le_of_ble_eq_true rfl⟩) (Nat.le_of_ble_eq_true rfl) (eC_47 V) rfl rfl rfl (Nat.le_of_ble_eq_true rfl) hl.1 dX9_wishes_6 (fun H locs hM => ?_)
  refine lv_iload_n hC.1 hC.2.1 dX9_wishes_9 rfl (lv_at hl 1 rfl) ?_
  refine lv_aload_n hC.1 hC.2.1 dX9_wishes_10 rfl (lv_at hl 0 rfl) ?_
  refine mw_get (v := .int (M3 55 2)) hC hM 55 (Nat.le_of_ble_eq_true rfl) (eC_55 V) inW8 rfl 2 (by decide) q_326 (fun _ h9 => h9) rfl dX9_wishes_11 ?_
  refine lv_iadd hC.1 hC.2.1 dX9_wishes_14 ?_
  exact hret (o_r1 hf) (o_r2 hf hM) dX9_wishes_15
set_option maxHeartbeats 4000000 in
set_option maxRecDepth 100000 in
theorem mcX9_sways_q55 (V : mV) (l : Launch) (M : mM) (p1 : Int32) (r : Int32) (M' : mM) (hf : fX9_sways_q55 M p1 = some (r, M')) : IC V l yX9_sways cX9_sways 2 ({ frames := 2, cells := 0, slots := 0, locals := 42 } : Room) [.ref (mvA V 55), .int p1] M r M' := by
  unfold fX9_sways_q55 at hf
  refine mw_enterI RX9 rfl (by decide +kernel) (Nat.le_of_ble_eq_true rfl) (fun {p e s m args below meth c} ls A Q hC hret hM hl => ?_)
  have hl : lv_has ls 2 [(0, .ref (mvA V 55)), (1, .int p1)] := hl
  refine lv_aload_n hC.1 hC.2.1 dX9_sways_0 rfl (lv_at hl 0 rfl) ?_
  refine mw_get (v := .ref (mvA V 47)) hC hM 55 (Nat.le_of_ble_eq_true rfl) (eC_55 V) inW8 rfl 0 (by decide) q_309 (fun _ h9 => h9) rfl dX9_sways_1 ?_
  refine lv_bipush hC.1 hC.2.1 dX9_sways_4 cb_11 ?_
  obtain ⟨r1, M3, hq2, hf⟩ := o_b2 hf
  refine mw_cVv (As := [.int 11]) (rest := []) hC hM (mcX10_begins V l M 11 r1 M3 hq2) (mw_kV hC q_1056 q_1043 q_1044 q_108 q_1045 ⟨rfl, rfl⟩ kV_X10_begins ⟨Nat.le_of_ble_eq_true rfl, Nat.le_of_ble_eq_true rfl⟩) (Nat.le_of_ble_eq_true rfl) (eC_47 V) rfl rfl rfl (Nat.le_of_ble_eq_true rfl) hl.1 dX9_sways_6 (fun H locs hM => ?_)
  refine lv_aload_n hC.1 hC.2.1 dX9_sways_9 rfl (lv_at hl 0 rfl) ?_
  refine lv_iload_n hC.1 hC.2.1 dX9_sways_10 rfl (lv_at hl 1 rfl) ?_
  obtain ⟨r4, M6, hq5, hf⟩ := o_b2 hf
  refine mw_cOi (As := [.int p1]) (rest := []) hC hM (mcX9_wishes_q55 V l M3 p1 r4 M6 hq5) (mw_kO (owner := RX9) hC q_1077 q_1036 q_1034 q_1054 q_1034 q_112 q_1055 q_1055 ⟨rfl, rfl⟩ kO_X9_wishes ⟨Nat.le_of_ble_eq_true rfl, Nat.le_of_ble_eq_true rfl⟩) (Nat.le_of_ble_eq_true rfl) (eC_55 V) rfl rfl rfl (Nat.le_of_ble_eq_true rfl) hl.1 dX9_sways_11 (fun H locs hM _ => ?_)
  refine lv_aload_n hC.1 hC.2.1 dX9_sways_14 rfl (lv_at hl 0 rfl) ?_
  refine mw_get (v := .int (M6 55 1)) hC hM 55 (Nat.le_of_ble_eq_true rfl) (eC_55 V) inW8 rfl 1 (by decide) q_322 (fun _ h9 => h9) rfl dX9_sways_15 ?_
  refine lv_isub hC.1 hC.2.1 dX9_sways_18 ?_
  exact hret (o_r1 hf) (o_r2 hf hM) dX9_sways_19
set_option maxHeartbeats 4000000 in
set_option maxRecDepth 100000 in
theorem mcX8_sways_q55 (V : mV) (l : Launch) (M : mM) (p1 : Int32) (r : Int32) (M' : mM) (hf : fX8_sways_q55 M p1 = some (r, M')) : IC V l yX8_sways cX8_sways 2 ({ frames := 3, cells := 0, slots := 0, locals := 63 } : Room) [.ref (mvA V 55), .int p1] M r M' := by
  unfold fX8_sways_q55 at hf
  refine mw_enterI RX8 rfl (by decide +kernel) (Nat.le_of_ble_eq_true rfl) (fun {p e s m args below meth c} ls A Q hC hret hM hl => ?_)
  have hl : lv_has ls 2 [(0, .ref (mvA V 55)), (1, .int p1)] := hl
  refine lv_aload_n hC.1 hC.2.1 dX8_sways_0 rfl (lv_at hl 0 rfl) ?_
  refine mw_get (v := .ref (mvA V 47)) hC hM 55 (Nat.le_of_ble_eq_true rfl) (eC_55 V) inW8 rfl 0 (by decide) q_316 (fun z h9 => u_same (mw_w hC q_317) z h9) rfl dX8_sways_1 ?_
  refine lv_bipush hC.1 hC.2.1 dX8_sways_4 cb_60 ?_
  obtain ⟨r1, M3, hq2, hf⟩ := o_b2 hf
  refine mw_cVv (As := [.int 60]) (rest := []) hC hM (mcX10_begins V l M 60 r1 M3 hq2) (mw_kV hC q_1072 q_1043 q_1044 q_108 q_1045 ⟨rfl, rfl⟩ kV_X10_begins ⟨Nat.le_of_ble_eq_true rfl, Nat.le_of_ble_eq_true rfl⟩) (Nat.le_of_ble_eq_true rfl) (eC_47 V) rfl rfl rfl (Nat.le_of_ble_eq_true rfl) hl.1 dX8_sways_6 (fun H locs hM => ?_)
  refine lv_iconst hC.1 hC.2.1 dX8_sways_9 ci_0 ?_
  refine lv_aload_n hC.1 hC.2.1 dX8_sways_10 rfl (lv_at hl 0 rfl) ?_
  refine lv_iload_n hC.1 hC.2.1 dX8_sways_11 rfl (lv_at hl 1 rfl) ?_
  obtain ⟨r4, M6, hq5, hf⟩ := o_b2 hf
  refine mw_cXi (As := [.int p1]) (rest := [.int 0]) hC hM (mcX9_sways_q55 V l M3 p1 r4 M6 hq5) q_1073 q_1074 q_386 q_376 q_1058 q_112 q_1076 kU_X9_sways ⟨Nat.le_of_ble_eq_true rfl, Nat.le_of_ble_eq_true rfl⟩ ⟨rfl, rfl⟩ rfl (Nat.le_of_ble_eq_true rfl) (eC_55 V) rfl rfl rfl (Nat.le_of_ble_eq_true rfl) hl.1 dX8_sways_12 (fun H locs hM _ => ?_)
  refine lv_isub hC.1 hC.2.1 dX8_sways_15 ?_
  exact hret (o_r1 hf) (o_r2 hf hM) dX8_sways_16
set_option maxHeartbeats 4000000 in
set_option maxRecDepth 100000 in
theorem mcX9_tells_q55 (V : mV) (l : Launch) (M : mM) (p1 : Int32) (r : Int32) (M' : mM) (hf : fX9_tells_q55 M p1 = some (r, M')) : IC V l yX9_tells cX9_tells 2 ({ frames := 4, cells := 0, slots := 0, locals := 84 } : Room) [.ref (mvA V 55), .int p1] M r M' := by
  unfold fX9_tells_q55 at hf
  refine mw_enterI RX9 rfl (by decide +kernel) (Nat.le_of_ble_eq_true rfl) (fun {p e s m args below meth c} ls A Q hC hret hM hl => ?_)
  have hl : lv_has ls 2 [(0, .ref (mvA V 55)), (1, .int p1)] := hl
  refine lv_aload_n hC.1 hC.2.1 dX9_tells_0 rfl (lv_at hl 0 rfl) ?_
  refine mw_get (v := .ref (mvA V 47)) hC hM 55 (Nat.le_of_ble_eq_true rfl) (eC_55 V) inW8 rfl 0 (by decide) q_309 (fun _ h9 => h9) rfl dX9_tells_1 ?_
  refine lv_bipush hC.1 hC.2.1 dX9_tells_4 cb_13 ?_
  obtain ⟨r1, M3, hq2, hf⟩ := o_b2 hf
  refine mw_cVv (As := [.int 13]) (rest := []) hC hM (mcX10_begins V l M 13 r1 M3 hq2) (mw_kV hC q_1056 q_1043 q_1044 q_108 q_1045 ⟨rfl, rfl⟩ kV_X10_begins ⟨Nat.le_of_ble_eq_true rfl, Nat.le_of_ble_eq_true rfl⟩) (Nat.le_of_ble_eq_true rfl) (eC_47 V) rfl rfl rfl (Nat.le_of_ble_eq_true rfl) hl.1 dX9_tells_6 (fun H locs hM => ?_)
  refine lv_aload_n hC.1 hC.2.1 dX9_tells_9 rfl (lv_at hl 0 rfl) ?_
  refine lv_iload_n hC.1 hC.2.1 dX9_tells_10 rfl (lv_at hl 1 rfl) ?_
  obtain ⟨r4, M6, hq5, hf⟩ := o_b2 hf
  refine mw_cOi (As := [.int p1]) (rest := []) hC hM (mcX8_sways_q55 V l M3 p1 r4 M6 hq5) (mw_kO (owner := RX9) hC q_1117 q_1060 q_1058 q_1069 q_1070 q_117 q_1071 q_1076 ⟨rfl, rfl⟩ kO_X9_sways ⟨Nat.le_of_ble_eq_true rfl, Nat.le_of_ble_eq_true rfl⟩) (Nat.le_of_ble_eq_true rfl) (eC_55 V) rfl rfl rfl (Nat.le_of_ble_eq_true rfl) hl.1 dX9_tells_11 (fun H locs hM _ => ?_)
  refine lv_aload_n hC.1 hC.2.1 dX9_tells_14 rfl (lv_at hl 0 rfl) ?_
  refine mw_get (v := .int (M6 55 2)) hC hM 55 (Nat.le_of_ble_eq_true rfl) (eC_55 V) inW8 rfl 2 (by decide) q_326 (fun _ h9 => h9) rfl dX9_tells_15 ?_
  refine lv_ixor hC.1 hC.2.1 dX9_tells_18 ?_
  exact hret (o_r1 hf) (o_r2 hf hM) dX9_tells_19
set_option maxHeartbeats 4000000 in
set_option maxRecDepth 100000 in
theorem mcX9_shares_q55 (V : mV) (l : Launch) (M : mM) (p1 : Int32) (r : Int32) (M' : mM) (hf : fX9_shares_q55 M p1 = some (r, M')) : IC V l yX9_shares cX9_shares 3 ({ frames := 1, cells := 0, slots := 0, locals := 21 } : Room) [.ref (mvA V 55), .int p1] M r M' := by
  unfold fX9_shares_q55 at hf
  refine mw_enterI RX9 rfl (by decide +kernel) (Nat.le_of_ble_eq_true rfl) (fun {p e s m args below meth c} ls A Q hC hret hM hl => ?_)
  have hl : lv_has ls 3 [(0, .ref (mvA V 55)), (1, .int p1)] := hl
  refine lv_aload_n hC.1 hC.2.1 dX9_shares_0 rfl (lv_at hl 0 rfl) ?_
  refine mw_get (v := .ref (mvA V 47)) hC hM 55 (Nat.le_of_ble_eq_true rfl) (eC_55 V) inW8 rfl 0 (by decide) q_309 (fun _ h9 => h9) rfl dX9_shares_1 ?_
  refine lv_bipush hC.1 hC.2.1 dX9_shares_4 cb_12 ?_
  obtain ⟨r1, M3, hq2, hf⟩ := o_b2 hf
  refine mw_cVv (As := [.int 12]) (rest := []) hC hM (mcX10_begins V l M 12 r1 M3 hq2) (mw_kV hC q_1056 q_1043 q_1044 q_108 q_1045 ⟨rfl, rfl⟩ kV_X10_begins ⟨Nat.le_of_ble_eq_true rfl, Nat.le_of_ble_eq_true rfl⟩) (Nat.le_of_ble_eq_true rfl) (eC_47 V) rfl rfl rfl (Nat.le_of_ble_eq_true rfl) hl.1 dX9_shares_6 (fun H locs hM => ?_)
  refine lv_aload_n hC.1 hC.2.1 dX9_shares_9 rfl (lv_at hl 0 rfl) ?_
  refine mw_get (v := .int (M3 55 2)) hC hM 55 (Nat.le_of_ble_eq_true rfl) (eC_55 V) inW8 rfl 2 (by decide) q_326 (fun _ h9 => h9) rfl dX9_shares_10 ?_
  refine lv_aload_n hC.1 hC.2.1 dX9_shares_13 rfl (lv_at hl 0 rfl) ?_
  refine mw_get (v := .int (M3 55 1)) hC hM 55 (Nat.le_of_ble_eq_true rfl) (eC_55 V) inW8 rfl 1 (by decide) q_322 (fun _ h9 => h9) rfl dX9_shares_14 ?_
  refine lv_isub hC.1 hC.2.1 dX9_shares_17 ?_
  refine lv_istore_n (lv' := [(2, .int ((M3 55 2) - (M3 55 1))), (0, .ref (mvA V 55)), (1, .int p1)]) hC.1 hC.2.1 dX9_shares_18 rfl hl (Nat.le_of_ble_eq_true rfl) rfl (fun ls hl => ?_)
  refine lv_iload_n hC.1 hC.2.1 dX9_shares_19 rfl (lv_at hl 0 rfl) ?_
  refine lv_if_ne (tgt := 33) hC.1 hC.2.1 dX9_shares_20 (by decide) (fun hc5 => ?_) (fun hc5 => ?_)
  · have hf := o_f hc5 hf
    refine lv_iload_n hC.1 hC.2.1 dX9_shares_33 rfl (lv_at hl 2 rfl) ?_
    refine lv_iload_n hC.1 hC.2.1 dX9_shares_34 rfl (lv_at hl 0 rfl) ?_
    obtain ⟨hg4, hf⟩ := o_g hf
    refine lv_idiv hC.1 hC.2.1 dX9_shares_35 (nz_ne hg4) ?_
    exact hret (o_r1 hf) (o_r2 hf hM) dX9_shares_36
  · have hf := o_t hc5 hf
    refine lv_aload_n hC.1 hC.2.1 dX9_shares_23 rfl (lv_at hl 1 rfl) ?_
    refine mw_get (v := .ref (mvA V 47)) hC hM 55 (Nat.le_of_ble_eq_true rfl) (eC_55 V) inW8 rfl 0 (by decide) q_309 (fun _ h9 => h9) rfl dX9_shares_24 ?_
    refine lv_iconst hC.1 hC.2.1 dX9_shares_27 ci_1 ?_
    refine mw_put hC hM 47 (Nat.le_of_ble_eq_true rfl) (eC_47 V) inW10 tyX10 tyX10_ok nmX10 rfl 1 (by decide) q_145 (fun _ h9 => h9) rfl (nar_b (Or.inr rfl)) (fit_b (Or.inr rfl)) (Nat.le_of_ble_eq_true rfl) rfl dX9_shares_28 (fun H locs hM => ?_)
    refine lv_iconst hC.1 hC.2.1 dX9_shares_31 ci_0 ?_
    exact hret (o_r1 hf) (o_r2 hf hM) dX9_shares_32
set_option maxHeartbeats 4000000 in
set_option maxRecDepth 100000 in
theorem mcX0_shares_q55 (V : mV) (l : Launch) (M : mM) (p1 : Int32) (r : Int32) (M' : mM) (hf : fX0_shares_q55 M p1 = some (r, M')) : IC V l yX0_shares cX0_shares 2 ({ frames := 2, cells := 0, slots := 0, locals := 43 } : Room) [.ref (mvA V 55), .int p1] M r M' := by
  unfold fX0_shares_q55 at hf
  refine mw_enterI RX0 rfl (by decide +kernel) (Nat.le_of_ble_eq_true rfl) (fun {p e s m args below meth c} ls A Q hC hret hM hl => ?_)
  have hl : lv_has ls 2 [(0, .ref (mvA V 55)), (1, .int p1)] := hl
  refine lv_aload_n hC.1 hC.2.1 dX0_shares_0 rfl (lv_at hl 0 rfl) ?_
  refine mw_get (v := .ref (mvA V 47)) hC hM 55 (Nat.le_of_ble_eq_true rfl) (eC_55 V) inW8 rfl 0 (by decide) q_318 (fun z h9 => u_same (mw_w hC q_319) z h9) rfl dX0_shares_1 ?_
  refine lv_bipush hC.1 hC.2.1 dX0_shares_4 cb_40 ?_
  obtain ⟨r1, M3, hq2, hf⟩ := o_b2 hf
  refine mw_cVv (As := [.int 40]) (rest := []) hC hM (mcX10_begins V l M 40 r1 M3 hq2) (mw_kV hC q_1085 q_1043 q_1044 q_108 q_1045 ⟨rfl, rfl⟩ kV_X10_begins ⟨Nat.le_of_ble_eq_true rfl, Nat.le_of_ble_eq_true rfl⟩) (Nat.le_of_ble_eq_true rfl) (eC_47 V) rfl rfl rfl (Nat.le_of_ble_eq_true rfl) hl.1 dX0_shares_6 (fun H locs hM => ?_)
  refine lv_aload_n hC.1 hC.2.1 dX0_shares_9 rfl (lv_at hl 0 rfl) ?_
  refine lv_iload_n hC.1 hC.2.1 dX0_shares_10 rfl (lv_at hl 1 rfl) ?_
  refine lv_iconst hC.1 hC.2.1 dX0_shares_11 ci_3 ?_
  refine lv_isub hC.1 hC.2.1 dX0_shares_12 ?_
  obtain ⟨r4, M6, hq5, hf⟩ := o_b2 hf
  refine mw_cUi (As := [.int (p1 - 3)]) (rest := []) hC hM (mcX9_shares_q55 V l M3 (p1 - 3) r4 M6 hq5) (mw_kU hC q_1086 q_1081 q_376 q_1079 q_112 q_1097 ⟨rfl, rfl⟩ kU_X9_shares ⟨Nat.le_of_ble_eq_true rfl, Nat.le_of_ble_eq_true rfl⟩) (Nat.le_of_ble_eq_true rfl) (eC_55 V) rfl rfl rfl (Nat.le_of_ble_eq_true rfl) hl.1 dX0_shares_13 (fun H locs hM _ => ?_)
  exact hret (o_r1 hf) (o_r2 hf hM) dX0_shares_16
set_option maxHeartbeats 4000000 in
set_option maxRecDepth 100000 in
theorem mcX8_shares_q55 (V : mV) (l : Launch) (M : mM) (p1 : Int32) (r : Int32) (M' : mM) (hf : fX8_shares_q55 M p1 = some (r, M')) : IC V l yX8_shares cX8_shares 3 ({ frames := 3, cells := 0, slots := 0, locals := 64 } : Room) [.ref (mvA V 55), .int p1] M r M' := by
  unfold fX8_shares_q55 at hf
  refine mw_enterI RX8 rfl (by decide +kernel) (Nat.le_of_ble_eq_true rfl) (fun {p e s m args below meth c} ls A Q hC hret hM hl => ?_)
  have hl : lv_has ls 3 [(0, .ref (mvA V 55)), (1, .int p1)] := hl
  refine lv_aload_n hC.1 hC.2.1 dX8_shares_0 rfl (lv_at hl 0 rfl) ?_
  refine mw_get (v := .ref (mvA V 47)) hC hM 55 (Nat.le_of_ble_eq_true rfl) (eC_55 V) inW8 rfl 0 (by decide) q_316 (fun z h9 => u_same (mw_w hC q_317) z h9) rfl dX8_shares_1 ?_
  refine lv_bipush hC.1 hC.2.1 dX8_shares_4 cb_61 ?_
  obtain ⟨r1, M3, hq2, hf⟩ := o_b2 hf
  refine mw_cVv (As := [.int 61]) (rest := []) hC hM (mcX10_begins V l M 61 r1 M3 hq2) (mw_kV hC q_1072 q_1043 q_1044 q_108 q_1045 ⟨rfl, rfl⟩ kV_X10_begins ⟨Nat.le_of_ble_eq_true rfl, Nat.le_of_ble_eq_true rfl⟩) (Nat.le_of_ble_eq_true rfl) (eC_47 V) rfl rfl rfl (Nat.le_of_ble_eq_true rfl) hl.1 dX8_shares_6 (fun H locs hM => ?_)
  refine lv_aload_n hC.1 hC.2.1 dX8_shares_9 rfl (lv_at hl 0 rfl) ?_
  refine lv_iload_n hC.1 hC.2.1 dX8_shares_10 rfl (lv_at hl 1 rfl) ?_
  obtain ⟨r4, M6, hq5, hf⟩ := o_b2 hf
  refine mw_cUi (As := [.int p1]) (rest := []) hC hM (mcX0_shares_q55 V l M3 p1 r4 M6 hq5) (mw_kU hC q_1093 q_1777 q_386 q_1083 q_116 q_1084 ⟨rfl, rfl⟩ kU_X0_shares ⟨Nat.le_of_ble_eq_true rfl, Nat.le_of_ble_eq_true rfl⟩) (Nat.le_of_ble_eq_true rfl) (eC_55 V) rfl rfl rfl (Nat.le_of_ble_eq_true rfl) hl.1 dX8_shares_11 (fun H locs hM _ => ?_)
  refine lv_istore_n (lv' := [(2, .int r4), (0, .ref (mvA V 55)), (1, .int p1)]) hC.1 hC.2.1 dX8_shares_14 rfl hl (Nat.le_of_ble_eq_true rfl) rfl (fun ls hl => ?_)
  refine lv_aload_n hC.1 hC.2.1 dX8_shares_15 rfl (lv_at hl 1 rfl) ?_
  refine mw_get (v := .ref (mvA V 47)) hC hM 55 (Nat.le_of_ble_eq_true rfl) (eC_55 V) inW8 rfl 0 (by decide) q_316 (fun z h9 => u_same (mw_w hC q_317) z h9) rfl dX8_shares_16 ?_
  refine mw_get (v := .int (M6 47 1)) hC hM 47 (Nat.le_of_ble_eq_true rfl) (eC_47 V) inW10 rfl 1 (by decide) q_144 (fun _ h9 => h9) rfl dX8_shares_19 ?_
  refine lv_if_eq (tgt := 29) hC.1 hC.2.1 dX8_shares_22 (by decide) (fun hc10 => ?_) (fun hc10 => ?_)
  · have hf := o_t hc10 hf
    refine lv_iload_n hC.1 hC.2.1 dX8_shares_29 rfl (lv_at hl 0 rfl) ?_
    refine lv_aload_n hC.1 hC.2.1 dX8_shares_30 rfl (lv_at hl 1 rfl) ?_
    refine lv_aload_n hC.1 hC.2.1 dX8_shares_31 rfl (lv_at hl 1 rfl) ?_
    refine mw_get (v := .int (M6 55 1)) hC hM 55 (Nat.le_of_ble_eq_true rfl) (eC_55 V) inW8 rfl 1 (by decide) q_323 (fun z h9 => u_same (mw_w hC q_324) z h9) rfl dX8_shares_32 ?_
    obtain ⟨r7, M9, hq8, hf⟩ := o_b2 hf
    refine mw_cOi (As := [.int (M6 55 1)]) (rest := [.int r4]) hC hM (mcX9_wishes_q55 V l M6 (M6 55 1) r7 M9 hq8) (mw_kO (owner := RX9) hC q_1094 q_1095 q_1034 q_1096 q_1034 q_112 q_1055 q_1055 ⟨rfl, rfl⟩ kO_X9_wishes ⟨Nat.le_of_ble_eq_true rfl, Nat.le_of_ble_eq_true rfl⟩) (Nat.le_of_ble_eq_true rfl) (eC_55 V) rfl rfl rfl (Nat.le_of_ble_eq_true rfl) hl.1 dX8_shares_35 (fun H locs hM _ => ?_)
    refine lv_isub hC.1 hC.2.1 dX8_shares_38 ?_
    exact hret (o_r1 hf) (o_r2 hf hM) dX8_shares_39
  · have hf := o_f hc10 hf
    refine lv_iconst hC.1 hC.2.1 dX8_shares_25 ci_0 ?_
    refine lv_goto (tgt := 39) hC.1 hC.2.1 dX8_shares_26 (by decide) ?_
    exact hret (o_r1 hf) (o_r2 hf hM) dX8_shares_39
set_option maxHeartbeats 4000000 in
set_option maxRecDepth 100000 in
theorem mcX11_act (V : mV) (l : Launch) (M : mM) (p1 : Int32) (p2 : Int32) (p3 : Int32) (r : Int32) (M' : mM) (hf : fX11_act M p1 p2 p3 = some (r, M')) : IC V l yX11_act cX11_act 7 ({ frames := 7, cells := 0, slots := 0, locals := 147 } : Room) [.ref (mvA V 0), .int p1, .int p2, .int p3] M r M' := by
  unfold fX11_act at hf
  refine mw_enterI RX11 rfl (by decide +kernel) (Nat.le_of_ble_eq_true rfl) (fun {p e s m args below meth c} ls A Q hC hret hM hl => ?_)
  have hl : lv_has ls 7 [(0, .ref (mvA V 0)), (1, .int p1), (2, .int p2), (3, .int p3)] := hl
  have hL129 : ∀ (M : mM) (t0 : Int32) (H : Heap) (locs : List Loc) (ls : Array Slot), fX11_act_L129 M t0 = some (r, M') → PC V M A s H locs → lv_has ls 7 [(0, .ref (mvA V 0))] → W p l e ({ frames := 7, cells := 0, slots := 0, locals := 147 } : Room) s m args below meth c H locs 0 0 Q (F0 m 129 ls [.int t0]) := by
    intro M t0 H locs ls hf hM hl
    unfold fX11_act_L129 at hf
    refine lv_istore (lv' := [(6, .int t0), (0, .ref (mvA V 0))]) hC.1 hC.2.1 dX11_act_129 hl (Nat.le_of_ble_eq_true rfl) rfl (fun ls hl => ?_)
    refine lv_aload_n hC.1 hC.2.1 dX11_act_131 rfl (lv_at hl 1 rfl) ?_
    refine mw_get (v := .ref (mvA V 47)) hC hM 0 (Nat.le_of_ble_eq_true rfl) (eC_0 V) inW11 rfl 4 (by decide) q_428 (fun _ h9 => h9) rfl dX11_act_132 ?_
    refine mw_get (v := .int (M 47 1)) hC hM 47 (Nat.le_of_ble_eq_true rfl) (eC_47 V) inW10 rfl 1 (by decide) q_146 (fun _ h9 => h9) rfl dX11_act_135 ?_
    refine lv_if_eq (tgt := 146) hC.1 hC.2.1 dX11_act_138 (by decide) (fun hc111 => ?_) (fun hc111 => ?_)
    · have hf := o_t hc111 hf
      refine lv_iload hC.1 hC.2.1 dX11_act_146 (lv_at hl 0 rfl) ?_
      exact hret (o_r1 hf) (o_r2 hf hM) dX11_act_148
    · have hf := o_f hc111 hf
      refine lv_bipush hC.1 hC.2.1 dX11_act_141 cb_m15 ?_
      refine lv_goto (tgt := 148) hC.1 hC.2.1 dX11_act_143 (by decide) ?_
      exact hret (o_r1 hf) (o_r2 hf hM) dX11_act_148
  refine lv_aload_n hC.1 hC.2.1 dX11_act_0 rfl (lv_at hl 0 rfl) ?_
  refine mw_get (v := .ref (mvA V 47)) hC hM 0 (Nat.le_of_ble_eq_true rfl) (eC_0 V) inW11 rfl 4 (by decide) q_428 (fun _ h9 => h9) rfl dX11_act_1 ?_
  refine lv_iconst hC.1 hC.2.1 dX11_act_4 ci_0 ?_
  refine mw_put hC hM 47 (Nat.le_of_ble_eq_true rfl) (eC_47 V) inW10 tyX10 tyX10_ok nmX10 rfl 0 (by decide) q_143 (fun _ h9 => h9) rfl rfl rfl (Nat.le_of_ble_eq_true rfl) rfl dX11_act_5 (fun H locs hM => ?_)
  refine lv_aload_n hC.1 hC.2.1 dX11_act_8 rfl (lv_at hl 0 rfl) ?_
  refine mw_get (v := .ref (mvA V 47)) hC hM 0 (Nat.le_of_ble_eq_true rfl) (eC_0 V) inW11 rfl 4 (by decide) q_428 (fun _ h9 => h9) rfl dX11_act_9 ?_
  refine lv_iconst hC.1 hC.2.1 dX11_act_12 ci_0 ?_
  refine mw_put hC hM 47 (Nat.le_of_ble_eq_true rfl) (eC_47 V) inW10 tyX10 tyX10_ok nmX10 rfl 1 (by decide) q_146 (fun _ h9 => h9) rfl (nar_b (Or.inl rfl)) (fit_b (Or.inl rfl)) (Nat.le_of_ble_eq_true rfl) rfl dX11_act_13 (fun H locs hM => ?_)
  refine lv_aload_n hC.1 hC.2.1 dX11_act_16 rfl (lv_at hl 0 rfl) ?_
  refine lv_iload_n hC.1 hC.2.1 dX11_act_17 rfl (lv_at hl 1 rfl) ?_
  obtain ⟨r1, hq2, hf⟩ := o_b hf
  refine mw_cVi (As := [.int p1]) (rest := []) hC hM (mcX11_voterOn V l (wr (wr M 47 0 0) 47 1 0) p1 r1 hq2) (mw_kV hC q_1024 q_1026 q_43 q_107 q_1027 ⟨rfl, rfl⟩ kV_X11_voterOn ⟨Nat.le_of_ble_eq_true rfl, Nat.le_of_ble_eq_true rfl⟩) (Nat.le_of_ble_eq_true rfl) (eC_0 V) rfl rfl rfl (Nat.le_of_ble_eq_true rfl) hl.1 dX11_act_18 (fun H locs hM _ => ?_)
  refine lv_istore (lv' := [(4, .int r1), (0, .ref (mvA V 0)), (1, .int p1), (2, .int p2), (3, .int p3)]) hC.1 hC.2.1 dX11_act_21 hl (Nat.le_of_ble_eq_true rfl) rfl (fun ls hl => ?_)
  refine lv_aload_n hC.1 hC.2.1 dX11_act_23 rfl (lv_at hl 1 rfl) ?_
  refine lv_iload hC.1 hC.2.1 dX11_act_24 (lv_at hl 0 rfl) ?_
  refine mw_cVi (As := [.int r1]) (rest := []) hC hM (mcX11_isVoter V l (wr (wr M 47 0 0) 47 1 0) r1 _ rfl) (mw_kV hC q_481 q_483 q_1 q_107 q_484 ⟨rfl, rfl⟩ kV_X11_isVoter ⟨Nat.le_of_ble_eq_true rfl, Nat.le_of_ble_eq_true rfl⟩) (Nat.le_of_ble_eq_true rfl) (eC_0 V) rfl rfl rfl (Nat.le_of_ble_eq_true rfl) hl.1 dX11_act_26 (fun H locs hM hb3 => ?_)
  refine lv_if_eq (tgt := 41) hC.1 hC.2.1 dX11_act_29 (by decide) (fun hc110 => ?_) (fun hc110 => ?_)
  · have hf := o_t hc110 hf
    refine lv_iconst hC.1 hC.2.1 dX11_act_41 ci_0 ?_
    exact hret (o_r1 hf) (o_r2 hf hM) dX11_act_42
  · have hf := o_f hc110 hf
    refine lv_iload_n hC.1 hC.2.1 dX11_act_32 rfl (lv_at hl 3 rfl) ?_
    refine lv_iconst hC.1 hC.2.1 dX11_act_33 ci_0 ?_
    refine lv_iconst hC.1 hC.2.1 dX11_act_34 ci_3 ?_
    refine mw_cSi (As := [.int p2, .int 0, .int 3]) (rest := []) hC hM (mcX11_isIn V l (wr (wr M 47 0 0) 47 1 0) p2 0 3 _ rfl) (mw_kS hC q_468 q_469 q_107 q_470 ⟨rfl, rfl⟩ kS_X11_isIn ⟨Nat.le_of_ble_eq_true rfl, Nat.le_of_ble_eq_true rfl⟩) rfl rfl (Nat.le_of_ble_eq_true rfl) hl.1 dX11_act_35 (fun H locs hM hb4 => ?_)
    refine lv_if_ne (tgt := 43) hC.1 hC.2.1 dX11_act_38 (by decide) (fun hc109 => ?_) (fun hc109 => ?_)
    · have hf := o_f hc109 hf
      refine lv_aload_n hC.1 hC.2.1 dX11_act_43 rfl (lv_at hl 1 rfl) ?_
      refine mw_get (v := .ref (mvA V 49)) hC hM 0 (Nat.le_of_ble_eq_true rfl) (eC_0 V) inW11 rfl 5 (by decide) q_429 (fun _ h9 => h9) rfl dX11_act_44 ?_
      refine lv_aload_n hC.1 hC.2.1 dX11_act_47 rfl (lv_at hl 1 rfl) ?_
      refine mw_get (v := .ref (mvA V 1)) hC hM 0 (Nat.le_of_ble_eq_true rfl) (eC_0 V) inW11 rfl 0 (by decide) q_424 (fun _ h9 => h9) rfl dX11_act_48 ?_
      refine mw_get (v := .ref (mvA V 2)) hC hM 1 (Nat.le_of_ble_eq_true rfl) (eC_1 V) inW4 rfl 1 (by decide) q_209 (fun _ h9 => h9) rfl dX11_act_51 ?_
      refine lv_iload hC.1 hC.2.1 dX11_act_54 (lv_at hl 0 rfl) ?_
      obtain ⟨hg5, hf⟩ := o_g hf
      refine mw_iald hC hM 2 0 (Nat.le_of_ble_eq_true rfl) (eC_2 V) rfl hg5 dX11_act_56 ?_
      obtain ⟨hg6, hf⟩ := o_g hf
      refine mw_aald hC hM 49 1 (Nat.le_of_ble_eq_true rfl) (eC_49 V) rfl hg6 dX11_act_57 ?_
      by_cases hc23 : ((wr (wr M 47 0 0) 47 1 0) 2 (Int32.toNatClampNeg r1)) = 0
      · have hf := o_t hc23 hf
        refine W.eq (g2 := F0 m 58 ls (.ref (mvA V 50) :: [])) (by rw [hc23]; rfl) ?_
        refine lv_astore (lv' := [(5, .ref (mvA V 50)), (4, .int r1), (0, .ref (mvA V 0)), (1, .int p1), (2, .int p2), (3, .int p3)]) hC.1 hC.2.1 dX11_act_58 hl (Nat.le_of_ble_eq_true rfl) rfl (fun ls hl => ?_)
        refine lv_aload hC.1 hC.2.1 dX11_act_60 (lv_at hl 0 rfl) ?_
        refine lv_iload hC.1 hC.2.1 dX11_act_62 (lv_at hl 1 rfl) ?_
        refine mw_put hC hM 50 (Nat.le_of_ble_eq_true rfl) (eC_50 V) inW9 tyX9 tyX9_ok nmX9 rfl 1 (by decide) q_325 (fun _ h9 => h9) rfl rfl rfl (Nat.le_of_ble_eq_true rfl) rfl dX11_act_64 (fun H locs hM => ?_)
        refine lv_aload hC.1 hC.2.1 dX11_act_67 (lv_at hl 0 rfl) ?_
        refine lv_aload_n hC.1 hC.2.1 dX11_act_69 rfl (lv_at hl 2 rfl) ?_
        refine mw_get (v := .ref (mvA V 1)) hC hM 0 (Nat.le_of_ble_eq_true rfl) (eC_0 V) inW11 rfl 0 (by decide) q_424 (fun _ h9 => h9) rfl dX11_act_70 ?_
        refine mw_get (v := .ref (mvA V 3)) hC hM 1 (Nat.le_of_ble_eq_true rfl) (eC_1 V) inW4 rfl 2 (by decide) q_211 (fun _ h9 => h9) rfl dX11_act_73 ?_
        refine lv_iload hC.1 hC.2.1 dX11_act_76 (lv_at hl 1 rfl) ?_
        obtain ⟨hg7, hf⟩ := o_g hf
        refine mw_iald hC hM 3 0 (Nat.le_of_ble_eq_true rfl) (eC_3 V) rfl hg7 dX11_act_78 ?_
        refine mw_put hC hM 50 (Nat.le_of_ble_eq_true rfl) (eC_50 V) inW9 tyX9 tyX9_ok nmX9 rfl 2 (by decide) q_329 (fun _ h9 => h9) rfl rfl rfl (Nat.le_of_ble_eq_true rfl) rfl dX11_act_79 (fun H locs hM => ?_)
        refine lv_iload_n hC.1 hC.2.1 dX11_act_82 rfl (lv_at hl 4 rfl) ?_
        refine lv_if_ne (tgt := 95) hC.1 hC.2.1 dX11_act_83 (by decide) (fun hc22 => ?_) (fun hc22 => ?_)
        · have hf := o_f hc22 hf
          refine lv_iload_n hC.1 hC.2.1 dX11_act_95 rfl (lv_at hl 4 rfl) ?_
          refine lv_iconst hC.1 hC.2.1 dX11_act_96 ci_1 ?_
          refine lv_icmp_ne (tgt := 109) hC.1 hC.2.1 dX11_act_97 (by decide) (fun hc18 => ?_) (fun hc18 => ?_)
          · have hf := o_f hc18 hf
            refine lv_iload_n hC.1 hC.2.1 dX11_act_109 rfl (lv_at hl 4 rfl) ?_
            refine lv_iconst hC.1 hC.2.1 dX11_act_110 ci_2 ?_
            refine lv_icmp_ne (tgt := 123) hC.1 hC.2.1 dX11_act_111 (by decide) (fun hc14 => ?_) (fun hc14 => ?_)
            · have hf := o_f hc14 hf
              refine lv_aload hC.1 hC.2.1 dX11_act_123 (lv_at hl 0 rfl) ?_
              refine lv_iload_n hC.1 hC.2.1 dX11_act_125 rfl (lv_at hl 5 rfl) ?_
              obtain ⟨r8, M10, hq9, hf⟩ := o_b2 hf
              refine mw_cVi (As := [.int p3]) (rest := []) hC hM (mcX9_tells_q50 V l (wr (wr (wr (wr M 47 0 0) 47 1 0) 50 1 r1) 50 2 ((wr (wr (wr M 47 0 0) 47 1 0) 50 1 r1) 3 (Int32.toNatClampNeg r1))) p3 r8 M10 hq9) (mw_kV hC q_1098 q_1099 q_1100 q_112 q_1116 ⟨rfl, rfl⟩ kV_X9_tells ⟨Nat.le_of_ble_eq_true rfl, Nat.le_of_ble_eq_true rfl⟩) (Nat.le_of_ble_eq_true rfl) (eC_50 V) rfl rfl rfl (Nat.le_of_ble_eq_true rfl) hl.1 dX11_act_126 (fun H locs hM _ => ?_)
              exact hL129 _ _ _ _ _ hf hM (lv_sub hl [2] rfl)
            · have hf := o_t hc14 hf
              refine lv_aload hC.1 hC.2.1 dX11_act_114 (lv_at hl 0 rfl) ?_
              refine lv_iload_n hC.1 hC.2.1 dX11_act_116 rfl (lv_at hl 5 rfl) ?_
              obtain ⟨r11, M13, hq12, hf⟩ := o_b2 hf
              refine mw_cVi (As := [.int p3]) (rest := []) hC hM (mcX9_shares_q50 V l (wr (wr (wr (wr M 47 0 0) 47 1 0) 50 1 r1) 50 2 ((wr (wr (wr M 47 0 0) 47 1 0) 50 1 r1) 3 (Int32.toNatClampNeg r1))) p3 r11 M13 hq12) (mw_kV hC q_1078 q_1079 q_1080 q_112 q_1097 ⟨rfl, rfl⟩ kV_X9_shares ⟨Nat.le_of_ble_eq_true rfl, Nat.le_of_ble_eq_true rfl⟩) (Nat.le_of_ble_eq_true rfl) (eC_50 V) rfl rfl rfl (Nat.le_of_ble_eq_true rfl) hl.1 dX11_act_117 (fun H locs hM _ => ?_)
              refine lv_goto (tgt := 129) hC.1 hC.2.1 dX11_act_120 (by decide) ?_
              exact hL129 _ _ _ _ _ hf hM (lv_sub hl [2] rfl)
          · have hf := o_t hc18 hf
            refine lv_aload hC.1 hC.2.1 dX11_act_100 (lv_at hl 0 rfl) ?_
            refine lv_iload_n hC.1 hC.2.1 dX11_act_102 rfl (lv_at hl 5 rfl) ?_
            obtain ⟨r15, M17, hq16, hf⟩ := o_b2 hf
            refine mw_cVi (As := [.int p3]) (rest := []) hC hM (mcX9_sways_q50 V l (wr (wr (wr (wr M 47 0 0) 47 1 0) 50 1 r1) 50 2 ((wr (wr (wr M 47 0 0) 47 1 0) 50 1 r1) 3 (Int32.toNatClampNeg r1))) p3 r15 M17 hq16) (mw_kV hC q_1057 q_1058 q_1059 q_112 q_1076 ⟨rfl, rfl⟩ kV_X9_sways ⟨Nat.le_of_ble_eq_true rfl, Nat.le_of_ble_eq_true rfl⟩) (Nat.le_of_ble_eq_true rfl) (eC_50 V) rfl rfl rfl (Nat.le_of_ble_eq_true rfl) hl.1 dX11_act_103 (fun H locs hM _ => ?_)
            refine lv_goto (tgt := 129) hC.1 hC.2.1 dX11_act_106 (by decide) ?_
            exact hL129 _ _ _ _ _ hf hM (lv_sub hl [2] rfl)
        · have hf := o_t hc22 hf
          refine lv_aload hC.1 hC.2.1 dX11_act_86 (lv_at hl 0 rfl) ?_
          refine lv_iload_n hC.1 hC.2.1 dX11_act_88 rfl (lv_at hl 5 rfl) ?_
          obtain ⟨r19, M21, hq20, hf⟩ := o_b2 hf
          refine mw_cVi (As := [.int p3]) (rest := []) hC hM (mcX9_wishes_q50 V l (wr (wr (wr (wr M 47 0 0) 47 1 0) 50 1 r1) 50 2 ((wr (wr (wr M 47 0 0) 47 1 0) 50 1 r1) 3 (Int32.toNatClampNeg r1))) p3 r19 M21 hq20) (mw_kV hC q_1033 q_1034 q_1035 q_112 q_1055 ⟨rfl, rfl⟩ kV_X9_wishes ⟨Nat.le_of_ble_eq_true rfl, Nat.le_of_ble_eq_true rfl⟩) (Nat.le_of_ble_eq_true rfl) (eC_50 V) rfl rfl rfl (Nat.le_of_ble_eq_true rfl) hl.1 dX11_act_89 (fun H locs hM _ => ?_)
          refine lv_goto (tgt := 129) hC.1 hC.2.1 dX11_act_92 (by decide) ?_
          exact hL129 _ _ _ _ _ hf hM (lv_sub hl [2] rfl)
      have hf := o_f hc23 hf
      by_cases hc40 : ((wr (wr M 47 0 0) 47 1 0) 2 (Int32.toNatClampNeg r1)) = 1
      · have hf := o_t hc40 hf
        refine W.eq (g2 := F0 m 58 ls (.ref (mvA V 51) :: [])) (by rw [hc40]; rfl) ?_
        refine lv_astore (lv' := [(5, .ref (mvA V 51)), (4, .int r1), (0, .ref (mvA V 0)), (1, .int p1), (2, .int p2), (3, .int p3)]) hC.1 hC.2.1 dX11_act_58 hl (Nat.le_of_ble_eq_true rfl) rfl (fun ls hl => ?_)
        refine lv_aload hC.1 hC.2.1 dX11_act_60 (lv_at hl 0 rfl) ?_
        refine lv_iload hC.1 hC.2.1 dX11_act_62 (lv_at hl 1 rfl) ?_
        refine mw_put hC hM 51 (Nat.le_of_ble_eq_true rfl) (eC_51 V) inW3 tyX3 tyX3_ok nmX3 rfl 1 (by decide) q_325 (fun _ h9 => h9) rfl rfl rfl (Nat.le_of_ble_eq_true rfl) rfl dX11_act_64 (fun H locs hM => ?_)
        refine lv_aload hC.1 hC.2.1 dX11_act_67 (lv_at hl 0 rfl) ?_
        refine lv_aload_n hC.1 hC.2.1 dX11_act_69 rfl (lv_at hl 2 rfl) ?_
        refine mw_get (v := .ref (mvA V 1)) hC hM 0 (Nat.le_of_ble_eq_true rfl) (eC_0 V) inW11 rfl 0 (by decide) q_424 (fun _ h9 => h9) rfl dX11_act_70 ?_
        refine mw_get (v := .ref (mvA V 3)) hC hM 1 (Nat.le_of_ble_eq_true rfl) (eC_1 V) inW4 rfl 2 (by decide) q_211 (fun _ h9 => h9) rfl dX11_act_73 ?_
        refine lv_iload hC.1 hC.2.1 dX11_act_76 (lv_at hl 1 rfl) ?_
        obtain ⟨hg24, hf⟩ := o_g hf
        refine mw_iald hC hM 3 0 (Nat.le_of_ble_eq_true rfl) (eC_3 V) rfl hg24 dX11_act_78 ?_
        refine mw_put hC hM 51 (Nat.le_of_ble_eq_true rfl) (eC_51 V) inW3 tyX3 tyX3_ok nmX3 rfl 2 (by decide) q_329 (fun _ h9 => h9) rfl rfl rfl (Nat.le_of_ble_eq_true rfl) rfl dX11_act_79 (fun H locs hM => ?_)
        refine lv_iload_n hC.1 hC.2.1 dX11_act_82 rfl (lv_at hl 4 rfl) ?_
        refine lv_if_ne (tgt := 95) hC.1 hC.2.1 dX11_act_83 (by decide) (fun hc39 => ?_) (fun hc39 => ?_)
        · have hf := o_f hc39 hf
          refine lv_iload_n hC.1 hC.2.1 dX11_act_95 rfl (lv_at hl 4 rfl) ?_
          refine lv_iconst hC.1 hC.2.1 dX11_act_96 ci_1 ?_
          refine lv_icmp_ne (tgt := 109) hC.1 hC.2.1 dX11_act_97 (by decide) (fun hc35 => ?_) (fun hc35 => ?_)
          · have hf := o_f hc35 hf
            refine lv_iload_n hC.1 hC.2.1 dX11_act_109 rfl (lv_at hl 4 rfl) ?_
            refine lv_iconst hC.1 hC.2.1 dX11_act_110 ci_2 ?_
            refine lv_icmp_ne (tgt := 123) hC.1 hC.2.1 dX11_act_111 (by decide) (fun hc31 => ?_) (fun hc31 => ?_)
            · have hf := o_f hc31 hf
              refine lv_aload hC.1 hC.2.1 dX11_act_123 (lv_at hl 0 rfl) ?_
              refine lv_iload_n hC.1 hC.2.1 dX11_act_125 rfl (lv_at hl 5 rfl) ?_
              obtain ⟨r25, M27, hq26, hf⟩ := o_b2 hf
              refine mw_cOi (As := [.int p3]) (rest := []) hC hM (mcX9_tells_q51 V l (wr (wr (wr (wr M 47 0 0) 47 1 0) 51 1 r1) 51 2 ((wr (wr (wr M 47 0 0) 47 1 0) 51 1 r1) 3 (Int32.toNatClampNeg r1))) p3 r25 M27 hq26) (mw_kO (owner := RX9) hC q_1098 q_1101 q_1099 q_1104 q_1099 q_112 q_1116 q_1116 ⟨rfl, rfl⟩ kO_X9_tells ⟨Nat.le_of_ble_eq_true rfl, Nat.le_of_ble_eq_true rfl⟩) (Nat.le_of_ble_eq_true rfl) (eC_51 V) rfl rfl rfl (Nat.le_of_ble_eq_true rfl) hl.1 dX11_act_126 (fun H locs hM _ => ?_)
              exact hL129 _ _ _ _ _ hf hM (lv_sub hl [2] rfl)
            · have hf := o_t hc31 hf
              refine lv_aload hC.1 hC.2.1 dX11_act_114 (lv_at hl 0 rfl) ?_
              refine lv_iload_n hC.1 hC.2.1 dX11_act_116 rfl (lv_at hl 5 rfl) ?_
              obtain ⟨r28, M30, hq29, hf⟩ := o_b2 hf
              refine mw_cOi (As := [.int p3]) (rest := []) hC hM (mcX9_shares_q51 V l (wr (wr (wr (wr M 47 0 0) 47 1 0) 51 1 r1) 51 2 ((wr (wr (wr M 47 0 0) 47 1 0) 51 1 r1) 3 (Int32.toNatClampNeg r1))) p3 r28 M30 hq29) (mw_kO (owner := RX9) hC q_1078 q_1081 q_1079 q_1088 q_1079 q_112 q_1097 q_1097 ⟨rfl, rfl⟩ kO_X9_shares ⟨Nat.le_of_ble_eq_true rfl, Nat.le_of_ble_eq_true rfl⟩) (Nat.le_of_ble_eq_true rfl) (eC_51 V) rfl rfl rfl (Nat.le_of_ble_eq_true rfl) hl.1 dX11_act_117 (fun H locs hM _ => ?_)
              refine lv_goto (tgt := 129) hC.1 hC.2.1 dX11_act_120 (by decide) ?_
              exact hL129 _ _ _ _ _ hf hM (lv_sub hl [2] rfl)
          · have hf := o_t hc35 hf
            refine lv_aload hC.1 hC.2.1 dX11_act_100 (lv_at hl 0 rfl) ?_
            refine lv_iload_n hC.1 hC.2.1 dX11_act_102 rfl (lv_at hl 5 rfl) ?_
            obtain ⟨r32, M34, hq33, hf⟩ := o_b2 hf
            refine mw_cOi (As := [.int p3]) (rest := []) hC hM (mcX9_sways_q51 V l (wr (wr (wr (wr M 47 0 0) 47 1 0) 51 1 r1) 51 2 ((wr (wr (wr M 47 0 0) 47 1 0) 51 1 r1) 3 (Int32.toNatClampNeg r1))) p3 r32 M34 hq33) (mw_kO (owner := RX9) hC q_1057 q_1060 q_1058 q_1067 q_1058 q_112 q_1076 q_1076 ⟨rfl, rfl⟩ kO_X9_sways ⟨Nat.le_of_ble_eq_true rfl, Nat.le_of_ble_eq_true rfl⟩) (Nat.le_of_ble_eq_true rfl) (eC_51 V) rfl rfl rfl (Nat.le_of_ble_eq_true rfl) hl.1 dX11_act_103 (fun H locs hM _ => ?_)
            refine lv_goto (tgt := 129) hC.1 hC.2.1 dX11_act_106 (by decide) ?_
            exact hL129 _ _ _ _ _ hf hM (lv_sub hl [2] rfl)
        · have hf := o_t hc39 hf
          refine lv_aload hC.1 hC.2.1 dX11_act_86 (lv_at hl 0 rfl) ?_
          refine lv_iload_n hC.1 hC.2.1 dX11_act_88 rfl (lv_at hl 5 rfl) ?_
          obtain ⟨r36, M38, hq37, hf⟩ := o_b2 hf
          refine mw_cOi (As := [.int p3]) (rest := []) hC hM (mcX3_wishes_q51 V l (wr (wr (wr (wr M 47 0 0) 47 1 0) 51 1 r1) 51 2 ((wr (wr (wr M 47 0 0) 47 1 0) 51 1 r1) 3 (Int32.toNatClampNeg r1))) p3 r36 M38 hq37) (mw_kO (owner := RX9) hC q_1033 q_1036 q_1034 q_1039 q_1040 q_113 q_1041 q_1055 ⟨rfl, rfl⟩ kO_X9_wishes ⟨Nat.le_of_ble_eq_true rfl, Nat.le_of_ble_eq_true rfl⟩) (Nat.le_of_ble_eq_true rfl) (eC_51 V) rfl rfl rfl (Nat.le_of_ble_eq_true rfl) hl.1 dX11_act_89 (fun H locs hM _ => ?_)
          refine lv_goto (tgt := 129) hC.1 hC.2.1 dX11_act_92 (by decide) ?_
          exact hL129 _ _ _ _ _ hf hM (lv_sub hl [2] rfl)
      have hf := o_f hc40 hf
      by_cases hc57 : ((wr (wr M 47 0 0) 47 1 0) 2 (Int32.toNatClampNeg r1)) = 2
      · have hf := o_t hc57 hf
        refine W.eq (g2 := F0 m 58 ls (.ref (mvA V 52) :: [])) (by rw [hc57]; rfl) ?_
        refine lv_astore (lv' := [(5, .ref (mvA V 52)), (4, .int r1), (0, .ref (mvA V 0)), (1, .int p1), (2, .int p2), (3, .int p3)]) hC.1 hC.2.1 dX11_act_58 hl (Nat.le_of_ble_eq_true rfl) rfl (fun ls hl => ?_)
        refine lv_aload hC.1 hC.2.1 dX11_act_60 (lv_at hl 0 rfl) ?_
        refine lv_iload hC.1 hC.2.1 dX11_act_62 (lv_at hl 1 rfl) ?_
        refine mw_put hC hM 52 (Nat.le_of_ble_eq_true rfl) (eC_52 V) inW1 tyX1 tyX1_ok nmX1 rfl 1 (by decide) q_325 (fun _ h9 => h9) rfl rfl rfl (Nat.le_of_ble_eq_true rfl) rfl dX11_act_64 (fun H locs hM => ?_)
        refine lv_aload hC.1 hC.2.1 dX11_act_67 (lv_at hl 0 rfl) ?_
        refine lv_aload_n hC.1 hC.2.1 dX11_act_69 rfl (lv_at hl 2 rfl) ?_
        refine mw_get (v := .ref (mvA V 1)) hC hM 0 (Nat.le_of_ble_eq_true rfl) (eC_0 V) inW11 rfl 0 (by decide) q_424 (fun _ h9 => h9) rfl dX11_act_70 ?_
        refine mw_get (v := .ref (mvA V 3)) hC hM 1 (Nat.le_of_ble_eq_true rfl) (eC_1 V) inW4 rfl 2 (by decide) q_211 (fun _ h9 => h9) rfl dX11_act_73 ?_
        refine lv_iload hC.1 hC.2.1 dX11_act_76 (lv_at hl 1 rfl) ?_
        obtain ⟨hg41, hf⟩ := o_g hf
        refine mw_iald hC hM 3 0 (Nat.le_of_ble_eq_true rfl) (eC_3 V) rfl hg41 dX11_act_78 ?_
        refine mw_put hC hM 52 (Nat.le_of_ble_eq_true rfl) (eC_52 V) inW1 tyX1 tyX1_ok nmX1 rfl 2 (by decide) q_329 (fun _ h9 => h9) rfl rfl rfl (Nat.le_of_ble_eq_true rfl) rfl dX11_act_79 (fun H locs hM => ?_)
        refine lv_iload_n hC.1 hC.2.1 dX11_act_82 rfl (lv_at hl 4 rfl) ?_
        refine lv_if_ne (tgt := 95) hC.1 hC.2.1 dX11_act_83 (by decide) (fun hc56 => ?_) (fun hc56 => ?_)
        · have hf := o_f hc56 hf
          refine lv_iload_n hC.1 hC.2.1 dX11_act_95 rfl (lv_at hl 4 rfl) ?_
          refine lv_iconst hC.1 hC.2.1 dX11_act_96 ci_1 ?_
          refine lv_icmp_ne (tgt := 109) hC.1 hC.2.1 dX11_act_97 (by decide) (fun hc52 => ?_) (fun hc52 => ?_)
          · have hf := o_f hc52 hf
            refine lv_iload_n hC.1 hC.2.1 dX11_act_109 rfl (lv_at hl 4 rfl) ?_
            refine lv_iconst hC.1 hC.2.1 dX11_act_110 ci_2 ?_
            refine lv_icmp_ne (tgt := 123) hC.1 hC.2.1 dX11_act_111 (by decide) (fun hc48 => ?_) (fun hc48 => ?_)
            · have hf := o_f hc48 hf
              refine lv_aload hC.1 hC.2.1 dX11_act_123 (lv_at hl 0 rfl) ?_
              refine lv_iload_n hC.1 hC.2.1 dX11_act_125 rfl (lv_at hl 5 rfl) ?_
              obtain ⟨r42, M44, hq43, hf⟩ := o_b2 hf
              refine mw_cOi (As := [.int p3]) (rest := []) hC hM (mcX9_tells_q52 V l (wr (wr (wr (wr M 47 0 0) 47 1 0) 52 1 r1) 52 2 ((wr (wr (wr M 47 0 0) 47 1 0) 52 1 r1) 3 (Int32.toNatClampNeg r1))) p3 r42 M44 hq43) (mw_kO (owner := RX9) hC q_1098 q_1101 q_1099 q_1103 q_1099 q_112 q_1116 q_1116 ⟨rfl, rfl⟩ kO_X9_tells ⟨Nat.le_of_ble_eq_true rfl, Nat.le_of_ble_eq_true rfl⟩) (Nat.le_of_ble_eq_true rfl) (eC_52 V) rfl rfl rfl (Nat.le_of_ble_eq_true rfl) hl.1 dX11_act_126 (fun H locs hM _ => ?_)
              exact hL129 _ _ _ _ _ hf hM (lv_sub hl [2] rfl)
            · have hf := o_t hc48 hf
              refine lv_aload hC.1 hC.2.1 dX11_act_114 (lv_at hl 0 rfl) ?_
              refine lv_iload_n hC.1 hC.2.1 dX11_act_116 rfl (lv_at hl 5 rfl) ?_
              obtain ⟨r45, M47, hq46, hf⟩ := o_b2 hf
              refine mw_cOi (As := [.int p3]) (rest := []) hC hM (mcX9_shares_q52 V l (wr (wr (wr (wr M 47 0 0) 47 1 0) 52 1 r1) 52 2 ((wr (wr (wr M 47 0 0) 47 1 0) 52 1 r1) 3 (Int32.toNatClampNeg r1))) p3 r45 M47 hq46) (mw_kO (owner := RX9) hC q_1078 q_1081 q_1079 q_1087 q_1079 q_112 q_1097 q_1097 ⟨rfl, rfl⟩ kO_X9_shares ⟨Nat.le_of_ble_eq_true rfl, Nat.le_of_ble_eq_true rfl⟩) (Nat.le_of_ble_eq_true rfl) (eC_52 V) rfl rfl rfl (Nat.le_of_ble_eq_true rfl) hl.1 dX11_act_117 (fun H locs hM _ => ?_)
              refine lv_goto (tgt := 129) hC.1 hC.2.1 dX11_act_120 (by decide) ?_
              exact hL129 _ _ _ _ _ hf hM (lv_sub hl [2] rfl)
          · have hf := o_t hc52 hf
            refine lv_aload hC.1 hC.2.1 dX11_act_100 (lv_at hl 0 rfl) ?_
            refine lv_iload_n hC.1 hC.2.1 dX11_act_102 rfl (lv_at hl 5 rfl) ?_
            obtain ⟨r49, M51, hq50, hf⟩ := o_b2 hf
            refine mw_cOi (As := [.int p3]) (rest := []) hC hM (mcX1_sways_q52 V l (wr (wr (wr (wr M 47 0 0) 47 1 0) 52 1 r1) 52 2 ((wr (wr (wr M 47 0 0) 47 1 0) 52 1 r1) 3 (Int32.toNatClampNeg r1))) p3 r49 M51 hq50) (mw_kO (owner := RX9) hC q_1057 q_1060 q_1058 q_1062 q_1063 q_114 q_1064 q_1076 ⟨rfl, rfl⟩ kO_X9_sways ⟨Nat.le_of_ble_eq_true rfl, Nat.le_of_ble_eq_true rfl⟩) (Nat.le_of_ble_eq_true rfl) (eC_52 V) rfl rfl rfl (Nat.le_of_ble_eq_true rfl) hl.1 dX11_act_103 (fun H locs hM _ => ?_)
            refine lv_goto (tgt := 129) hC.1 hC.2.1 dX11_act_106 (by decide) ?_
            exact hL129 _ _ _ _ _ hf hM (lv_sub hl [2] rfl)
        · have hf := o_t hc56 hf
          refine lv_aload hC.1 hC.2.1 dX11_act_86 (lv_at hl 0 rfl) ?_
          refine lv_iload_n hC.1 hC.2.1 dX11_act_88 rfl (lv_at hl 5 rfl) ?_
          obtain ⟨r53, M55, hq54, hf⟩ := o_b2 hf
          refine mw_cOi (As := [.int p3]) (rest := []) hC hM (mcX9_wishes_q52 V l (wr (wr (wr (wr M 47 0 0) 47 1 0) 52 1 r1) 52 2 ((wr (wr (wr M 47 0 0) 47 1 0) 52 1 r1) 3 (Int32.toNatClampNeg r1))) p3 r53 M55 hq54) (mw_kO (owner := RX9) hC q_1033 q_1036 q_1034 q_1038 q_1034 q_112 q_1055 q_1055 ⟨rfl, rfl⟩ kO_X9_wishes ⟨Nat.le_of_ble_eq_true rfl, Nat.le_of_ble_eq_true rfl⟩) (Nat.le_of_ble_eq_true rfl) (eC_52 V) rfl rfl rfl (Nat.le_of_ble_eq_true rfl) hl.1 dX11_act_89 (fun H locs hM _ => ?_)
          refine lv_goto (tgt := 129) hC.1 hC.2.1 dX11_act_92 (by decide) ?_
          exact hL129 _ _ _ _ _ hf hM (lv_sub hl [2] rfl)
      have hf := o_f hc57 hf
      by_cases hc74 : ((wr (wr M 47 0 0) 47 1 0) 2 (Int32.toNatClampNeg r1)) = 3
      · have hf := o_t hc74 hf
        refine W.eq (g2 := F0 m 58 ls (.ref (mvA V 53) :: [])) (by rw [hc74]; rfl) ?_
        refine lv_astore (lv' := [(5, .ref (mvA V 53)), (4, .int r1), (0, .ref (mvA V 0)), (1, .int p1), (2, .int p2), (3, .int p3)]) hC.1 hC.2.1 dX11_act_58 hl (Nat.le_of_ble_eq_true rfl) rfl (fun ls hl => ?_)
        refine lv_aload hC.1 hC.2.1 dX11_act_60 (lv_at hl 0 rfl) ?_
        refine lv_iload hC.1 hC.2.1 dX11_act_62 (lv_at hl 1 rfl) ?_
        refine mw_put hC hM 53 (Nat.le_of_ble_eq_true rfl) (eC_53 V) inW7 tyX7 tyX7_ok nmX7 rfl 1 (by decide) q_325 (fun _ h9 => h9) rfl rfl rfl (Nat.le_of_ble_eq_true rfl) rfl dX11_act_64 (fun H locs hM => ?_)
        refine lv_aload hC.1 hC.2.1 dX11_act_67 (lv_at hl 0 rfl) ?_
        refine lv_aload_n hC.1 hC.2.1 dX11_act_69 rfl (lv_at hl 2 rfl) ?_
        refine mw_get (v := .ref (mvA V 1)) hC hM 0 (Nat.le_of_ble_eq_true rfl) (eC_0 V) inW11 rfl 0 (by decide) q_424 (fun _ h9 => h9) rfl dX11_act_70 ?_
        refine mw_get (v := .ref (mvA V 3)) hC hM 1 (Nat.le_of_ble_eq_true rfl) (eC_1 V) inW4 rfl 2 (by decide) q_211 (fun _ h9 => h9) rfl dX11_act_73 ?_
        refine lv_iload hC.1 hC.2.1 dX11_act_76 (lv_at hl 1 rfl) ?_
        obtain ⟨hg58, hf⟩ := o_g hf
        refine mw_iald hC hM 3 0 (Nat.le_of_ble_eq_true rfl) (eC_3 V) rfl hg58 dX11_act_78 ?_
        refine mw_put hC hM 53 (Nat.le_of_ble_eq_true rfl) (eC_53 V) inW7 tyX7 tyX7_ok nmX7 rfl 2 (by decide) q_329 (fun _ h9 => h9) rfl rfl rfl (Nat.le_of_ble_eq_true rfl) rfl dX11_act_79 (fun H locs hM => ?_)
        refine lv_iload_n hC.1 hC.2.1 dX11_act_82 rfl (lv_at hl 4 rfl) ?_
        refine lv_if_ne (tgt := 95) hC.1 hC.2.1 dX11_act_83 (by decide) (fun hc73 => ?_) (fun hc73 => ?_)
        · have hf := o_f hc73 hf
          refine lv_iload_n hC.1 hC.2.1 dX11_act_95 rfl (lv_at hl 4 rfl) ?_
          refine lv_iconst hC.1 hC.2.1 dX11_act_96 ci_1 ?_
          refine lv_icmp_ne (tgt := 109) hC.1 hC.2.1 dX11_act_97 (by decide) (fun hc69 => ?_) (fun hc69 => ?_)
          · have hf := o_f hc69 hf
            refine lv_iload_n hC.1 hC.2.1 dX11_act_109 rfl (lv_at hl 4 rfl) ?_
            refine lv_iconst hC.1 hC.2.1 dX11_act_110 ci_2 ?_
            refine lv_icmp_ne (tgt := 123) hC.1 hC.2.1 dX11_act_111 (by decide) (fun hc65 => ?_) (fun hc65 => ?_)
            · have hf := o_f hc65 hf
              refine lv_aload hC.1 hC.2.1 dX11_act_123 (lv_at hl 0 rfl) ?_
              refine lv_iload_n hC.1 hC.2.1 dX11_act_125 rfl (lv_at hl 5 rfl) ?_
              obtain ⟨r59, M61, hq60, hf⟩ := o_b2 hf
              refine mw_cOi (As := [.int p3]) (rest := []) hC hM (mcX7_tells_q53 V l (wr (wr (wr (wr M 47 0 0) 47 1 0) 53 1 r1) 53 2 ((wr (wr (wr M 47 0 0) 47 1 0) 53 1 r1) 3 (Int32.toNatClampNeg r1))) p3 r59 M61 hq60) (mw_kO (owner := RX9) hC q_1098 q_1101 q_1099 q_1105 q_1106 q_115 q_1107 q_1116 ⟨rfl, rfl⟩ kO_X9_tells ⟨Nat.le_of_ble_eq_true rfl, Nat.le_of_ble_eq_true rfl⟩) (Nat.le_of_ble_eq_true rfl) (eC_53 V) rfl rfl rfl (Nat.le_of_ble_eq_true rfl) hl.1 dX11_act_126 (fun H locs hM _ => ?_)
              exact hL129 _ _ _ _ _ hf hM (lv_sub hl [2] rfl)
            · have hf := o_t hc65 hf
              refine lv_aload hC.1 hC.2.1 dX11_act_114 (lv_at hl 0 rfl) ?_
              refine lv_iload_n hC.1 hC.2.1 dX11_act_116 rfl (lv_at hl 5 rfl) ?_
              obtain ⟨r62, M64, hq63, hf⟩ := o_b2 hf
              refine mw_cOi (As := [.int p3]) (rest := []) hC hM (mcX9_shares_q53 V l (wr (wr (wr (wr M 47 0 0) 47 1 0) 53 1 r1) 53 2 ((wr (wr (wr M 47 0 0) 47 1 0) 53 1 r1) 3 (Int32.toNatClampNeg r1))) p3 r62 M64 hq63) (mw_kO (owner := RX9) hC q_1078 q_1081 q_1079 q_1089 q_1079 q_112 q_1097 q_1097 ⟨rfl, rfl⟩ kO_X9_shares ⟨Nat.le_of_ble_eq_true rfl, Nat.le_of_ble_eq_true rfl⟩) (Nat.le_of_ble_eq_true rfl) (eC_53 V) rfl rfl rfl (Nat.le_of_ble_eq_true rfl) hl.1 dX11_act_117 (fun H locs hM _ => ?_)
              refine lv_goto (tgt := 129) hC.1 hC.2.1 dX11_act_120 (by decide) ?_
              exact hL129 _ _ _ _ _ hf hM (lv_sub hl [2] rfl)
          · have hf := o_t hc69 hf
            refine lv_aload hC.1 hC.2.1 dX11_act_100 (lv_at hl 0 rfl) ?_
            refine lv_iload_n hC.1 hC.2.1 dX11_act_102 rfl (lv_at hl 5 rfl) ?_
            obtain ⟨r66, M68, hq67, hf⟩ := o_b2 hf
            refine mw_cOi (As := [.int p3]) (rest := []) hC hM (mcX1_sways_q53 V l (wr (wr (wr (wr M 47 0 0) 47 1 0) 53 1 r1) 53 2 ((wr (wr (wr M 47 0 0) 47 1 0) 53 1 r1) 3 (Int32.toNatClampNeg r1))) p3 r66 M68 hq67) (mw_kO (owner := RX9) hC q_1057 q_1060 q_1058 q_1068 q_1063 q_114 q_1064 q_1076 ⟨rfl, rfl⟩ kO_X9_sways ⟨Nat.le_of_ble_eq_true rfl, Nat.le_of_ble_eq_true rfl⟩) (Nat.le_of_ble_eq_true rfl) (eC_53 V) rfl rfl rfl (Nat.le_of_ble_eq_true rfl) hl.1 dX11_act_103 (fun H locs hM _ => ?_)
            refine lv_goto (tgt := 129) hC.1 hC.2.1 dX11_act_106 (by decide) ?_
            exact hL129 _ _ _ _ _ hf hM (lv_sub hl [2] rfl)
        · have hf := o_t hc73 hf
          refine lv_aload hC.1 hC.2.1 dX11_act_86 (lv_at hl 0 rfl) ?_
          refine lv_iload_n hC.1 hC.2.1 dX11_act_88 rfl (lv_at hl 5 rfl) ?_
          obtain ⟨r70, M72, hq71, hf⟩ := o_b2 hf
          refine mw_cOi (As := [.int p3]) (rest := []) hC hM (mcX7_wishes_q53 V l (wr (wr (wr (wr M 47 0 0) 47 1 0) 53 1 r1) 53 2 ((wr (wr (wr M 47 0 0) 47 1 0) 53 1 r1) 3 (Int32.toNatClampNeg r1))) p3 r70 M72 hq71) (mw_kO (owner := RX9) hC q_1033 q_1036 q_1034 q_1047 q_1048 q_115 q_1049 q_1055 ⟨rfl, rfl⟩ kO_X9_wishes ⟨Nat.le_of_ble_eq_true rfl, Nat.le_of_ble_eq_true rfl⟩) (Nat.le_of_ble_eq_true rfl) (eC_53 V) rfl rfl rfl (Nat.le_of_ble_eq_true rfl) hl.1 dX11_act_89 (fun H locs hM _ => ?_)
          refine lv_goto (tgt := 129) hC.1 hC.2.1 dX11_act_92 (by decide) ?_
          exact hL129 _ _ _ _ _ hf hM (lv_sub hl [2] rfl)
      have hf := o_f hc74 hf
      by_cases hc91 : ((wr (wr M 47 0 0) 47 1 0) 2 (Int32.toNatClampNeg r1)) = 4
      · have hf := o_t hc91 hf
        refine W.eq (g2 := F0 m 58 ls (.ref (mvA V 54) :: [])) (by rw [hc91]; rfl) ?_
        refine lv_astore (lv' := [(5, .ref (mvA V 54)), (4, .int r1), (0, .ref (mvA V 0)), (1, .int p1), (2, .int p2), (3, .int p3)]) hC.1 hC.2.1 dX11_act_58 hl (Nat.le_of_ble_eq_true rfl) rfl (fun ls hl => ?_)
        refine lv_aload hC.1 hC.2.1 dX11_act_60 (lv_at hl 0 rfl) ?_
        refine lv_iload hC.1 hC.2.1 dX11_act_62 (lv_at hl 1 rfl) ?_
        refine mw_put hC hM 54 (Nat.le_of_ble_eq_true rfl) (eC_54 V) inW0 tyX0 tyX0_ok nmX0 rfl 1 (by decide) q_325 (fun _ h9 => h9) rfl rfl rfl (Nat.le_of_ble_eq_true rfl) rfl dX11_act_64 (fun H locs hM => ?_)
        refine lv_aload hC.1 hC.2.1 dX11_act_67 (lv_at hl 0 rfl) ?_
        refine lv_aload_n hC.1 hC.2.1 dX11_act_69 rfl (lv_at hl 2 rfl) ?_
        refine mw_get (v := .ref (mvA V 1)) hC hM 0 (Nat.le_of_ble_eq_true rfl) (eC_0 V) inW11 rfl 0 (by decide) q_424 (fun _ h9 => h9) rfl dX11_act_70 ?_
        refine mw_get (v := .ref (mvA V 3)) hC hM 1 (Nat.le_of_ble_eq_true rfl) (eC_1 V) inW4 rfl 2 (by decide) q_211 (fun _ h9 => h9) rfl dX11_act_73 ?_
        refine lv_iload hC.1 hC.2.1 dX11_act_76 (lv_at hl 1 rfl) ?_
        obtain ⟨hg75, hf⟩ := o_g hf
        refine mw_iald hC hM 3 0 (Nat.le_of_ble_eq_true rfl) (eC_3 V) rfl hg75 dX11_act_78 ?_
        refine mw_put hC hM 54 (Nat.le_of_ble_eq_true rfl) (eC_54 V) inW0 tyX0 tyX0_ok nmX0 rfl 2 (by decide) q_329 (fun _ h9 => h9) rfl rfl rfl (Nat.le_of_ble_eq_true rfl) rfl dX11_act_79 (fun H locs hM => ?_)
        refine lv_iload_n hC.1 hC.2.1 dX11_act_82 rfl (lv_at hl 4 rfl) ?_
        refine lv_if_ne (tgt := 95) hC.1 hC.2.1 dX11_act_83 (by decide) (fun hc90 => ?_) (fun hc90 => ?_)
        · have hf := o_f hc90 hf
          refine lv_iload_n hC.1 hC.2.1 dX11_act_95 rfl (lv_at hl 4 rfl) ?_
          refine lv_iconst hC.1 hC.2.1 dX11_act_96 ci_1 ?_
          refine lv_icmp_ne (tgt := 109) hC.1 hC.2.1 dX11_act_97 (by decide) (fun hc86 => ?_) (fun hc86 => ?_)
          · have hf := o_f hc86 hf
            refine lv_iload_n hC.1 hC.2.1 dX11_act_109 rfl (lv_at hl 4 rfl) ?_
            refine lv_iconst hC.1 hC.2.1 dX11_act_110 ci_2 ?_
            refine lv_icmp_ne (tgt := 123) hC.1 hC.2.1 dX11_act_111 (by decide) (fun hc82 => ?_) (fun hc82 => ?_)
            · have hf := o_f hc82 hf
              refine lv_aload hC.1 hC.2.1 dX11_act_123 (lv_at hl 0 rfl) ?_
              refine lv_iload_n hC.1 hC.2.1 dX11_act_125 rfl (lv_at hl 5 rfl) ?_
              obtain ⟨r76, M78, hq77, hf⟩ := o_b2 hf
              refine mw_cOi (As := [.int p3]) (rest := []) hC hM (mcX9_tells_q54 V l (wr (wr (wr (wr M 47 0 0) 47 1 0) 54 1 r1) 54 2 ((wr (wr (wr M 47 0 0) 47 1 0) 54 1 r1) 3 (Int32.toNatClampNeg r1))) p3 r76 M78 hq77) (mw_kO (owner := RX9) hC q_1098 q_1101 q_1099 q_1102 q_1099 q_112 q_1116 q_1116 ⟨rfl, rfl⟩ kO_X9_tells ⟨Nat.le_of_ble_eq_true rfl, Nat.le_of_ble_eq_true rfl⟩) (Nat.le_of_ble_eq_true rfl) (eC_54 V) rfl rfl rfl (Nat.le_of_ble_eq_true rfl) hl.1 dX11_act_126 (fun H locs hM _ => ?_)
              exact hL129 _ _ _ _ _ hf hM (lv_sub hl [2] rfl)
            · have hf := o_t hc82 hf
              refine lv_aload hC.1 hC.2.1 dX11_act_114 (lv_at hl 0 rfl) ?_
              refine lv_iload_n hC.1 hC.2.1 dX11_act_116 rfl (lv_at hl 5 rfl) ?_
              obtain ⟨r79, M81, hq80, hf⟩ := o_b2 hf
              refine mw_cOi (As := [.int p3]) (rest := []) hC hM (mcX0_shares_q54 V l (wr (wr (wr (wr M 47 0 0) 47 1 0) 54 1 r1) 54 2 ((wr (wr (wr M 47 0 0) 47 1 0) 54 1 r1) 3 (Int32.toNatClampNeg r1))) p3 r79 M81 hq80) (mw_kO (owner := RX9) hC q_1078 q_1081 q_1079 q_1082 q_1083 q_116 q_1084 q_1097 ⟨rfl, rfl⟩ kO_X9_shares ⟨Nat.le_of_ble_eq_true rfl, Nat.le_of_ble_eq_true rfl⟩) (Nat.le_of_ble_eq_true rfl) (eC_54 V) rfl rfl rfl (Nat.le_of_ble_eq_true rfl) hl.1 dX11_act_117 (fun H locs hM _ => ?_)
              refine lv_goto (tgt := 129) hC.1 hC.2.1 dX11_act_120 (by decide) ?_
              exact hL129 _ _ _ _ _ hf hM (lv_sub hl [2] rfl)
          · have hf := o_t hc86 hf
            refine lv_aload hC.1 hC.2.1 dX11_act_100 (lv_at hl 0 rfl) ?_
            refine lv_iload_n hC.1 hC.2.1 dX11_act_102 rfl (lv_at hl 5 rfl) ?_
            obtain ⟨r83, M85, hq84, hf⟩ := o_b2 hf
            refine mw_cOi (As := [.int p3]) (rest := []) hC hM (mcX9_sways_q54 V l (wr (wr (wr (wr M 47 0 0) 47 1 0) 54 1 r1) 54 2 ((wr (wr (wr M 47 0 0) 47 1 0) 54 1 r1) 3 (Int32.toNatClampNeg r1))) p3 r83 M85 hq84) (mw_kO (owner := RX9) hC q_1057 q_1060 q_1058 q_1061 q_1058 q_112 q_1076 q_1076 ⟨rfl, rfl⟩ kO_X9_sways ⟨Nat.le_of_ble_eq_true rfl, Nat.le_of_ble_eq_true rfl⟩) (Nat.le_of_ble_eq_true rfl) (eC_54 V) rfl rfl rfl (Nat.le_of_ble_eq_true rfl) hl.1 dX11_act_103 (fun H locs hM _ => ?_)
            refine lv_goto (tgt := 129) hC.1 hC.2.1 dX11_act_106 (by decide) ?_
            exact hL129 _ _ _ _ _ hf hM (lv_sub hl [2] rfl)
        · have hf := o_t hc90 hf
          refine lv_aload hC.1 hC.2.1 dX11_act_86 (lv_at hl 0 rfl) ?_
          refine lv_iload_n hC.1 hC.2.1 dX11_act_88 rfl (lv_at hl 5 rfl) ?_
          obtain ⟨r87, M89, hq88, hf⟩ := o_b2 hf
          refine mw_cOi (As := [.int p3]) (rest := []) hC hM (mcX9_wishes_q54 V l (wr (wr (wr (wr M 47 0 0) 47 1 0) 54 1 r1) 54 2 ((wr (wr (wr M 47 0 0) 47 1 0) 54 1 r1) 3 (Int32.toNatClampNeg r1))) p3 r87 M89 hq88) (mw_kO (owner := RX9) hC q_1033 q_1036 q_1034 q_1037 q_1034 q_112 q_1055 q_1055 ⟨rfl, rfl⟩ kO_X9_wishes ⟨Nat.le_of_ble_eq_true rfl, Nat.le_of_ble_eq_true rfl⟩) (Nat.le_of_ble_eq_true rfl) (eC_54 V) rfl rfl rfl (Nat.le_of_ble_eq_true rfl) hl.1 dX11_act_89 (fun H locs hM _ => ?_)
          refine lv_goto (tgt := 129) hC.1 hC.2.1 dX11_act_92 (by decide) ?_
          exact hL129 _ _ _ _ _ hf hM (lv_sub hl [2] rfl)
      have hf := o_f hc91 hf
      have hc108 := th_last hg6 hc23 hc40 hc57 hc74 hc91
      refine W.eq (g2 := F0 m 58 ls (.ref (mvA V 55) :: [])) (by rw [hc108]; rfl) ?_
      refine lv_astore (lv' := [(5, .ref (mvA V 55)), (4, .int r1), (0, .ref (mvA V 0)), (1, .int p1), (2, .int p2), (3, .int p3)]) hC.1 hC.2.1 dX11_act_58 hl (Nat.le_of_ble_eq_true rfl) rfl (fun ls hl => ?_)
      refine lv_aload hC.1 hC.2.1 dX11_act_60 (lv_at hl 0 rfl) ?_
      refine lv_iload hC.1 hC.2.1 dX11_act_62 (lv_at hl 1 rfl) ?_
      refine mw_put hC hM 55 (Nat.le_of_ble_eq_true rfl) (eC_55 V) inW8 tyX8 tyX8_ok nmX8 rfl 1 (by decide) q_325 (fun _ h9 => h9) rfl rfl rfl (Nat.le_of_ble_eq_true rfl) rfl dX11_act_64 (fun H locs hM => ?_)
      refine lv_aload hC.1 hC.2.1 dX11_act_67 (lv_at hl 0 rfl) ?_
      refine lv_aload_n hC.1 hC.2.1 dX11_act_69 rfl (lv_at hl 2 rfl) ?_
      refine mw_get (v := .ref (mvA V 1)) hC hM 0 (Nat.le_of_ble_eq_true rfl) (eC_0 V) inW11 rfl 0 (by decide) q_424 (fun _ h9 => h9) rfl dX11_act_70 ?_
      refine mw_get (v := .ref (mvA V 3)) hC hM 1 (Nat.le_of_ble_eq_true rfl) (eC_1 V) inW4 rfl 2 (by decide) q_211 (fun _ h9 => h9) rfl dX11_act_73 ?_
      refine lv_iload hC.1 hC.2.1 dX11_act_76 (lv_at hl 1 rfl) ?_
      obtain ⟨hg92, hf⟩ := o_g hf
      refine mw_iald hC hM 3 0 (Nat.le_of_ble_eq_true rfl) (eC_3 V) rfl hg92 dX11_act_78 ?_
      refine mw_put hC hM 55 (Nat.le_of_ble_eq_true rfl) (eC_55 V) inW8 tyX8 tyX8_ok nmX8 rfl 2 (by decide) q_329 (fun _ h9 => h9) rfl rfl rfl (Nat.le_of_ble_eq_true rfl) rfl dX11_act_79 (fun H locs hM => ?_)
      refine lv_iload_n hC.1 hC.2.1 dX11_act_82 rfl (lv_at hl 4 rfl) ?_
      refine lv_if_ne (tgt := 95) hC.1 hC.2.1 dX11_act_83 (by decide) (fun hc107 => ?_) (fun hc107 => ?_)
      · have hf := o_f hc107 hf
        refine lv_iload_n hC.1 hC.2.1 dX11_act_95 rfl (lv_at hl 4 rfl) ?_
        refine lv_iconst hC.1 hC.2.1 dX11_act_96 ci_1 ?_
        refine lv_icmp_ne (tgt := 109) hC.1 hC.2.1 dX11_act_97 (by decide) (fun hc103 => ?_) (fun hc103 => ?_)
        · have hf := o_f hc103 hf
          refine lv_iload_n hC.1 hC.2.1 dX11_act_109 rfl (lv_at hl 4 rfl) ?_
          refine lv_iconst hC.1 hC.2.1 dX11_act_110 ci_2 ?_
          refine lv_icmp_ne (tgt := 123) hC.1 hC.2.1 dX11_act_111 (by decide) (fun hc99 => ?_) (fun hc99 => ?_)
          · have hf := o_f hc99 hf
            refine lv_aload hC.1 hC.2.1 dX11_act_123 (lv_at hl 0 rfl) ?_
            refine lv_iload_n hC.1 hC.2.1 dX11_act_125 rfl (lv_at hl 5 rfl) ?_
            obtain ⟨r93, M95, hq94, hf⟩ := o_b2 hf
            refine mw_cOi (As := [.int p3]) (rest := []) hC hM (mcX9_tells_q55 V l (wr (wr (wr (wr M 47 0 0) 47 1 0) 55 1 r1) 55 2 ((wr (wr (wr M 47 0 0) 47 1 0) 55 1 r1) 3 (Int32.toNatClampNeg r1))) p3 r93 M95 hq94) (mw_kO (owner := RX9) hC q_1098 q_1101 q_1099 q_1115 q_1099 q_112 q_1116 q_1116 ⟨rfl, rfl⟩ kO_X9_tells ⟨Nat.le_of_ble_eq_true rfl, Nat.le_of_ble_eq_true rfl⟩) (Nat.le_of_ble_eq_true rfl) (eC_55 V) rfl rfl rfl (Nat.le_of_ble_eq_true rfl) hl.1 dX11_act_126 (fun H locs hM _ => ?_)
            exact hL129 _ _ _ _ _ hf hM (lv_sub hl [2] rfl)
          · have hf := o_t hc99 hf
            refine lv_aload hC.1 hC.2.1 dX11_act_114 (lv_at hl 0 rfl) ?_
            refine lv_iload_n hC.1 hC.2.1 dX11_act_116 rfl (lv_at hl 5 rfl) ?_
            obtain ⟨r96, M98, hq97, hf⟩ := o_b2 hf
            refine mw_cOi (As := [.int p3]) (rest := []) hC hM (mcX8_shares_q55 V l (wr (wr (wr (wr M 47 0 0) 47 1 0) 55 1 r1) 55 2 ((wr (wr (wr M 47 0 0) 47 1 0) 55 1 r1) 3 (Int32.toNatClampNeg r1))) p3 r96 M98 hq97) (mw_kO (owner := RX9) hC q_1078 q_1081 q_1079 q_1090 q_1091 q_117 q_1092 q_1097 ⟨rfl, rfl⟩ kO_X9_shares ⟨Nat.le_of_ble_eq_true rfl, Nat.le_of_ble_eq_true rfl⟩) (Nat.le_of_ble_eq_true rfl) (eC_55 V) rfl rfl rfl (Nat.le_of_ble_eq_true rfl) hl.1 dX11_act_117 (fun H locs hM _ => ?_)
            refine lv_goto (tgt := 129) hC.1 hC.2.1 dX11_act_120 (by decide) ?_
            exact hL129 _ _ _ _ _ hf hM (lv_sub hl [2] rfl)
        · have hf := o_t hc103 hf
          refine lv_aload hC.1 hC.2.1 dX11_act_100 (lv_at hl 0 rfl) ?_
          refine lv_iload_n hC.1 hC.2.1 dX11_act_102 rfl (lv_at hl 5 rfl) ?_
          obtain ⟨r100, M102, hq101, hf⟩ := o_b2 hf
          refine mw_cOi (As := [.int p3]) (rest := []) hC hM (mcX8_sways_q55 V l (wr (wr (wr (wr M 47 0 0) 47 1 0) 55 1 r1) 55 2 ((wr (wr (wr M 47 0 0) 47 1 0) 55 1 r1) 3 (Int32.toNatClampNeg r1))) p3 r100 M102 hq101) (mw_kO (owner := RX9) hC q_1057 q_1060 q_1058 q_1069 q_1070 q_117 q_1071 q_1076 ⟨rfl, rfl⟩ kO_X9_sways ⟨Nat.le_of_ble_eq_true rfl, Nat.le_of_ble_eq_true rfl⟩) (Nat.le_of_ble_eq_true rfl) (eC_55 V) rfl rfl rfl (Nat.le_of_ble_eq_true rfl) hl.1 dX11_act_103 (fun H locs hM _ => ?_)
          refine lv_goto (tgt := 129) hC.1 hC.2.1 dX11_act_106 (by decide) ?_
          exact hL129 _ _ _ _ _ hf hM (lv_sub hl [2] rfl)
      · have hf := o_t hc107 hf
        refine lv_aload hC.1 hC.2.1 dX11_act_86 (lv_at hl 0 rfl) ?_
        refine lv_iload_n hC.1 hC.2.1 dX11_act_88 rfl (lv_at hl 5 rfl) ?_
        obtain ⟨r104, M106, hq105, hf⟩ := o_b2 hf
        refine mw_cOi (As := [.int p3]) (rest := []) hC hM (mcX9_wishes_q55 V l (wr (wr (wr (wr M 47 0 0) 47 1 0) 55 1 r1) 55 2 ((wr (wr (wr M 47 0 0) 47 1 0) 55 1 r1) 3 (Int32.toNatClampNeg r1))) p3 r104 M106 hq105) (mw_kO (owner := RX9) hC q_1033 q_1036 q_1034 q_1054 q_1034 q_112 q_1055 q_1055 ⟨rfl, rfl⟩ kO_X9_wishes ⟨Nat.le_of_ble_eq_true rfl, Nat.le_of_ble_eq_true rfl⟩) (Nat.le_of_ble_eq_true rfl) (eC_55 V) rfl rfl rfl (Nat.le_of_ble_eq_true rfl) hl.1 dX11_act_89 (fun H locs hM _ => ?_)
        refine lv_goto (tgt := 129) hC.1 hC.2.1 dX11_act_92 (by decide) ?_
        exact hL129 _ _ _ _ _ hf hM (lv_sub hl [2] rfl)
    · have hf := o_t hc109 hf
      refine lv_iconst hC.1 hC.2.1 dX11_act_41 ci_0 ?_
      exact hret (o_r1 hf) (o_r2 hf hM) dX11_act_42
set_option maxHeartbeats 4000000 in
set_option maxRecDepth 100000 in
theorem mcX11_trace (V : mV) (l : Launch) (M : mM) (p1 : Int32) (r : Int32) (hf : fX11_trace M p1 = some r) : IC V l yX11_trace cX11_trace 2 ({ frames := 0, cells := 0, slots := 0, locals := 0 } : Room) [.ref (mvA V 0), .int p1] M r M := by
  unfold fX11_trace at hf
  refine mw_enterI RX11 rfl (by decide +kernel) (Nat.le_of_ble_eq_true rfl) (fun {p e s m args below meth c} ls A Q hC hret hM hl => ?_)
  have hl : lv_has ls 2 [(0, .ref (mvA V 0)), (1, .int p1)] := hl
  refine lv_iload_n hC.1 hC.2.1 dX11_trace_0 rfl (lv_at hl 1 rfl) ?_
  refine lv_if_lt (tgt := 27) hC.1 hC.2.1 dX11_trace_1 (by decide) (fun hc3 => ?_) (fun hc3 => ?_)
  · have hf := o_t hc3 hf
    refine lv_bipush hC.1 hC.2.1 dX11_trace_27 cb_m3 ?_
    exact hret (Option.some.inj hf) hM dX11_trace_29
  · have hf := o_f hc3 hf
    refine lv_iload_n hC.1 hC.2.1 dX11_trace_4 rfl (lv_at hl 1 rfl) ?_
    refine lv_aload_n hC.1 hC.2.1 dX11_trace_5 rfl (lv_at hl 0 rfl) ?_
    refine mw_get (v := .ref (mvA V 47)) hC hM 0 (Nat.le_of_ble_eq_true rfl) (eC_0 V) inW11 rfl 4 (by decide) q_428 (fun _ h9 => h9) rfl dX11_trace_6 ?_
    refine mw_get (v := .int (M 47 0)) hC hM 47 (Nat.le_of_ble_eq_true rfl) (eC_47 V) inW10 rfl 0 (by decide) q_143 (fun _ h9 => h9) rfl dX11_trace_9 ?_
    refine lv_icmp_ge (tgt := 27) hC.1 hC.2.1 dX11_trace_12 (by decide) (fun hc2 => ?_) (fun hc2 => ?_)
    · have hf := o_t hc2 hf
      refine lv_bipush hC.1 hC.2.1 dX11_trace_27 cb_m3 ?_
      exact hret (Option.some.inj hf) hM dX11_trace_29
    · have hf := o_f hc2 hf
      refine lv_aload_n hC.1 hC.2.1 dX11_trace_15 rfl (lv_at hl 0 rfl) ?_
      refine mw_get (v := .ref (mvA V 47)) hC hM 0 (Nat.le_of_ble_eq_true rfl) (eC_0 V) inW11 rfl 4 (by decide) q_428 (fun _ h9 => h9) rfl dX11_trace_16 ?_
      refine mw_get (v := .ref (mvA V 48)) hC hM 47 (Nat.le_of_ble_eq_true rfl) (eC_47 V) inW10 rfl 2 (by decide) q_148 (fun _ h9 => h9) rfl dX11_trace_19 ?_
      refine lv_iload_n hC.1 hC.2.1 dX11_trace_22 rfl (lv_at hl 1 rfl) ?_
      obtain ⟨hg1, hf⟩ := o_g hf
      refine mw_iald hC hM 48 0 (Nat.le_of_ble_eq_true rfl) (eC_48 V) rfl hg1 dX11_trace_23 ?_
      refine lv_goto (tgt := 29) hC.1 hC.2.1 dX11_trace_24 (by decide) ?_
      exact hret (Option.some.inj hf) hM dX11_trace_29
set_option maxHeartbeats 4000000 in
set_option maxRecDepth 100000 in
theorem mcX11_many (V : mV) (l : Launch) (M : mM) (p1 : Int32) (r : Int32) (hf : fX11_many M p1 = r) : IC V l yX11_many cX11_many 2 ({ frames := 0, cells := 0, slots := 0, locals := 0 } : Room) [.ref (mvA V 0), .int p1] M r M := by
  unfold fX11_many at hf
  refine mw_enterI RX11 rfl (by decide +kernel) (Nat.le_of_ble_eq_true rfl) (fun {p e s m args below meth c} ls A Q hC hret hM hl => ?_)
  have hl : lv_has ls 2 [(0, .ref (mvA V 0)), (1, .int p1)] := hl
  refine lv_iload_n hC.1 hC.2.1 dX11_many_0 rfl (lv_at hl 1 rfl) ?_
  by_cases hc1 : p1 = 0
  · have hf := o_t hc1 hf
    refine lv_tableIn (off := 43) (tgt := 44) hC.1 hC.2.1 dX11_many_1 (by rw [hc1]; decide) (by rw [hc1]; decide) (by rw [hc1]; rfl) (by decide) ?_
    refine lv_aload_n hC.1 hC.2.1 dX11_many_44 rfl (lv_at hl 0 rfl) ?_
    refine mw_get (v := .ref (mvA V 1)) hC hM 0 (Nat.le_of_ble_eq_true rfl) (eC_0 V) inW11 rfl 0 (by decide) q_424 (fun _ h9 => h9) rfl dX11_many_45 ?_
    refine mw_get (v := .int (M 1 0)) hC hM 1 (Nat.le_of_ble_eq_true rfl) (eC_1 V) inW4 rfl 0 (by decide) q_206 (fun _ h9 => h9) rfl dX11_many_48 ?_
    exact hret hf hM dX11_many_51
  have hf := o_f hc1 hf
  by_cases hc2 : p1 = 1
  · have hf := o_t hc2 hf
    refine lv_tableIn (off := 51) (tgt := 52) hC.1 hC.2.1 dX11_many_1 (by rw [hc2]; decide) (by rw [hc2]; decide) (by rw [hc2]; rfl) (by decide) ?_
    refine lv_aload_n hC.1 hC.2.1 dX11_many_52 rfl (lv_at hl 0 rfl) ?_
    refine mw_get (v := .ref (mvA V 1)) hC hM 0 (Nat.le_of_ble_eq_true rfl) (eC_0 V) inW11 rfl 0 (by decide) q_424 (fun _ h9 => h9) rfl dX11_many_53 ?_
    refine mw_get (v := .ref (mvA V 8)) hC hM 1 (Nat.le_of_ble_eq_true rfl) (eC_1 V) inW4 rfl 14 (by decide) q_235 (fun _ h9 => h9) rfl dX11_many_56 ?_
    refine mw_get (v := .int (M 8 0)) hC hM 8 (Nat.le_of_ble_eq_true rfl) (eC_8 V) inW6 rfl 0 (by decide) q_170 (fun _ h9 => h9) rfl dX11_many_59 ?_
    exact hret hf hM dX11_many_62
  have hf := o_f hc2 hf
  by_cases hc3 : p1 = 2
  · have hf := o_t hc3 hf
    refine lv_tableIn (off := 62) (tgt := 63) hC.1 hC.2.1 dX11_many_1 (by rw [hc3]; decide) (by rw [hc3]; decide) (by rw [hc3]; rfl) (by decide) ?_
    refine lv_aload_n hC.1 hC.2.1 dX11_many_63 rfl (lv_at hl 0 rfl) ?_
    refine mw_get (v := .ref (mvA V 1)) hC hM 0 (Nat.le_of_ble_eq_true rfl) (eC_0 V) inW11 rfl 0 (by decide) q_424 (fun _ h9 => h9) rfl dX11_many_64 ?_
    refine mw_get (v := .int (M 1 7)) hC hM 1 (Nat.le_of_ble_eq_true rfl) (eC_1 V) inW4 rfl 7 (by decide) q_221 (fun _ h9 => h9) rfl dX11_many_67 ?_
    exact hret hf hM dX11_many_70
  have hf := o_f hc3 hf
  by_cases hc4 : p1 = 3
  · have hf := o_t hc4 hf
    refine lv_tableIn (off := 70) (tgt := 71) hC.1 hC.2.1 dX11_many_1 (by rw [hc4]; decide) (by rw [hc4]; decide) (by rw [hc4]; rfl) (by decide) ?_
    refine lv_aload_n hC.1 hC.2.1 dX11_many_71 rfl (lv_at hl 0 rfl) ?_
    refine mw_get (v := .ref (mvA V 1)) hC hM 0 (Nat.le_of_ble_eq_true rfl) (eC_0 V) inW11 rfl 0 (by decide) q_424 (fun _ h9 => h9) rfl dX11_many_72 ?_
    refine mw_get (v := .int (M 1 11)) hC hM 1 (Nat.le_of_ble_eq_true rfl) (eC_1 V) inW4 rfl 11 (by decide) q_229 (fun _ h9 => h9) rfl dX11_many_75 ?_
    exact hret hf hM dX11_many_78
  have hf := o_f hc4 hf
  by_cases hc5 : p1 = 4
  · have hf := o_t hc5 hf
    refine lv_tableIn (off := 78) (tgt := 79) hC.1 hC.2.1 dX11_many_1 (by rw [hc5]; decide) (by rw [hc5]; decide) (by rw [hc5]; rfl) (by decide) ?_
    refine lv_aload_n hC.1 hC.2.1 dX11_many_79 rfl (lv_at hl 0 rfl) ?_
    refine mw_get (v := .int (M 0 12)) hC hM 0 (Nat.le_of_ble_eq_true rfl) (eC_0 V) inW11 rfl 12 (by decide) q_436 (fun _ h9 => h9) rfl dX11_many_80 ?_
    exact hret hf hM dX11_many_83
  have hf := o_f hc5 hf
  by_cases hc6 : p1 = 5
  · have hf := o_t hc6 hf
    refine lv_tableIn (off := 83) (tgt := 84) hC.1 hC.2.1 dX11_many_1 (by rw [hc6]; decide) (by rw [hc6]; decide) (by rw [hc6]; rfl) (by decide) ?_
    refine lv_aload_n hC.1 hC.2.1 dX11_many_84 rfl (lv_at hl 0 rfl) ?_
    refine mw_get (v := .ref (mvA V 33)) hC hM 0 (Nat.le_of_ble_eq_true rfl) (eC_0 V) inW11 rfl 3 (by decide) q_427 (fun _ h9 => h9) rfl dX11_many_85 ?_
    refine mw_get (v := .int (M 33 0)) hC hM 33 (Nat.le_of_ble_eq_true rfl) (eC_33 V) inW5 rfl 0 (by decide) q_276 (fun _ h9 => h9) rfl dX11_many_88 ?_
    exact hret hf hM dX11_many_91
  have hf := o_f hc6 hf
  by_cases hc7 : p1 = 6
  · have hf := o_t hc7 hf
    refine lv_tableIn (off := 91) (tgt := 92) hC.1 hC.2.1 dX11_many_1 (by rw [hc7]; decide) (by rw [hc7]; decide) (by rw [hc7]; rfl) (by decide) ?_
    refine lv_aload_n hC.1 hC.2.1 dX11_many_92 rfl (lv_at hl 0 rfl) ?_
    refine mw_get (v := .ref (mvA V 47)) hC hM 0 (Nat.le_of_ble_eq_true rfl) (eC_0 V) inW11 rfl 4 (by decide) q_428 (fun _ h9 => h9) rfl dX11_many_93 ?_
    refine mw_get (v := .int (M 47 0)) hC hM 47 (Nat.le_of_ble_eq_true rfl) (eC_47 V) inW10 rfl 0 (by decide) q_143 (fun _ h9 => h9) rfl dX11_many_96 ?_
    exact hret hf hM dX11_many_99
  have hf := o_f hc7 hf
  have hc1 := sw_ne (k := 0) (v := 0) rfl hc1
  have hc2 := sw_ne (k := 1) (v := 1) rfl hc2
  have hc3 := sw_ne (k := 2) (v := 2) rfl hc3
  have hc4 := sw_ne (k := 3) (v := 3) rfl hc4
  have hc5 := sw_ne (k := 4) (v := 4) rfl hc5
  have hc6 := sw_ne (k := 5) (v := 5) rfl hc6
  have hc7 := sw_ne (k := 6) (v := 6) rfl hc7
  refine lv_tableOut (tgt := 100) hC.1 hC.2.1 dX11_many_1 (by omega) (by decide) ?_
  refine lv_iconst hC.1 hC.2.1 dX11_many_100 ci_m1 ?_
  exact hret hf hM dX11_many_101
set_option maxHeartbeats 4000000 in
set_option maxRecDepth 100000 in
theorem mcX6_copyFrom_q24_q8 (V : mV) (l : Launch) (M : mM) (r : Int32) (M' : mM) (hf : fX6_copyFrom_q24_q8 M = some (r, M')) : UC V l yX6_copyFrom cX6_copyFrom 2 ({ frames := 1, cells := 0, slots := 0, locals := 40 } : Room) [.ref (mvA V 24), .ref (mvA V 8)] M M' := by
  unfold fX6_copyFrom_q24_q8 at hf
  refine mw_enterV RX6 rfl (by decide +kernel) (Nat.le_of_ble_eq_true rfl) (fun {p e s m args below meth c} ls A Q hC hret hM hl => ?_)
  have hl : lv_has ls 2 [(0, .ref (mvA V 24)), (1, .ref (mvA V 8))] := hl
  refine lv_aload_n hC.1 hC.2.1 dX6_copyFrom_0 rfl (lv_at hl 0 rfl) ?_
  refine lv_aload_n hC.1 hC.2.1 dX6_copyFrom_1 rfl (lv_at hl 1 rfl) ?_
  refine mw_get (v := .int (M 8 0)) hC hM 8 (Nat.le_of_ble_eq_true rfl) (eC_8 V) inW6 rfl 0 (by decide) q_169 (fun _ h9 => h9) rfl dX6_copyFrom_2 ?_
  refine mw_put hC hM 24 (Nat.le_of_ble_eq_true rfl) (eC_24 V) inW6 tyX6 tyX6_ok nmX6 rfl 0 (by decide) q_169 (fun _ h9 => h9) rfl rfl rfl (Nat.le_of_ble_eq_true rfl) rfl dX6_copyFrom_5 (fun H locs hM => ?_)
  refine lv_aload_n hC.1 hC.2.1 dX6_copyFrom_8 rfl (lv_at hl 1 rfl) ?_
  refine mw_get (v := .ref (mvA V 9)) hC hM 8 (Nat.le_of_ble_eq_true rfl) (eC_8 V) inW6 rfl 1 (by decide) q_171 (fun _ h9 => h9) rfl dX6_copyFrom_9 ?_
  refine lv_iconst hC.1 hC.2.1 dX6_copyFrom_12 ci_0 ?_
  refine lv_aload_n hC.1 hC.2.1 dX6_copyFrom_13 rfl (lv_at hl 0 rfl) ?_
  refine mw_get (v := .ref (mvA V 25)) hC hM 24 (Nat.le_of_ble_eq_true rfl) (eC_24 V) inW6 rfl 1 (by decide) q_171 (fun _ h9 => h9) rfl dX6_copyFrom_14 ?_
  refine lv_iconst hC.1 hC.2.1 dX6_copyFrom_17 ci_0 ?_
  refine lv_bipush hC.1 hC.2.1 dX6_copyFrom_18 cb_8 ?_
  obtain ⟨hg1, hf⟩ := o_g hf
  refine mw_copy (rest := []) hC hM 9 25 0 (Nat.le_of_ble_eq_true rfl) (Nat.le_of_ble_eq_true rfl) (eC_9 V) (eC_25 V) rfl hg1 hl.1 q_720 q_722 q_721 q_127 (Nat.le_of_ble_eq_true rfl) (Nat.le_of_ble_eq_true rfl) dX6_copyFrom_20 (fun H locs hM => ?_)
  refine lv_aload_n hC.1 hC.2.1 dX6_copyFrom_23 rfl (lv_at hl 1 rfl) ?_
  refine mw_get (v := .ref (mvA V 10)) hC hM 8 (Nat.le_of_ble_eq_true rfl) (eC_8 V) inW6 rfl 2 (by decide) q_172 (fun _ h9 => h9) rfl dX6_copyFrom_24 ?_
  refine lv_iconst hC.1 hC.2.1 dX6_copyFrom_27 ci_0 ?_
  refine lv_aload_n hC.1 hC.2.1 dX6_copyFrom_28 rfl (lv_at hl 0 rfl) ?_
  refine mw_get (v := .ref (mvA V 26)) hC hM 24 (Nat.le_of_ble_eq_true rfl) (eC_24 V) inW6 rfl 2 (by decide) q_172 (fun _ h9 => h9) rfl dX6_copyFrom_29 ?_
  refine lv_iconst hC.1 hC.2.1 dX6_copyFrom_32 ci_0 ?_
  refine lv_bipush hC.1 hC.2.1 dX6_copyFrom_33 cb_8 ?_
  obtain ⟨hg2, hf⟩ := o_g hf
  refine mw_copy (rest := []) hC hM 10 26 0 (Nat.le_of_ble_eq_true rfl) (Nat.le_of_ble_eq_true rfl) (eC_10 V) (eC_26 V) rfl hg2 hl.1 q_720 q_722 q_721 q_127 (Nat.le_of_ble_eq_true rfl) (Nat.le_of_ble_eq_true rfl) dX6_copyFrom_35 (fun H locs hM => ?_)
  refine lv_aload_n hC.1 hC.2.1 dX6_copyFrom_38 rfl (lv_at hl 1 rfl) ?_
  refine mw_get (v := .ref (mvA V 11)) hC hM 8 (Nat.le_of_ble_eq_true rfl) (eC_8 V) inW6 rfl 3 (by decide) q_173 (fun _ h9 => h9) rfl dX6_copyFrom_39 ?_
  refine lv_iconst hC.1 hC.2.1 dX6_copyFrom_42 ci_0 ?_
  refine lv_aload_n hC.1 hC.2.1 dX6_copyFrom_43 rfl (lv_at hl 0 rfl) ?_
  refine mw_get (v := .ref (mvA V 27)) hC hM 24 (Nat.le_of_ble_eq_true rfl) (eC_24 V) inW6 rfl 3 (by decide) q_173 (fun _ h9 => h9) rfl dX6_copyFrom_44 ?_
  refine lv_iconst hC.1 hC.2.1 dX6_copyFrom_47 ci_0 ?_
  refine lv_bipush hC.1 hC.2.1 dX6_copyFrom_48 cb_8 ?_
  obtain ⟨hg3, hf⟩ := o_g hf
  refine mw_copy (rest := []) hC hM 11 27 0 (Nat.le_of_ble_eq_true rfl) (Nat.le_of_ble_eq_true rfl) (eC_11 V) (eC_27 V) rfl hg3 hl.1 q_720 q_722 q_721 q_127 (Nat.le_of_ble_eq_true rfl) (Nat.le_of_ble_eq_true rfl) dX6_copyFrom_50 (fun H locs hM => ?_)
  refine lv_aload_n hC.1 hC.2.1 dX6_copyFrom_53 rfl (lv_at hl 1 rfl) ?_
  refine mw_get (v := .ref (mvA V 12)) hC hM 8 (Nat.le_of_ble_eq_true rfl) (eC_8 V) inW6 rfl 4 (by decide) q_174 (fun _ h9 => h9) rfl dX6_copyFrom_54 ?_
  refine lv_iconst hC.1 hC.2.1 dX6_copyFrom_57 ci_0 ?_
  refine lv_aload_n hC.1 hC.2.1 dX6_copyFrom_58 rfl (lv_at hl 0 rfl) ?_
  refine mw_get (v := .ref (mvA V 28)) hC hM 24 (Nat.le_of_ble_eq_true rfl) (eC_24 V) inW6 rfl 4 (by decide) q_174 (fun _ h9 => h9) rfl dX6_copyFrom_59 ?_
  refine lv_iconst hC.1 hC.2.1 dX6_copyFrom_62 ci_0 ?_
  refine lv_bipush hC.1 hC.2.1 dX6_copyFrom_63 cb_8 ?_
  obtain ⟨hg4, hf⟩ := o_g hf
  refine mw_copy (rest := []) hC hM 12 28 0 (Nat.le_of_ble_eq_true rfl) (Nat.le_of_ble_eq_true rfl) (eC_12 V) (eC_28 V) rfl hg4 hl.1 q_720 q_722 q_721 q_127 (Nat.le_of_ble_eq_true rfl) (Nat.le_of_ble_eq_true rfl) dX6_copyFrom_65 (fun H locs hM => ?_)
  refine lv_aload_n hC.1 hC.2.1 dX6_copyFrom_68 rfl (lv_at hl 0 rfl) ?_
  refine lv_aload_n hC.1 hC.2.1 dX6_copyFrom_69 rfl (lv_at hl 1 rfl) ?_
  refine mw_get (v := .int ((cpy (cpy (cpy (cpy (wr M 24 0 (M 8 0)) 9 25 0 0 8) 10 26 0 0 8) 11 27 0 0 8) 12 28 0 0 8) 8 5)) hC hM 8 (Nat.le_of_ble_eq_true rfl) (eC_8 V) inW6 rfl 5 (by decide) q_175 (fun _ h9 => h9) rfl dX6_copyFrom_70 ?_
  refine mw_put hC hM 24 (Nat.le_of_ble_eq_true rfl) (eC_24 V) inW6 tyX6 tyX6_ok nmX6 rfl 5 (by decide) q_175 (fun _ h9 => h9) rfl rfl rfl (Nat.le_of_ble_eq_true rfl) rfl dX6_copyFrom_73 (fun H locs hM => ?_)
  refine lv_aload_n hC.1 hC.2.1 dX6_copyFrom_76 rfl (lv_at hl 1 rfl) ?_
  refine mw_get (v := .ref (mvA V 13)) hC hM 8 (Nat.le_of_ble_eq_true rfl) (eC_8 V) inW6 rfl 6 (by decide) q_176 (fun _ h9 => h9) rfl dX6_copyFrom_77 ?_
  refine lv_iconst hC.1 hC.2.1 dX6_copyFrom_80 ci_0 ?_
  refine lv_aload_n hC.1 hC.2.1 dX6_copyFrom_81 rfl (lv_at hl 0 rfl) ?_
  refine mw_get (v := .ref (mvA V 29)) hC hM 24 (Nat.le_of_ble_eq_true rfl) (eC_24 V) inW6 rfl 6 (by decide) q_176 (fun _ h9 => h9) rfl dX6_copyFrom_82 ?_
  refine lv_iconst hC.1 hC.2.1 dX6_copyFrom_85 ci_0 ?_
  refine lv_aload_n hC.1 hC.2.1 dX6_copyFrom_86 rfl (lv_at hl 0 rfl) ?_
  refine mw_get (v := .int ((wr (cpy (cpy (cpy (cpy (wr M 24 0 (M 8 0)) 9 25 0 0 8) 10 26 0 0 8) 11 27 0 0 8) 12 28 0 0 8) 24 5 ((cpy (cpy (cpy (cpy (wr M 24 0 (M 8 0)) 9 25 0 0 8) 10 26 0 0 8) 11 27 0 0 8) 12 28 0 0 8) 8 5)) 24 5)) hC hM 24 (Nat.le_of_ble_eq_true rfl) (eC_24 V) inW6 rfl 5 (by decide) q_175 (fun _ h9 => h9) rfl dX6_copyFrom_87 ?_
  obtain ⟨hg5, hf⟩ := o_g hf
  refine mw_copy (rest := []) hC hM 13 29 0 (Nat.le_of_ble_eq_true rfl) (Nat.le_of_ble_eq_true rfl) (eC_13 V) (eC_29 V) rfl hg5 hl.1 q_720 q_722 q_721 q_127 (Nat.le_of_ble_eq_true rfl) (Nat.le_of_ble_eq_true rfl) dX6_copyFrom_90 (fun H locs hM => ?_)
  refine lv_aload_n hC.1 hC.2.1 dX6_copyFrom_93 rfl (lv_at hl 1 rfl) ?_
  refine mw_get (v := .ref (mvA V 14)) hC hM 8 (Nat.le_of_ble_eq_true rfl) (eC_8 V) inW6 rfl 7 (by decide) q_177 (fun _ h9 => h9) rfl dX6_copyFrom_94 ?_
  refine lv_iconst hC.1 hC.2.1 dX6_copyFrom_97 ci_0 ?_
  refine lv_aload_n hC.1 hC.2.1 dX6_copyFrom_98 rfl (lv_at hl 0 rfl) ?_
  refine mw_get (v := .ref (mvA V 30)) hC hM 24 (Nat.le_of_ble_eq_true rfl) (eC_24 V) inW6 rfl 7 (by decide) q_177 (fun _ h9 => h9) rfl dX6_copyFrom_99 ?_
  refine lv_iconst hC.1 hC.2.1 dX6_copyFrom_102 ci_0 ?_
  refine lv_aload_n hC.1 hC.2.1 dX6_copyFrom_103 rfl (lv_at hl 0 rfl) ?_
  refine mw_get (v := .int ((cpy (wr (cpy (cpy (cpy (cpy (wr M 24 0 (M 8 0)) 9 25 0 0 8) 10 26 0 0 8) 11 27 0 0 8) 12 28 0 0 8) 24 5 ((cpy (cpy (cpy (cpy (wr M 24 0 (M 8 0)) 9 25 0 0 8) 10 26 0 0 8) 11 27 0 0 8) 12 28 0 0 8) 8 5)) 13 29 0 0 ((wr (cpy (cpy (cpy (cpy (wr M 24 0 (M 8 0)) 9 25 0 0 8) 10 26 0 0 8) 11 27 0 0 8) 12 28 0 0 8) 24 5 ((cpy (cpy (cpy (cpy (wr M 24 0 (M 8 0)) 9 25 0 0 8) 10 26 0 0 8) 11 27 0 0 8) 12 28 0 0 8) 8 5)) 24 5)) 24 5)) hC hM 24 (Nat.le_of_ble_eq_true rfl) (eC_24 V) inW6 rfl 5 (by decide) q_175 (fun _ h9 => h9) rfl dX6_copyFrom_104 ?_
  obtain ⟨hg6, hf⟩ := o_g hf
  refine mw_copy (rest := []) hC hM 14 30 0 (Nat.le_of_ble_eq_true rfl) (Nat.le_of_ble_eq_true rfl) (eC_14 V) (eC_30 V) rfl hg6 hl.1 q_720 q_722 q_721 q_127 (Nat.le_of_ble_eq_true rfl) (Nat.le_of_ble_eq_true rfl) dX6_copyFrom_107 (fun H locs hM => ?_)
  refine lv_aload_n hC.1 hC.2.1 dX6_copyFrom_110 rfl (lv_at hl 1 rfl) ?_
  refine mw_get (v := .ref (mvA V 15)) hC hM 8 (Nat.le_of_ble_eq_true rfl) (eC_8 V) inW6 rfl 8 (by decide) q_178 (fun _ h9 => h9) rfl dX6_copyFrom_111 ?_
  refine lv_iconst hC.1 hC.2.1 dX6_copyFrom_114 ci_0 ?_
  refine lv_aload_n hC.1 hC.2.1 dX6_copyFrom_115 rfl (lv_at hl 0 rfl) ?_
  refine mw_get (v := .ref (mvA V 31)) hC hM 24 (Nat.le_of_ble_eq_true rfl) (eC_24 V) inW6 rfl 8 (by decide) q_178 (fun _ h9 => h9) rfl dX6_copyFrom_116 ?_
  refine lv_iconst hC.1 hC.2.1 dX6_copyFrom_119 ci_0 ?_
  refine lv_aload_n hC.1 hC.2.1 dX6_copyFrom_120 rfl (lv_at hl 0 rfl) ?_
  refine mw_get (v := .int ((cpy (cpy (wr (cpy (cpy (cpy (cpy (wr M 24 0 (M 8 0)) 9 25 0 0 8) 10 26 0 0 8) 11 27 0 0 8) 12 28 0 0 8) 24 5 ((cpy (cpy (cpy (cpy (wr M 24 0 (M 8 0)) 9 25 0 0 8) 10 26 0 0 8) 11 27 0 0 8) 12 28 0 0 8) 8 5)) 13 29 0 0 ((wr (cpy (cpy (cpy (cpy (wr M 24 0 (M 8 0)) 9 25 0 0 8) 10 26 0 0 8) 11 27 0 0 8) 12 28 0 0 8) 24 5 ((cpy (cpy (cpy (cpy (wr M 24 0 (M 8 0)) 9 25 0 0 8) 10 26 0 0 8) 11 27 0 0 8) 12 28 0 0 8) 8 5)) 24 5)) 14 30 0 0 ((cpy (wr (cpy (cpy (cpy (cpy (wr M 24 0 (M 8 0)) 9 25 0 0 8) 10 26 0 0 8) 11 27 0 0 8) 12 28 0 0 8) 24 5 ((cpy (cpy (cpy (cpy (wr M 24 0 (M 8 0)) 9 25 0 0 8) 10 26 0 0 8) 11 27 0 0 8) 12 28 0 0 8) 8 5)) 13 29 0 0 ((wr (cpy (cpy (cpy (cpy (wr M 24 0 (M 8 0)) 9 25 0 0 8) 10 26 0 0 8) 11 27 0 0 8) 12 28 0 0 8) 24 5 ((cpy (cpy (cpy (cpy (wr M 24 0 (M 8 0)) 9 25 0 0 8) 10 26 0 0 8) 11 27 0 0 8) 12 28 0 0 8) 8 5)) 24 5)) 24 5)) 24 5)) hC hM 24 (Nat.le_of_ble_eq_true rfl) (eC_24 V) inW6 rfl 5 (by decide) q_175 (fun _ h9 => h9) rfl dX6_copyFrom_121 ?_
  obtain ⟨hg7, hf⟩ := o_g hf
  refine mw_copy (rest := []) hC hM 15 31 0 (Nat.le_of_ble_eq_true rfl) (Nat.le_of_ble_eq_true rfl) (eC_15 V) (eC_31 V) rfl hg7 hl.1 q_720 q_722 q_721 q_127 (Nat.le_of_ble_eq_true rfl) (Nat.le_of_ble_eq_true rfl) dX6_copyFrom_124 (fun H locs hM => ?_)
  refine lv_aload_n hC.1 hC.2.1 dX6_copyFrom_127 rfl (lv_at hl 0 rfl) ?_
  refine lv_aload_n hC.1 hC.2.1 dX6_copyFrom_128 rfl (lv_at hl 1 rfl) ?_
  refine mw_get (v := .int ((cpy (cpy (cpy (wr (cpy (cpy (cpy (cpy (wr M 24 0 (M 8 0)) 9 25 0 0 8) 10 26 0 0 8) 11 27 0 0 8) 12 28 0 0 8) 24 5 ((cpy (cpy (cpy (cpy (wr M 24 0 (M 8 0)) 9 25 0 0 8) 10 26 0 0 8) 11 27 0 0 8) 12 28 0 0 8) 8 5)) 13 29 0 0 ((wr (cpy (cpy (cpy (cpy (wr M 24 0 (M 8 0)) 9 25 0 0 8) 10 26 0 0 8) 11 27 0 0 8) 12 28 0 0 8) 24 5 ((cpy (cpy (cpy (cpy (wr M 24 0 (M 8 0)) 9 25 0 0 8) 10 26 0 0 8) 11 27 0 0 8) 12 28 0 0 8) 8 5)) 24 5)) 14 30 0 0 ((cpy (wr (cpy (cpy (cpy (cpy (wr M 24 0 (M 8 0)) 9 25 0 0 8) 10 26 0 0 8) 11 27 0 0 8) 12 28 0 0 8) 24 5 ((cpy (cpy (cpy (cpy (wr M 24 0 (M 8 0)) 9 25 0 0 8) 10 26 0 0 8) 11 27 0 0 8) 12 28 0 0 8) 8 5)) 13 29 0 0 ((wr (cpy (cpy (cpy (cpy (wr M 24 0 (M 8 0)) 9 25 0 0 8) 10 26 0 0 8) 11 27 0 0 8) 12 28 0 0 8) 24 5 ((cpy (cpy (cpy (cpy (wr M 24 0 (M 8 0)) 9 25 0 0 8) 10 26 0 0 8) 11 27 0 0 8) 12 28 0 0 8) 8 5)) 24 5)) 24 5)) 15 31 0 0 ((cpy (cpy (wr (cpy (cpy (cpy (cpy (wr M 24 0 (M 8 0)) 9 25 0 0 8) 10 26 0 0 8) 11 27 0 0 8) 12 28 0 0 8) 24 5 ((cpy (cpy (cpy (cpy (wr M 24 0 (M 8 0)) 9 25 0 0 8) 10 26 0 0 8) 11 27 0 0 8) 12 28 0 0 8) 8 5)) 13 29 0 0 ((wr (cpy (cpy (cpy (cpy (wr M 24 0 (M 8 0)) 9 25 0 0 8) 10 26 0 0 8) 11 27 0 0 8) 12 28 0 0 8) 24 5 ((cpy (cpy (cpy (cpy (wr M 24 0 (M 8 0)) 9 25 0 0 8) 10 26 0 0 8) 11 27 0 0 8) 12 28 0 0 8) 8 5)) 24 5)) 14 30 0 0 ((cpy (wr (cpy (cpy (cpy (cpy (wr M 24 0 (M 8 0)) 9 25 0 0 8) 10 26 0 0 8) 11 27 0 0 8) 12 28 0 0 8) 24 5 ((cpy (cpy (cpy (cpy (wr M 24 0 (M 8 0)) 9 25 0 0 8) 10 26 0 0 8) 11 27 0 0 8) 12 28 0 0 8) 8 5)) 13 29 0 0 ((wr (cpy (cpy (cpy (cpy (wr M 24 0 (M 8 0)) 9 25 0 0 8) 10 26 0 0 8) 11 27 0 0 8) 12 28 0 0 8) 24 5 ((cpy (cpy (cpy (cpy (wr M 24 0 (M 8 0)) 9 25 0 0 8) 10 26 0 0 8) 11 27 0 0 8) 12 28 0 0 8) 8 5)) 24 5)) 24 5)) 24 5)) 8 9)) hC hM 8 (Nat.le_of_ble_eq_true rfl) (eC_8 V) inW6 rfl 9 (by decide) q_179 (fun _ h9 => h9) rfl dX6_copyFrom_129 ?_
  refine mw_put hC hM 24 (Nat.le_of_ble_eq_true rfl) (eC_24 V) inW6 tyX6 tyX6_ok nmX6 rfl 9 (by decide) q_179 (fun _ h9 => h9) rfl rfl rfl (Nat.le_of_ble_eq_true rfl) rfl dX6_copyFrom_132 (fun H locs hM => ?_)
  refine lv_aload_n hC.1 hC.2.1 dX6_copyFrom_135 rfl (lv_at hl 1 rfl) ?_
  refine mw_get (v := .ref (mvA V 16)) hC hM 8 (Nat.le_of_ble_eq_true rfl) (eC_8 V) inW6 rfl 10 (by decide) q_180 (fun _ h9 => h9) rfl dX6_copyFrom_136 ?_
  refine lv_iconst hC.1 hC.2.1 dX6_copyFrom_139 ci_0 ?_
  refine lv_aload_n hC.1 hC.2.1 dX6_copyFrom_140 rfl (lv_at hl 0 rfl) ?_
  refine mw_get (v := .ref (mvA V 32)) hC hM 24 (Nat.le_of_ble_eq_true rfl) (eC_24 V) inW6 rfl 10 (by decide) q_180 (fun _ h9 => h9) rfl dX6_copyFrom_141 ?_
  refine lv_iconst hC.1 hC.2.1 dX6_copyFrom_144 ci_0 ?_
  refine lv_aload_n hC.1 hC.2.1 dX6_copyFrom_145 rfl (lv_at hl 0 rfl) ?_
  refine mw_get (v := .int ((wr (cpy (cpy (cpy (wr (cpy (cpy (cpy (cpy (wr M 24 0 (M 8 0)) 9 25 0 0 8) 10 26 0 0 8) 11 27 0 0 8) 12 28 0 0 8) 24 5 ((cpy (cpy (cpy (cpy (wr M 24 0 (M 8 0)) 9 25 0 0 8) 10 26 0 0 8) 11 27 0 0 8) 12 28 0 0 8) 8 5)) 13 29 0 0 ((wr (cpy (cpy (cpy (cpy (wr M 24 0 (M 8 0)) 9 25 0 0 8) 10 26 0 0 8) 11 27 0 0 8) 12 28 0 0 8) 24 5 ((cpy (cpy (cpy (cpy (wr M 24 0 (M 8 0)) 9 25 0 0 8) 10 26 0 0 8) 11 27 0 0 8) 12 28 0 0 8) 8 5)) 24 5)) 14 30 0 0 ((cpy (wr (cpy (cpy (cpy (cpy (wr M 24 0 (M 8 0)) 9 25 0 0 8) 10 26 0 0 8) 11 27 0 0 8) 12 28 0 0 8) 24 5 ((cpy (cpy (cpy (cpy (wr M 24 0 (M 8 0)) 9 25 0 0 8) 10 26 0 0 8) 11 27 0 0 8) 12 28 0 0 8) 8 5)) 13 29 0 0 ((wr (cpy (cpy (cpy (cpy (wr M 24 0 (M 8 0)) 9 25 0 0 8) 10 26 0 0 8) 11 27 0 0 8) 12 28 0 0 8) 24 5 ((cpy (cpy (cpy (cpy (wr M 24 0 (M 8 0)) 9 25 0 0 8) 10 26 0 0 8) 11 27 0 0 8) 12 28 0 0 8) 8 5)) 24 5)) 24 5)) 15 31 0 0 ((cpy (cpy (wr (cpy (cpy (cpy (cpy (wr M 24 0 (M 8 0)) 9 25 0 0 8) 10 26 0 0 8) 11 27 0 0 8) 12 28 0 0 8) 24 5 ((cpy (cpy (cpy (cpy (wr M 24 0 (M 8 0)) 9 25 0 0 8) 10 26 0 0 8) 11 27 0 0 8) 12 28 0 0 8) 8 5)) 13 29 0 0 ((wr (cpy (cpy (cpy (cpy (wr M 24 0 (M 8 0)) 9 25 0 0 8) 10 26 0 0 8) 11 27 0 0 8) 12 28 0 0 8) 24 5 ((cpy (cpy (cpy (cpy (wr M 24 0 (M 8 0)) 9 25 0 0 8) 10 26 0 0 8) 11 27 0 0 8) 12 28 0 0 8) 8 5)) 24 5)) 14 30 0 0 ((cpy (wr (cpy (cpy (cpy (cpy (wr M 24 0 (M 8 0)) 9 25 0 0 8) 10 26 0 0 8) 11 27 0 0 8) 12 28 0 0 8) 24 5 ((cpy (cpy (cpy (cpy (wr M 24 0 (M 8 0)) 9 25 0 0 8) 10 26 0 0 8) 11 27 0 0 8) 12 28 0 0 8) 8 5)) 13 29 0 0 ((wr (cpy (cpy (cpy (cpy (wr M 24 0 (M 8 0)) 9 25 0 0 8) 10 26 0 0 8) 11 27 0 0 8) 12 28 0 0 8) 24 5 ((cpy (cpy (cpy (cpy (wr M 24 0 (M 8 0)) 9 25 0 0 8) 10 26 0 0 8) 11 27 0 0 8) 12 28 0 0 8) 8 5)) 24 5)) 24 5)) 24 5)) 24 9 ((cpy (cpy (cpy (wr (cpy (cpy (cpy (cpy (wr M 24 0 (M 8 0)) 9 25 0 0 8) 10 26 0 0 8) 11 27 0 0 8) 12 28 0 0 8) 24 5 ((cpy (cpy (cpy (cpy (wr M 24 0 (M 8 0)) 9 25 0 0 8) 10 26 0 0 8) 11 27 0 0 8) 12 28 0 0 8) 8 5)) 13 29 0 0 ((wr (cpy (cpy (cpy (cpy (wr M 24 0 (M 8 0)) 9 25 0 0 8) 10 26 0 0 8) 11 27 0 0 8) 12 28 0 0 8) 24 5 ((cpy (cpy (cpy (cpy (wr M 24 0 (M 8 0)) 9 25 0 0 8) 10 26 0 0 8) 11 27 0 0 8) 12 28 0 0 8) 8 5)) 24 5)) 14 30 0 0 ((cpy (wr (cpy (cpy (cpy (cpy (wr M 24 0 (M 8 0)) 9 25 0 0 8) 10 26 0 0 8) 11 27 0 0 8) 12 28 0 0 8) 24 5 ((cpy (cpy (cpy (cpy (wr M 24 0 (M 8 0)) 9 25 0 0 8) 10 26 0 0 8) 11 27 0 0 8) 12 28 0 0 8) 8 5)) 13 29 0 0 ((wr (cpy (cpy (cpy (cpy (wr M 24 0 (M 8 0)) 9 25 0 0 8) 10 26 0 0 8) 11 27 0 0 8) 12 28 0 0 8) 24 5 ((cpy (cpy (cpy (cpy (wr M 24 0 (M 8 0)) 9 25 0 0 8) 10 26 0 0 8) 11 27 0 0 8) 12 28 0 0 8) 8 5)) 24 5)) 24 5)) 15 31 0 0 ((cpy (cpy (wr (cpy (cpy (cpy (cpy (wr M 24 0 (M 8 0)) 9 25 0 0 8) 10 26 0 0 8) 11 27 0 0 8) 12 28 0 0 8) 24 5 ((cpy (cpy (cpy (cpy (wr M 24 0 (M 8 0)) 9 25 0 0 8) 10 26 0 0 8) 11 27 0 0 8) 12 28 0 0 8) 8 5)) 13 29 0 0 ((wr (cpy (cpy (cpy (cpy (wr M 24 0 (M 8 0)) 9 25 0 0 8) 10 26 0 0 8) 11 27 0 0 8) 12 28 0 0 8) 24 5 ((cpy (cpy (cpy (cpy (wr M 24 0 (M 8 0)) 9 25 0 0 8) 10 26 0 0 8) 11 27 0 0 8) 12 28 0 0 8) 8 5)) 24 5)) 14 30 0 0 ((cpy (wr (cpy (cpy (cpy (cpy (wr M 24 0 (M 8 0)) 9 25 0 0 8) 10 26 0 0 8) 11 27 0 0 8) 12 28 0 0 8) 24 5 ((cpy (cpy (cpy (cpy (wr M 24 0 (M 8 0)) 9 25 0 0 8) 10 26 0 0 8) 11 27 0 0 8) 12 28 0 0 8) 8 5)) 13 29 0 0 ((wr (cpy (cpy (cpy (cpy (wr M 24 0 (M 8 0)) 9 25 0 0 8) 10 26 0 0 8) 11 27 0 0 8) 12 28 0 0 8) 24 5 ((cpy (cpy (cpy (cpy (wr M 24 0 (M 8 0)) 9 25 0 0 8) 10 26 0 0 8) 11 27 0 0 8) 12 28 0 0 8) 8 5)) 24 5)) 24 5)) 24 5)) 8 9)) 24 9)) hC hM 24 (Nat.le_of_ble_eq_true rfl) (eC_24 V) inW6 rfl 9 (by decide) q_179 (fun _ h9 => h9) rfl dX6_copyFrom_146 ?_
  obtain ⟨hg8, hf⟩ := o_g hf
  refine mw_copy (rest := []) hC hM 16 32 0 (Nat.le_of_ble_eq_true rfl) (Nat.le_of_ble_eq_true rfl) (eC_16 V) (eC_32 V) rfl hg8 hl.1 q_720 q_722 q_721 q_127 (Nat.le_of_ble_eq_true rfl) (Nat.le_of_ble_eq_true rfl) dX6_copyFrom_149 (fun H locs hM => ?_)
  exact hret (o_r2 hf hM) dX6_copyFrom_152
set_option maxHeartbeats 4000000 in
set_option maxRecDepth 100000 in
theorem mcX4_copyFrom_q17_q1 (V : mV) (l : Launch) (M : mM) (r : Int32) (M' : mM) (hf : fX4_copyFrom_q17_q1 M = some (r, M')) : UC V l yX4_copyFrom cX4_copyFrom 2 ({ frames := 2, cells := 0, slots := 0, locals := 61 } : Room) [.ref (mvA V 17), .ref (mvA V 1)] M M' := by
  unfold fX4_copyFrom_q17_q1 at hf
  refine mw_enterV RX4 rfl (by decide +kernel) (Nat.le_of_ble_eq_true rfl) (fun {p e s m args below meth c} ls A Q hC hret hM hl => ?_)
  have hl : lv_has ls 2 [(0, .ref (mvA V 17)), (1, .ref (mvA V 1))] := hl
  refine lv_aload_n hC.1 hC.2.1 dX4_copyFrom_0 rfl (lv_at hl 0 rfl) ?_
  refine lv_aload_n hC.1 hC.2.1 dX4_copyFrom_1 rfl (lv_at hl 1 rfl) ?_
  refine mw_get (v := .int (M 1 0)) hC hM 1 (Nat.le_of_ble_eq_true rfl) (eC_1 V) inW4 rfl 0 (by decide) q_207 (fun _ h9 => h9) rfl dX4_copyFrom_2 ?_
  refine mw_put hC hM 17 (Nat.le_of_ble_eq_true rfl) (eC_17 V) inW4 tyX4 tyX4_ok nmX4 rfl 0 (by decide) q_207 (fun _ h9 => h9) rfl rfl rfl (Nat.le_of_ble_eq_true rfl) rfl dX4_copyFrom_5 (fun H locs hM => ?_)
  refine lv_aload_n hC.1 hC.2.1 dX4_copyFrom_8 rfl (lv_at hl 1 rfl) ?_
  refine mw_get (v := .ref (mvA V 2)) hC hM 1 (Nat.le_of_ble_eq_true rfl) (eC_1 V) inW4 rfl 1 (by decide) q_208 (fun _ h9 => h9) rfl dX4_copyFrom_9 ?_
  refine lv_iconst hC.1 hC.2.1 dX4_copyFrom_12 ci_0 ?_
  refine lv_aload_n hC.1 hC.2.1 dX4_copyFrom_13 rfl (lv_at hl 0 rfl) ?_
  refine mw_get (v := .ref (mvA V 18)) hC hM 17 (Nat.le_of_ble_eq_true rfl) (eC_17 V) inW4 rfl 1 (by decide) q_208 (fun _ h9 => h9) rfl dX4_copyFrom_14 ?_
  refine lv_iconst hC.1 hC.2.1 dX4_copyFrom_17 ci_0 ?_
  refine lv_bipush hC.1 hC.2.1 dX4_copyFrom_18 cb_7 ?_
  obtain ⟨hg1, hf⟩ := o_g hf
  refine mw_copy (rest := []) hC hM 2 18 0 (Nat.le_of_ble_eq_true rfl) (Nat.le_of_ble_eq_true rfl) (eC_2 V) (eC_18 V) rfl hg1 hl.1 q_1134 q_722 q_721 q_127 (Nat.le_of_ble_eq_true rfl) (Nat.le_of_ble_eq_true rfl) dX4_copyFrom_20 (fun H locs hM => ?_)
  refine lv_aload_n hC.1 hC.2.1 dX4_copyFrom_23 rfl (lv_at hl 1 rfl) ?_
  refine mw_get (v := .ref (mvA V 3)) hC hM 1 (Nat.le_of_ble_eq_true rfl) (eC_1 V) inW4 rfl 2 (by decide) q_210 (fun _ h9 => h9) rfl dX4_copyFrom_24 ?_
  refine lv_iconst hC.1 hC.2.1 dX4_copyFrom_27 ci_0 ?_
  refine lv_aload_n hC.1 hC.2.1 dX4_copyFrom_28 rfl (lv_at hl 0 rfl) ?_
  refine mw_get (v := .ref (mvA V 19)) hC hM 17 (Nat.le_of_ble_eq_true rfl) (eC_17 V) inW4 rfl 2 (by decide) q_210 (fun _ h9 => h9) rfl dX4_copyFrom_29 ?_
  refine lv_iconst hC.1 hC.2.1 dX4_copyFrom_32 ci_0 ?_
  refine lv_bipush hC.1 hC.2.1 dX4_copyFrom_33 cb_7 ?_
  obtain ⟨hg2, hf⟩ := o_g hf
  refine mw_copy (rest := []) hC hM 3 19 0 (Nat.le_of_ble_eq_true rfl) (Nat.le_of_ble_eq_true rfl) (eC_3 V) (eC_19 V) rfl hg2 hl.1 q_1134 q_722 q_721 q_127 (Nat.le_of_ble_eq_true rfl) (Nat.le_of_ble_eq_true rfl) dX4_copyFrom_35 (fun H locs hM => ?_)
  refine lv_aload_n hC.1 hC.2.1 dX4_copyFrom_38 rfl (lv_at hl 1 rfl) ?_
  refine mw_get (v := .ref (mvA V 4)) hC hM 1 (Nat.le_of_ble_eq_true rfl) (eC_1 V) inW4 rfl 3 (by decide) q_212 (fun _ h9 => h9) rfl dX4_copyFrom_39 ?_
  refine lv_iconst hC.1 hC.2.1 dX4_copyFrom_42 ci_0 ?_
  refine lv_aload_n hC.1 hC.2.1 dX4_copyFrom_43 rfl (lv_at hl 0 rfl) ?_
  refine mw_get (v := .ref (mvA V 20)) hC hM 17 (Nat.le_of_ble_eq_true rfl) (eC_17 V) inW4 rfl 3 (by decide) q_212 (fun _ h9 => h9) rfl dX4_copyFrom_44 ?_
  refine lv_iconst hC.1 hC.2.1 dX4_copyFrom_47 ci_0 ?_
  refine lv_bipush hC.1 hC.2.1 dX4_copyFrom_48 cb_7 ?_
  obtain ⟨hg3, hf⟩ := o_g hf
  refine mw_copy (rest := []) hC hM 4 20 0 (Nat.le_of_ble_eq_true rfl) (Nat.le_of_ble_eq_true rfl) (eC_4 V) (eC_20 V) rfl hg3 hl.1 q_1134 q_722 q_721 q_127 (Nat.le_of_ble_eq_true rfl) (Nat.le_of_ble_eq_true rfl) dX4_copyFrom_50 (fun H locs hM => ?_)
  refine lv_aload_n hC.1 hC.2.1 dX4_copyFrom_53 rfl (lv_at hl 1 rfl) ?_
  refine mw_get (v := .ref (mvA V 5)) hC hM 1 (Nat.le_of_ble_eq_true rfl) (eC_1 V) inW4 rfl 4 (by decide) q_214 (fun _ h9 => h9) rfl dX4_copyFrom_54 ?_
  refine lv_iconst hC.1 hC.2.1 dX4_copyFrom_57 ci_0 ?_
  refine lv_aload_n hC.1 hC.2.1 dX4_copyFrom_58 rfl (lv_at hl 0 rfl) ?_
  refine mw_get (v := .ref (mvA V 21)) hC hM 17 (Nat.le_of_ble_eq_true rfl) (eC_17 V) inW4 rfl 4 (by decide) q_214 (fun _ h9 => h9) rfl dX4_copyFrom_59 ?_
  refine lv_iconst hC.1 hC.2.1 dX4_copyFrom_62 ci_0 ?_
  refine lv_bipush hC.1 hC.2.1 dX4_copyFrom_63 cb_7 ?_
  obtain ⟨hg4, hf⟩ := o_g hf
  refine mw_copy (rest := []) hC hM 5 21 0 (Nat.le_of_ble_eq_true rfl) (Nat.le_of_ble_eq_true rfl) (eC_5 V) (eC_21 V) rfl hg4 hl.1 q_1134 q_722 q_721 q_127 (Nat.le_of_ble_eq_true rfl) (Nat.le_of_ble_eq_true rfl) dX4_copyFrom_65 (fun H locs hM => ?_)
  refine lv_aload_n hC.1 hC.2.1 dX4_copyFrom_68 rfl (lv_at hl 0 rfl) ?_
  refine lv_aload_n hC.1 hC.2.1 dX4_copyFrom_69 rfl (lv_at hl 1 rfl) ?_
  refine mw_get (v := .int ((cpy (cpy (cpy (cpy (wr M 17 0 (M 1 0)) 2 18 0 0 7) 3 19 0 0 7) 4 20 0 0 7) 5 21 0 0 7) 1 5)) hC hM 1 (Nat.le_of_ble_eq_true rfl) (eC_1 V) inW4 rfl 5 (by decide) q_217 (fun _ h9 => h9) rfl dX4_copyFrom_70 ?_
  refine mw_put hC hM 17 (Nat.le_of_ble_eq_true rfl) (eC_17 V) inW4 tyX4 tyX4_ok nmX4 rfl 5 (by decide) q_217 (fun _ h9 => h9) rfl rfl rfl (Nat.le_of_ble_eq_true rfl) rfl dX4_copyFrom_73 (fun H locs hM => ?_)
  refine lv_aload_n hC.1 hC.2.1 dX4_copyFrom_76 rfl (lv_at hl 0 rfl) ?_
  refine lv_aload_n hC.1 hC.2.1 dX4_copyFrom_77 rfl (lv_at hl 1 rfl) ?_
  refine mw_get (v := .int ((wr (cpy (cpy (cpy (cpy (wr M 17 0 (M 1 0)) 2 18 0 0 7) 3 19 0 0 7) 4 20 0 0 7) 5 21 0 0 7) 17 5 ((cpy (cpy (cpy (cpy (wr M 17 0 (M 1 0)) 2 18 0 0 7) 3 19 0 0 7) 4 20 0 0 7) 5 21 0 0 7) 1 5)) 1 6)) hC hM 1 (Nat.le_of_ble_eq_true rfl) (eC_1 V) inW4 rfl 6 (by decide) q_218 (fun _ h9 => h9) rfl dX4_copyFrom_78 ?_
  refine mw_put hC hM 17 (Nat.le_of_ble_eq_true rfl) (eC_17 V) inW4 tyX4 tyX4_ok nmX4 rfl 6 (by decide) q_218 (fun _ h9 => h9) rfl rfl rfl (Nat.le_of_ble_eq_true rfl) rfl dX4_copyFrom_81 (fun H locs hM => ?_)
  refine lv_aload_n hC.1 hC.2.1 dX4_copyFrom_84 rfl (lv_at hl 0 rfl) ?_
  refine lv_aload_n hC.1 hC.2.1 dX4_copyFrom_85 rfl (lv_at hl 1 rfl) ?_
  refine mw_get (v := .int ((wr (wr (cpy (cpy (cpy (cpy (wr M 17 0 (M 1 0)) 2 18 0 0 7) 3 19 0 0 7) 4 20 0 0 7) 5 21 0 0 7) 17 5 ((cpy (cpy (cpy (cpy (wr M 17 0 (M 1 0)) 2 18 0 0 7) 3 19 0 0 7) 4 20 0 0 7) 5 21 0 0 7) 1 5)) 17 6 ((wr (cpy (cpy (cpy (cpy (wr M 17 0 (M 1 0)) 2 18 0 0 7) 3 19 0 0 7) 4 20 0 0 7) 5 21 0 0 7) 17 5 ((cpy (cpy (cpy (cpy (wr M 17 0 (M 1 0)) 2 18 0 0 7) 3 19 0 0 7) 4 20 0 0 7) 5 21 0 0 7) 1 5)) 1 6)) 1 7)) hC hM 1 (Nat.le_of_ble_eq_true rfl) (eC_1 V) inW4 rfl 7 (by decide) q_220 (fun _ h9 => h9) rfl dX4_copyFrom_86 ?_
  refine mw_put hC hM 17 (Nat.le_of_ble_eq_true rfl) (eC_17 V) inW4 tyX4 tyX4_ok nmX4 rfl 7 (by decide) q_220 (fun _ h9 => h9) rfl rfl rfl (Nat.le_of_ble_eq_true rfl) rfl dX4_copyFrom_89 (fun H locs hM => ?_)
  refine lv_aload_n hC.1 hC.2.1 dX4_copyFrom_92 rfl (lv_at hl 0 rfl) ?_
  refine lv_aload_n hC.1 hC.2.1 dX4_copyFrom_93 rfl (lv_at hl 1 rfl) ?_
  refine mw_get (v := .int ((wr (wr (wr (cpy (cpy (cpy (cpy (wr M 17 0 (M 1 0)) 2 18 0 0 7) 3 19 0 0 7) 4 20 0 0 7) 5 21 0 0 7) 17 5 ((cpy (cpy (cpy (cpy (wr M 17 0 (M 1 0)) 2 18 0 0 7) 3 19 0 0 7) 4 20 0 0 7) 5 21 0 0 7) 1 5)) 17 6 ((wr (cpy (cpy (cpy (cpy (wr M 17 0 (M 1 0)) 2 18 0 0 7) 3 19 0 0 7) 4 20 0 0 7) 5 21 0 0 7) 17 5 ((cpy (cpy (cpy (cpy (wr M 17 0 (M 1 0)) 2 18 0 0 7) 3 19 0 0 7) 4 20 0 0 7) 5 21 0 0 7) 1 5)) 1 6)) 17 7 ((wr (wr (cpy (cpy (cpy (cpy (wr M 17 0 (M 1 0)) 2 18 0 0 7) 3 19 0 0 7) 4 20 0 0 7) 5 21 0 0 7) 17 5 ((cpy (cpy (cpy (cpy (wr M 17 0 (M 1 0)) 2 18 0 0 7) 3 19 0 0 7) 4 20 0 0 7) 5 21 0 0 7) 1 5)) 17 6 ((wr (cpy (cpy (cpy (cpy (wr M 17 0 (M 1 0)) 2 18 0 0 7) 3 19 0 0 7) 4 20 0 0 7) 5 21 0 0 7) 17 5 ((cpy (cpy (cpy (cpy (wr M 17 0 (M 1 0)) 2 18 0 0 7) 3 19 0 0 7) 4 20 0 0 7) 5 21 0 0 7) 1 5)) 1 6)) 1 7)) 1 8)) hC hM 1 (Nat.le_of_ble_eq_true rfl) (eC_1 V) inW4 rfl 8 (by decide) q_222 (fun _ h9 => h9) rfl dX4_copyFrom_94 ?_
  refine mw_put hC hM 17 (Nat.le_of_ble_eq_true rfl) (eC_17 V) inW4 tyX4 tyX4_ok nmX4 rfl 8 (by decide) q_222 (fun _ h9 => h9) rfl rfl rfl (Nat.le_of_ble_eq_true rfl) rfl dX4_copyFrom_97 (fun H locs hM => ?_)
  refine lv_aload_n hC.1 hC.2.1 dX4_copyFrom_100 rfl (lv_at hl 0 rfl) ?_
  refine lv_aload_n hC.1 hC.2.1 dX4_copyFrom_101 rfl (lv_at hl 1 rfl) ?_
  refine mw_get (v := .int ((wr (wr (wr (wr (cpy (cpy (cpy (cpy (wr M 17 0 (M 1 0)) 2 18 0 0 7) 3 19 0 0 7) 4 20 0 0 7) 5 21 0 0 7) 17 5 ((cpy (cpy (cpy (cpy (wr M 17 0 (M 1 0)) 2 18 0 0 7) 3 19 0 0 7) 4 20 0 0 7) 5 21 0 0 7) 1 5)) 17 6 ((wr (cpy (cpy (cpy (cpy (wr M 17 0 (M 1 0)) 2 18 0 0 7) 3 19 0 0 7) 4 20 0 0 7) 5 21 0 0 7) 17 5 ((cpy (cpy (cpy (cpy (wr M 17 0 (M 1 0)) 2 18 0 0 7) 3 19 0 0 7) 4 20 0 0 7) 5 21 0 0 7) 1 5)) 1 6)) 17 7 ((wr (wr (cpy (cpy (cpy (cpy (wr M 17 0 (M 1 0)) 2 18 0 0 7) 3 19 0 0 7) 4 20 0 0 7) 5 21 0 0 7) 17 5 ((cpy (cpy (cpy (cpy (wr M 17 0 (M 1 0)) 2 18 0 0 7) 3 19 0 0 7) 4 20 0 0 7) 5 21 0 0 7) 1 5)) 17 6 ((wr (cpy (cpy (cpy (cpy (wr M 17 0 (M 1 0)) 2 18 0 0 7) 3 19 0 0 7) 4 20 0 0 7) 5 21 0 0 7) 17 5 ((cpy (cpy (cpy (cpy (wr M 17 0 (M 1 0)) 2 18 0 0 7) 3 19 0 0 7) 4 20 0 0 7) 5 21 0 0 7) 1 5)) 1 6)) 1 7)) 17 8 ((wr (wr (wr (cpy (cpy (cpy (cpy (wr M 17 0 (M 1 0)) 2 18 0 0 7) 3 19 0 0 7) 4 20 0 0 7) 5 21 0 0 7) 17 5 ((cpy (cpy (cpy (cpy (wr M 17 0 (M 1 0)) 2 18 0 0 7) 3 19 0 0 7) 4 20 0 0 7) 5 21 0 0 7) 1 5)) 17 6 ((wr (cpy (cpy (cpy (cpy (wr M 17 0 (M 1 0)) 2 18 0 0 7) 3 19 0 0 7) 4 20 0 0 7) 5 21 0 0 7) 17 5 ((cpy (cpy (cpy (cpy (wr M 17 0 (M 1 0)) 2 18 0 0 7) 3 19 0 0 7) 4 20 0 0 7) 5 21 0 0 7) 1 5)) 1 6)) 17 7 ((wr (wr (cpy (cpy (cpy (cpy (wr M 17 0 (M 1 0)) 2 18 0 0 7) 3 19 0 0 7) 4 20 0 0 7) 5 21 0 0 7) 17 5 ((cpy (cpy (cpy (cpy (wr M 17 0 (M 1 0)) 2 18 0 0 7) 3 19 0 0 7) 4 20 0 0 7) 5 21 0 0 7) 1 5)) 17 6 ((wr (cpy (cpy (cpy (cpy (wr M 17 0 (M 1 0)) 2 18 0 0 7) 3 19 0 0 7) 4 20 0 0 7) 5 21 0 0 7) 17 5 ((cpy (cpy (cpy (cpy (wr M 17 0 (M 1 0)) 2 18 0 0 7) 3 19 0 0 7) 4 20 0 0 7) 5 21 0 0 7) 1 5)) 1 6)) 1 7)) 1 8)) 1 9)) hC hM 1 (Nat.le_of_ble_eq_true rfl) (eC_1 V) inW4 rfl 9 (by decide) q_224 (fun _ h9 => h9) rfl dX4_copyFrom_102 ?_
  refine mw_put hC hM 17 (Nat.le_of_ble_eq_true rfl) (eC_17 V) inW4 tyX4 tyX4_ok nmX4 rfl 9 (by decide) q_224 (fun _ h9 => h9) rfl rfl rfl (Nat.le_of_ble_eq_true rfl) rfl dX4_copyFrom_105 (fun H locs hM => ?_)
  refine lv_aload_n hC.1 hC.2.1 dX4_copyFrom_108 rfl (lv_at hl 0 rfl) ?_
  refine lv_aload_n hC.1 hC.2.1 dX4_copyFrom_109 rfl (lv_at hl 1 rfl) ?_
  refine mw_get (v := .int ((wr (wr (wr (wr (wr (cpy (cpy (cpy (cpy (wr M 17 0 (M 1 0)) 2 18 0 0 7) 3 19 0 0 7) 4 20 0 0 7) 5 21 0 0 7) 17 5 ((cpy (cpy (cpy (cpy (wr M 17 0 (M 1 0)) 2 18 0 0 7) 3 19 0 0 7) 4 20 0 0 7) 5 21 0 0 7) 1 5)) 17 6 ((wr (cpy (cpy (cpy (cpy (wr M 17 0 (M 1 0)) 2 18 0 0 7) 3 19 0 0 7) 4 20 0 0 7) 5 21 0 0 7) 17 5 ((cpy (cpy (cpy (cpy (wr M 17 0 (M 1 0)) 2 18 0 0 7) 3 19 0 0 7) 4 20 0 0 7) 5 21 0 0 7) 1 5)) 1 6)) 17 7 ((wr (wr (cpy (cpy (cpy (cpy (wr M 17 0 (M 1 0)) 2 18 0 0 7) 3 19 0 0 7) 4 20 0 0 7) 5 21 0 0 7) 17 5 ((cpy (cpy (cpy (cpy (wr M 17 0 (M 1 0)) 2 18 0 0 7) 3 19 0 0 7) 4 20 0 0 7) 5 21 0 0 7) 1 5)) 17 6 ((wr (cpy (cpy (cpy (cpy (wr M 17 0 (M 1 0)) 2 18 0 0 7) 3 19 0 0 7) 4 20 0 0 7) 5 21 0 0 7) 17 5 ((cpy (cpy (cpy (cpy (wr M 17 0 (M 1 0)) 2 18 0 0 7) 3 19 0 0 7) 4 20 0 0 7) 5 21 0 0 7) 1 5)) 1 6)) 1 7)) 17 8 ((wr (wr (wr (cpy (cpy (cpy (cpy (wr M 17 0 (M 1 0)) 2 18 0 0 7) 3 19 0 0 7) 4 20 0 0 7) 5 21 0 0 7) 17 5 ((cpy (cpy (cpy (cpy (wr M 17 0 (M 1 0)) 2 18 0 0 7) 3 19 0 0 7) 4 20 0 0 7) 5 21 0 0 7) 1 5)) 17 6 ((wr (cpy (cpy (cpy (cpy (wr M 17 0 (M 1 0)) 2 18 0 0 7) 3 19 0 0 7) 4 20 0 0 7) 5 21 0 0 7) 17 5 ((cpy (cpy (cpy (cpy (wr M 17 0 (M 1 0)) 2 18 0 0 7) 3 19 0 0 7) 4 20 0 0 7) 5 21 0 0 7) 1 5)) 1 6)) 17 7 ((wr (wr (cpy (cpy (cpy (cpy (wr M 17 0 (M 1 0)) 2 18 0 0 7) 3 19 0 0 7) 4 20 0 0 7) 5 21 0 0 7) 17 5 ((cpy (cpy (cpy (cpy (wr M 17 0 (M 1 0)) 2 18 0 0 7) 3 19 0 0 7) 4 20 0 0 7) 5 21 0 0 7) 1 5)) 17 6 ((wr (cpy (cpy (cpy (cpy (wr M 17 0 (M 1 0)) 2 18 0 0 7) 3 19 0 0 7) 4 20 0 0 7) 5 21 0 0 7) 17 5 ((cpy (cpy (cpy (cpy (wr M 17 0 (M 1 0)) 2 18 0 0 7) 3 19 0 0 7) 4 20 0 0 7) 5 21 0 0 7) 1 5)) 1 6)) 1 7)) 1 8)) 17 9 ((wr (wr (wr (wr (cpy (cpy (cpy (cpy (wr M 17 0 (M 1 0)) 2 18 0 0 7) 3 19 0 0 7) 4 20 0 0 7) 5 21 0 0 7) 17 5 ((cpy (cpy (cpy (cpy (wr M 17 0 (M 1 0)) 2 18 0 0 7) 3 19 0 0 7) 4 20 0 0 7) 5 21 0 0 7) 1 5)) 17 6 ((wr (cpy (cpy (cpy (cpy (wr M 17 0 (M 1 0)) 2 18 0 0 7) 3 19 0 0 7) 4 20 0 0 7) 5 21 0 0 7) 17 5 ((cpy (cpy (cpy (cpy (wr M 17 0 (M 1 0)) 2 18 0 0 7) 3 19 0 0 7) 4 20 0 0 7) 5 21 0 0 7) 1 5)) 1 6)) 17 7 ((wr (wr (cpy (cpy (cpy (cpy (wr M 17 0 (M 1 0)) 2 18 0 0 7) 3 19 0 0 7) 4 20 0 0 7) 5 21 0 0 7) 17 5 ((cpy (cpy (cpy (cpy (wr M 17 0 (M 1 0)) 2 18 0 0 7) 3 19 0 0 7) 4 20 0 0 7) 5 21 0 0 7) 1 5)) 17 6 ((wr (cpy (cpy (cpy (cpy (wr M 17 0 (M 1 0)) 2 18 0 0 7) 3 19 0 0 7) 4 20 0 0 7) 5 21 0 0 7) 17 5 ((cpy (cpy (cpy (cpy (wr M 17 0 (M 1 0)) 2 18 0 0 7) 3 19 0 0 7) 4 20 0 0 7) 5 21 0 0 7) 1 5)) 1 6)) 1 7)) 17 8 ((wr (wr (wr (cpy (cpy (cpy (cpy (wr M 17 0 (M 1 0)) 2 18 0 0 7) 3 19 0 0 7) 4 20 0 0 7) 5 21 0 0 7) 17 5 ((cpy (cpy (cpy (cpy (wr M 17 0 (M 1 0)) 2 18 0 0 7) 3 19 0 0 7) 4 20 0 0 7) 5 21 0 0 7) 1 5)) 17 6 ((wr (cpy (cpy (cpy (cpy (wr M 17 0 (M 1 0)) 2 18 0 0 7) 3 19 0 0 7) 4 20 0 0 7) 5 21 0 0 7) 17 5 ((cpy (cpy (cpy (cpy (wr M 17 0 (M 1 0)) 2 18 0 0 7) 3 19 0 0 7) 4 20 0 0 7) 5 21 0 0 7) 1 5)) 1 6)) 17 7 ((wr (wr (cpy (cpy (cpy (cpy (wr M 17 0 (M 1 0)) 2 18 0 0 7) 3 19 0 0 7) 4 20 0 0 7) 5 21 0 0 7) 17 5 ((cpy (cpy (cpy (cpy (wr M 17 0 (M 1 0)) 2 18 0 0 7) 3 19 0 0 7) 4 20 0 0 7) 5 21 0 0 7) 1 5)) 17 6 ((wr (cpy (cpy (cpy (cpy (wr M 17 0 (M 1 0)) 2 18 0 0 7) 3 19 0 0 7) 4 20 0 0 7) 5 21 0 0 7) 17 5 ((cpy (cpy (cpy (cpy (wr M 17 0 (M 1 0)) 2 18 0 0 7) 3 19 0 0 7) 4 20 0 0 7) 5 21 0 0 7) 1 5)) 1 6)) 1 7)) 1 8)) 1 9)) 1 10)) hC hM 1 (Nat.le_of_ble_eq_true rfl) (eC_1 V) inW4 rfl 10 (by decide) q_226 (fun _ h9 => h9) rfl dX4_copyFrom_110 ?_
  refine mw_put hC hM 17 (Nat.le_of_ble_eq_true rfl) (eC_17 V) inW4 tyX4 tyX4_ok nmX4 rfl 10 (by decide) q_226 (fun _ h9 => h9) rfl rfl rfl (Nat.le_of_ble_eq_true rfl) rfl dX4_copyFrom_113 (fun H locs hM => ?_)
  refine lv_aload_n hC.1 hC.2.1 dX4_copyFrom_116 rfl (lv_at hl 0 rfl) ?_
  refine lv_aload_n hC.1 hC.2.1 dX4_copyFrom_117 rfl (lv_at hl 1 rfl) ?_
  refine mw_get (v := .int ((wr (wr (wr (wr (wr (wr (cpy (cpy (cpy (cpy (wr M 17 0 (M 1 0)) 2 18 0 0 7) 3 19 0 0 7) 4 20 0 0 7) 5 21 0 0 7) 17 5 ((cpy (cpy (cpy (cpy (wr M 17 0 (M 1 0)) 2 18 0 0 7) 3 19 0 0 7) 4 20 0 0 7) 5 21 0 0 7) 1 5)) 17 6 ((wr (cpy (cpy (cpy (cpy (wr M 17 0 (M 1 0)) 2 18 0 0 7) 3 19 0 0 7) 4 20 0 0 7) 5 21 0 0 7) 17 5 ((cpy (cpy (cpy (cpy (wr M 17 0 (M 1 0)) 2 18 0 0 7) 3 19 0 0 7) 4 20 0 0 7) 5 21 0 0 7) 1 5)) 1 6)) 17 7 ((wr (wr (cpy (cpy (cpy (cpy (wr M 17 0 (M 1 0)) 2 18 0 0 7) 3 19 0 0 7) 4 20 0 0 7) 5 21 0 0 7) 17 5 ((cpy (cpy (cpy (cpy (wr M 17 0 (M 1 0)) 2 18 0 0 7) 3 19 0 0 7) 4 20 0 0 7) 5 21 0 0 7) 1 5)) 17 6 ((wr (cpy (cpy (cpy (cpy (wr M 17 0 (M 1 0)) 2 18 0 0 7) 3 19 0 0 7) 4 20 0 0 7) 5 21 0 0 7) 17 5 ((cpy (cpy (cpy (cpy (wr M 17 0 (M 1 0)) 2 18 0 0 7) 3 19 0 0 7) 4 20 0 0 7) 5 21 0 0 7) 1 5)) 1 6)) 1 7)) 17 8 ((wr (wr (wr (cpy (cpy (cpy (cpy (wr M 17 0 (M 1 0)) 2 18 0 0 7) 3 19 0 0 7) 4 20 0 0 7) 5 21 0 0 7) 17 5 ((cpy (cpy (cpy (cpy (wr M 17 0 (M 1 0)) 2 18 0 0 7) 3 19 0 0 7) 4 20 0 0 7) 5 21 0 0 7) 1 5)) 17 6 ((wr (cpy (cpy (cpy (cpy (wr M 17 0 (M 1 0)) 2 18 0 0 7) 3 19 0 0 7) 4 20 0 0 7) 5 21 0 0 7) 17 5 ((cpy (cpy (cpy (cpy (wr M 17 0 (M 1 0)) 2 18 0 0 7) 3 19 0 0 7) 4 20 0 0 7) 5 21 0 0 7) 1 5)) 1 6)) 17 7 ((wr (wr (cpy (cpy (cpy (cpy (wr M 17 0 (M 1 0)) 2 18 0 0 7) 3 19 0 0 7) 4 20 0 0 7) 5 21 0 0 7) 17 5 ((cpy (cpy (cpy (cpy (wr M 17 0 (M 1 0)) 2 18 0 0 7) 3 19 0 0 7) 4 20 0 0 7) 5 21 0 0 7) 1 5)) 17 6 ((wr (cpy (cpy (cpy (cpy (wr M 17 0 (M 1 0)) 2 18 0 0 7) 3 19 0 0 7) 4 20 0 0 7) 5 21 0 0 7) 17 5 ((cpy (cpy (cpy (cpy (wr M 17 0 (M 1 0)) 2 18 0 0 7) 3 19 0 0 7) 4 20 0 0 7) 5 21 0 0 7) 1 5)) 1 6)) 1 7)) 1 8)) 17 9 ((wr (wr (wr (wr (cpy (cpy (cpy (cpy (wr M 17 0 (M 1 0)) 2 18 0 0 7) 3 19 0 0 7) 4 20 0 0 7) 5 21 0 0 7) 17 5 ((cpy (cpy (cpy (cpy (wr M 17 0 (M 1 0)) 2 18 0 0 7) 3 19 0 0 7) 4 20 0 0 7) 5 21 0 0 7) 1 5)) 17 6 ((wr (cpy (cpy (cpy (cpy (wr M 17 0 (M 1 0)) 2 18 0 0 7) 3 19 0 0 7) 4 20 0 0 7) 5 21 0 0 7) 17 5 ((cpy (cpy (cpy (cpy (wr M 17 0 (M 1 0)) 2 18 0 0 7) 3 19 0 0 7) 4 20 0 0 7) 5 21 0 0 7) 1 5)) 1 6)) 17 7 ((wr (wr (cpy (cpy (cpy (cpy (wr M 17 0 (M 1 0)) 2 18 0 0 7) 3 19 0 0 7) 4 20 0 0 7) 5 21 0 0 7) 17 5 ((cpy (cpy (cpy (cpy (wr M 17 0 (M 1 0)) 2 18 0 0 7) 3 19 0 0 7) 4 20 0 0 7) 5 21 0 0 7) 1 5)) 17 6 ((wr (cpy (cpy (cpy (cpy (wr M 17 0 (M 1 0)) 2 18 0 0 7) 3 19 0 0 7) 4 20 0 0 7) 5 21 0 0 7) 17 5 ((cpy (cpy (cpy (cpy (wr M 17 0 (M 1 0)) 2 18 0 0 7) 3 19 0 0 7) 4 20 0 0 7) 5 21 0 0 7) 1 5)) 1 6)) 1 7)) 17 8 ((wr (wr (wr (cpy (cpy (cpy (cpy (wr M 17 0 (M 1 0)) 2 18 0 0 7) 3 19 0 0 7) 4 20 0 0 7) 5 21 0 0 7) 17 5 ((cpy (cpy (cpy (cpy (wr M 17 0 (M 1 0)) 2 18 0 0 7) 3 19 0 0 7) 4 20 0 0 7) 5 21 0 0 7) 1 5)) 17 6 ((wr (cpy (cpy (cpy (cpy (wr M 17 0 (M 1 0)) 2 18 0 0 7) 3 19 0 0 7) 4 20 0 0 7) 5 21 0 0 7) 17 5 ((cpy (cpy (cpy (cpy (wr M 17 0 (M 1 0)) 2 18 0 0 7) 3 19 0 0 7) 4 20 0 0 7) 5 21 0 0 7) 1 5)) 1 6)) 17 7 ((wr (wr (cpy (cpy (cpy (cpy (wr M 17 0 (M 1 0)) 2 18 0 0 7) 3 19 0 0 7) 4 20 0 0 7) 5 21 0 0 7) 17 5 ((cpy (cpy (cpy (cpy (wr M 17 0 (M 1 0)) 2 18 0 0 7) 3 19 0 0 7) 4 20 0 0 7) 5 21 0 0 7) 1 5)) 17 6 ((wr (cpy (cpy (cpy (cpy (wr M 17 0 (M 1 0)) 2 18 0 0 7) 3 19 0 0 7) 4 20 0 0 7) 5 21 0 0 7) 17 5 ((cpy (cpy (cpy (cpy (wr M 17 0 (M 1 0)) 2 18 0 0 7) 3 19 0 0 7) 4 20 0 0 7) 5 21 0 0 7) 1 5)) 1 6)) 1 7)) 1 8)) 1 9)) 17 10 ((wr (wr (wr (wr (wr (cpy (cpy (cpy (cpy (wr M 17 0 (M 1 0)) 2 18 0 0 7) 3 19 0 0 7) 4 20 0 0 7) 5 21 0 0 7) 17 5 ((cpy (cpy (cpy (cpy (wr M 17 0 (M 1 0)) 2 18 0 0 7) 3 19 0 0 7) 4 20 0 0 7) 5 21 0 0 7) 1 5)) 17 6 ((wr (cpy (cpy (cpy (cpy (wr M 17 0 (M 1 0)) 2 18 0 0 7) 3 19 0 0 7) 4 20 0 0 7) 5 21 0 0 7) 17 5 ((cpy (cpy (cpy (cpy (wr M 17 0 (M 1 0)) 2 18 0 0 7) 3 19 0 0 7) 4 20 0 0 7) 5 21 0 0 7) 1 5)) 1 6)) 17 7 ((wr (wr (cpy (cpy (cpy (cpy (wr M 17 0 (M 1 0)) 2 18 0 0 7) 3 19 0 0 7) 4 20 0 0 7) 5 21 0 0 7) 17 5 ((cpy (cpy (cpy (cpy (wr M 17 0 (M 1 0)) 2 18 0 0 7) 3 19 0 0 7) 4 20 0 0 7) 5 21 0 0 7) 1 5)) 17 6 ((wr (cpy (cpy (cpy (cpy (wr M 17 0 (M 1 0)) 2 18 0 0 7) 3 19 0 0 7) 4 20 0 0 7) 5 21 0 0 7) 17 5 ((cpy (cpy (cpy (cpy (wr M 17 0 (M 1 0)) 2 18 0 0 7) 3 19 0 0 7) 4 20 0 0 7) 5 21 0 0 7) 1 5)) 1 6)) 1 7)) 17 8 ((wr (wr (wr (cpy (cpy (cpy (cpy (wr M 17 0 (M 1 0)) 2 18 0 0 7) 3 19 0 0 7) 4 20 0 0 7) 5 21 0 0 7) 17 5 ((cpy (cpy (cpy (cpy (wr M 17 0 (M 1 0)) 2 18 0 0 7) 3 19 0 0 7) 4 20 0 0 7) 5 21 0 0 7) 1 5)) 17 6 ((wr (cpy (cpy (cpy (cpy (wr M 17 0 (M 1 0)) 2 18 0 0 7) 3 19 0 0 7) 4 20 0 0 7) 5 21 0 0 7) 17 5 ((cpy (cpy (cpy (cpy (wr M 17 0 (M 1 0)) 2 18 0 0 7) 3 19 0 0 7) 4 20 0 0 7) 5 21 0 0 7) 1 5)) 1 6)) 17 7 ((wr (wr (cpy (cpy (cpy (cpy (wr M 17 0 (M 1 0)) 2 18 0 0 7) 3 19 0 0 7) 4 20 0 0 7) 5 21 0 0 7) 17 5 ((cpy (cpy (cpy (cpy (wr M 17 0 (M 1 0)) 2 18 0 0 7) 3 19 0 0 7) 4 20 0 0 7) 5 21 0 0 7) 1 5)) 17 6 ((wr (cpy (cpy (cpy (cpy (wr M 17 0 (M 1 0)) 2 18 0 0 7) 3 19 0 0 7) 4 20 0 0 7) 5 21 0 0 7) 17 5 ((cpy (cpy (cpy (cpy (wr M 17 0 (M 1 0)) 2 18 0 0 7) 3 19 0 0 7) 4 20 0 0 7) 5 21 0 0 7) 1 5)) 1 6)) 1 7)) 1 8)) 17 9 ((wr (wr (wr (wr (cpy (cpy (cpy (cpy (wr M 17 0 (M 1 0)) 2 18 0 0 7) 3 19 0 0 7) 4 20 0 0 7) 5 21 0 0 7) 17 5 ((cpy (cpy (cpy (cpy (wr M 17 0 (M 1 0)) 2 18 0 0 7) 3 19 0 0 7) 4 20 0 0 7) 5 21 0 0 7) 1 5)) 17 6 ((wr (cpy (cpy (cpy (cpy (wr M 17 0 (M 1 0)) 2 18 0 0 7) 3 19 0 0 7) 4 20 0 0 7) 5 21 0 0 7) 17 5 ((cpy (cpy (cpy (cpy (wr M 17 0 (M 1 0)) 2 18 0 0 7) 3 19 0 0 7) 4 20 0 0 7) 5 21 0 0 7) 1 5)) 1 6)) 17 7 ((wr (wr (cpy (cpy (cpy (cpy (wr M 17 0 (M 1 0)) 2 18 0 0 7) 3 19 0 0 7) 4 20 0 0 7) 5 21 0 0 7) 17 5 ((cpy (cpy (cpy (cpy (wr M 17 0 (M 1 0)) 2 18 0 0 7) 3 19 0 0 7) 4 20 0 0 7) 5 21 0 0 7) 1 5)) 17 6 ((wr (cpy (cpy (cpy (cpy (wr M 17 0 (M 1 0)) 2 18 0 0 7) 3 19 0 0 7) 4 20 0 0 7) 5 21 0 0 7) 17 5 ((cpy (cpy (cpy (cpy (wr M 17 0 (M 1 0)) 2 18 0 0 7) 3 19 0 0 7) 4 20 0 0 7) 5 21 0 0 7) 1 5)) 1 6)) 1 7)) 17 8 ((wr (wr (wr (cpy (cpy (cpy (cpy (wr M 17 0 (M 1 0)) 2 18 0 0 7) 3 19 0 0 7) 4 20 0 0 7) 5 21 0 0 7) 17 5 ((cpy (cpy (cpy (cpy (wr M 17 0 (M 1 0)) 2 18 0 0 7) 3 19 0 0 7) 4 20 0 0 7) 5 21 0 0 7) 1 5)) 17 6 ((wr (cpy (cpy (cpy (cpy (wr M 17 0 (M 1 0)) 2 18 0 0 7) 3 19 0 0 7) 4 20 0 0 7) 5 21 0 0 7) 17 5 ((cpy (cpy (cpy (cpy (wr M 17 0 (M 1 0)) 2 18 0 0 7) 3 19 0 0 7) 4 20 0 0 7) 5 21 0 0 7) 1 5)) 1 6)) 17 7 ((wr (wr (cpy (cpy (cpy (cpy (wr M 17 0 (M 1 0)) 2 18 0 0 7) 3 19 0 0 7) 4 20 0 0 7) 5 21 0 0 7) 17 5 ((cpy (cpy (cpy (cpy (wr M 17 0 (M 1 0)) 2 18 0 0 7) 3 19 0 0 7) 4 20 0 0 7) 5 21 0 0 7) 1 5)) 17 6 ((wr (cpy (cpy (cpy (cpy (wr M 17 0 (M 1 0)) 2 18 0 0 7) 3 19 0 0 7) 4 20 0 0 7) 5 21 0 0 7) 17 5 ((cpy (cpy (cpy (cpy (wr M 17 0 (M 1 0)) 2 18 0 0 7) 3 19 0 0 7) 4 20 0 0 7) 5 21 0 0 7) 1 5)) 1 6)) 1 7)) 1 8)) 1 9)) 1 10)) 1 11)) hC hM 1 (Nat.le_of_ble_eq_true rfl) (eC_1 V) inW4 rfl 11 (by decide) q_228 (fun _ h9 => h9) rfl dX4_copyFrom_118 ?_
  refine mw_put hC hM 17 (Nat.le_of_ble_eq_true rfl) (eC_17 V) inW4 tyX4 tyX4_ok nmX4 rfl 11 (by decide) q_228 (fun _ h9 => h9) rfl rfl rfl (Nat.le_of_ble_eq_true rfl) rfl dX4_copyFrom_121 (fun H locs hM => ?_)
  refine lv_aload_n hC.1 hC.2.1 dX4_copyFrom_124 rfl (lv_at hl 1 rfl) ?_
  refine mw_get (v := .ref (mvA V 6)) hC hM 1 (Nat.le_of_ble_eq_true rfl) (eC_1 V) inW4 rfl 12 (by decide) q_230 (fun _ h9 => h9) rfl dX4_copyFrom_125 ?_
  refine lv_iconst hC.1 hC.2.1 dX4_copyFrom_128 ci_0 ?_
  refine lv_aload_n hC.1 hC.2.1 dX4_copyFrom_129 rfl (lv_at hl 0 rfl) ?_
  refine mw_get (v := .ref (mvA V 22)) hC hM 17 (Nat.le_of_ble_eq_true rfl) (eC_17 V) inW4 rfl 12 (by decide) q_230 (fun _ h9 => h9) rfl dX4_copyFrom_130 ?_
  refine lv_iconst hC.1 hC.2.1 dX4_copyFrom_133 ci_0 ?_
  refine lv_bipush hC.1 hC.2.1 dX4_copyFrom_134 cb_6 ?_
  obtain ⟨hg5, hf⟩ := o_g hf
  refine mw_copy (rest := []) hC hM 6 22 0 (Nat.le_of_ble_eq_true rfl) (Nat.le_of_ble_eq_true rfl) (eC_6 V) (eC_22 V) rfl hg5 hl.1 q_1134 q_722 q_721 q_127 (Nat.le_of_ble_eq_true rfl) (Nat.le_of_ble_eq_true rfl) dX4_copyFrom_136 (fun H locs hM => ?_)
  refine lv_aload_n hC.1 hC.2.1 dX4_copyFrom_139 rfl (lv_at hl 1 rfl) ?_
  refine mw_get (v := .ref (mvA V 7)) hC hM 1 (Nat.le_of_ble_eq_true rfl) (eC_1 V) inW4 rfl 13 (by decide) q_232 (fun _ h9 => h9) rfl dX4_copyFrom_140 ?_
  refine lv_iconst hC.1 hC.2.1 dX4_copyFrom_143 ci_0 ?_
  refine lv_aload_n hC.1 hC.2.1 dX4_copyFrom_144 rfl (lv_at hl 0 rfl) ?_
  refine mw_get (v := .ref (mvA V 23)) hC hM 17 (Nat.le_of_ble_eq_true rfl) (eC_17 V) inW4 rfl 13 (by decide) q_232 (fun _ h9 => h9) rfl dX4_copyFrom_145 ?_
  refine lv_iconst hC.1 hC.2.1 dX4_copyFrom_148 ci_0 ?_
  refine lv_bipush hC.1 hC.2.1 dX4_copyFrom_149 cb_6 ?_
  obtain ⟨hg6, hf⟩ := o_g hf
  refine mw_copy (rest := []) hC hM 7 23 0 (Nat.le_of_ble_eq_true rfl) (Nat.le_of_ble_eq_true rfl) (eC_7 V) (eC_23 V) rfl hg6 hl.1 q_1134 q_722 q_721 q_127 (Nat.le_of_ble_eq_true rfl) (Nat.le_of_ble_eq_true rfl) dX4_copyFrom_151 (fun H locs hM => ?_)
  refine lv_aload_n hC.1 hC.2.1 dX4_copyFrom_154 rfl (lv_at hl 0 rfl) ?_
  refine mw_get (v := .ref (mvA V 24)) hC hM 17 (Nat.le_of_ble_eq_true rfl) (eC_17 V) inW4 rfl 14 (by decide) q_234 (fun _ h9 => h9) rfl dX4_copyFrom_155 ?_
  refine lv_aload_n hC.1 hC.2.1 dX4_copyFrom_158 rfl (lv_at hl 1 rfl) ?_
  refine mw_get (v := .ref (mvA V 8)) hC hM 1 (Nat.le_of_ble_eq_true rfl) (eC_1 V) inW4 rfl 14 (by decide) q_234 (fun _ h9 => h9) rfl dX4_copyFrom_159 ?_
  obtain ⟨r7, M9, hq8, hf⟩ := o_b2 hf
  refine mw_cVv (As := [.ref (mvA V 8)]) (rest := []) hC hM (mcX6_copyFrom_q24_q8 V l (cpy (cpy (wr (wr (wr (wr (wr (wr (wr (cpy (cpy (cpy (cpy (wr M 17 0 (M 1 0)) 2 18 0 0 7) 3 19 0 0 7) 4 20 0 0 7) 5 21 0 0 7) 17 5 ((cpy (cpy (cpy (cpy (wr M 17 0 (M 1 0)) 2 18 0 0 7) 3 19 0 0 7) 4 20 0 0 7) 5 21 0 0 7) 1 5)) 17 6 ((wr (cpy (cpy (cpy (cpy (wr M 17 0 (M 1 0)) 2 18 0 0 7) 3 19 0 0 7) 4 20 0 0 7) 5 21 0 0 7) 17 5 ((cpy (cpy (cpy (cpy (wr M 17 0 (M 1 0)) 2 18 0 0 7) 3 19 0 0 7) 4 20 0 0 7) 5 21 0 0 7) 1 5)) 1 6)) 17 7 ((wr (wr (cpy (cpy (cpy (cpy (wr M 17 0 (M 1 0)) 2 18 0 0 7) 3 19 0 0 7) 4 20 0 0 7) 5 21 0 0 7) 17 5 ((cpy (cpy (cpy (cpy (wr M 17 0 (M 1 0)) 2 18 0 0 7) 3 19 0 0 7) 4 20 0 0 7) 5 21 0 0 7) 1 5)) 17 6 ((wr (cpy (cpy (cpy (cpy (wr M 17 0 (M 1 0)) 2 18 0 0 7) 3 19 0 0 7) 4 20 0 0 7) 5 21 0 0 7) 17 5 ((cpy (cpy (cpy (cpy (wr M 17 0 (M 1 0)) 2 18 0 0 7) 3 19 0 0 7) 4 20 0 0 7) 5 21 0 0 7) 1 5)) 1 6)) 1 7)) 17 8 ((wr (wr (wr (cpy (cpy (cpy (cpy (wr M 17 0 (M 1 0)) 2 18 0 0 7) 3 19 0 0 7) 4 20 0 0 7) 5 21 0 0 7) 17 5 ((cpy (cpy (cpy (cpy (wr M 17 0 (M 1 0)) 2 18 0 0 7) 3 19 0 0 7) 4 20 0 0 7) 5 21 0 0 7) 1 5)) 17 6 ((wr (cpy (cpy (cpy (cpy (wr M 17 0 (M 1 0)) 2 18 0 0 7) 3 19 0 0 7) 4 20 0 0 7) 5 21 0 0 7) 17 5 ((cpy (cpy (cpy (cpy (wr M 17 0 (M 1 0)) 2 18 0 0 7) 3 19 0 0 7) 4 20 0 0 7) 5 21 0 0 7) 1 5)) 1 6)) 17 7 ((wr (wr (cpy (cpy (cpy (cpy (wr M 17 0 (M 1 0)) 2 18 0 0 7) 3 19 0 0 7) 4 20 0 0 7) 5 21 0 0 7) 17 5 ((cpy (cpy (cpy (cpy (wr M 17 0 (M 1 0)) 2 18 0 0 7) 3 19 0 0 7) 4 20 0 0 7) 5 21 0 0 7) 1 5)) 17 6 ((wr (cpy (cpy (cpy (cpy (wr M 17 0 (M 1 0)) 2 18 0 0 7) 3 19 0 0 7) 4 20 0 0 7) 5 21 0 0 7) 17 5 ((cpy (cpy (cpy (cpy (wr M 17 0 (M 1 0)) 2 18 0 0 7) 3 19 0 0 7) 4 20 0 0 7) 5 21 0 0 7) 1 5)) 1 6)) 1 7)) 1 8)) 17 9 ((wr (wr (wr (wr (cpy (cpy (cpy (cpy (wr M 17 0 (M 1 0)) 2 18 0 0 7) 3 19 0 0 7) 4 20 0 0 7) 5 21 0 0 7) 17 5 ((cpy (cpy (cpy (cpy (wr M 17 0 (M 1 0)) 2 18 0 0 7) 3 19 0 0 7) 4 20 0 0 7) 5 21 0 0 7) 1 5)) 17 6 ((wr (cpy (cpy (cpy (cpy (wr M 17 0 (M 1 0)) 2 18 0 0 7) 3 19 0 0 7) 4 20 0 0 7) 5 21 0 0 7) 17 5 ((cpy (cpy (cpy (cpy (wr M 17 0 (M 1 0)) 2 18 0 0 7) 3 19 0 0 7) 4 20 0 0 7) 5 21 0 0 7) 1 5)) 1 6)) 17 7 ((wr (wr (cpy (cpy (cpy (cpy (wr M 17 0 (M 1 0)) 2 18 0 0 7) 3 19 0 0 7) 4 20 0 0 7) 5 21 0 0 7) 17 5 ((cpy (cpy (cpy (cpy (wr M 17 0 (M 1 0)) 2 18 0 0 7) 3 19 0 0 7) 4 20 0 0 7) 5 21 0 0 7) 1 5)) 17 6 ((wr (cpy (cpy (cpy (cpy (wr M 17 0 (M 1 0)) 2 18 0 0 7) 3 19 0 0 7) 4 20 0 0 7) 5 21 0 0 7) 17 5 ((cpy (cpy (cpy (cpy (wr M 17 0 (M 1 0)) 2 18 0 0 7) 3 19 0 0 7) 4 20 0 0 7) 5 21 0 0 7) 1 5)) 1 6)) 1 7)) 17 8 ((wr (wr (wr (cpy (cpy (cpy (cpy (wr M 17 0 (M 1 0)) 2 18 0 0 7) 3 19 0 0 7) 4 20 0 0 7) 5 21 0 0 7) 17 5 ((cpy (cpy (cpy (cpy (wr M 17 0 (M 1 0)) 2 18 0 0 7) 3 19 0 0 7) 4 20 0 0 7) 5 21 0 0 7) 1 5)) 17 6 ((wr (cpy (cpy (cpy (cpy (wr M 17 0 (M 1 0)) 2 18 0 0 7) 3 19 0 0 7) 4 20 0 0 7) 5 21 0 0 7) 17 5 ((cpy (cpy (cpy (cpy (wr M 17 0 (M 1 0)) 2 18 0 0 7) 3 19 0 0 7) 4 20 0 0 7) 5 21 0 0 7) 1 5)) 1 6)) 17 7 ((wr (wr (cpy (cpy (cpy (cpy (wr M 17 0 (M 1 0)) 2 18 0 0 7) 3 19 0 0 7) 4 20 0 0 7) 5 21 0 0 7) 17 5 ((cpy (cpy (cpy (cpy (wr M 17 0 (M 1 0)) 2 18 0 0 7) 3 19 0 0 7) 4 20 0 0 7) 5 21 0 0 7) 1 5)) 17 6 ((wr (cpy (cpy (cpy (cpy (wr M 17 0 (M 1 0)) 2 18 0 0 7) 3 19 0 0 7) 4 20 0 0 7) 5 21 0 0 7) 17 5 ((cpy (cpy (cpy (cpy (wr M 17 0 (M 1 0)) 2 18 0 0 7) 3 19 0 0 7) 4 20 0 0 7) 5 21 0 0 7) 1 5)) 1 6)) 1 7)) 1 8)) 1 9)) 17 10 ((wr (wr (wr (wr (wr (cpy (cpy (cpy (cpy (wr M 17 0 (M 1 0)) 2 18 0 0 7) 3 19 0 0 7) 4 20 0 0 7) 5 21 0 0 7) 17 5 ((cpy (cpy (cpy (cpy (wr M 17 0 (M 1 0)) 2 18 0 0 7) 3 19 0 0 7) 4 20 0 0 7) 5 21 0 0 7) 1 5)) 17 6 ((wr (cpy (cpy (cpy (cpy (wr M 17 0 (M 1 0)) 2 18 0 0 7) 3 19 0 0 7) 4 20 0 0 7) 5 21 0 0 7) 17 5 ((cpy (cpy (cpy (cpy (wr M 17 0 (M 1 0)) 2 18 0 0 7) 3 19 0 0 7) 4 20 0 0 7) 5 21 0 0 7) 1 5)) 1 6)) 17 7 ((wr (wr (cpy (cpy (cpy (cpy (wr M 17 0 (M 1 0)) 2 18 0 0 7) 3 19 0 0 7) 4 20 0 0 7) 5 21 0 0 7) 17 5 ((cpy (cpy (cpy (cpy (wr M 17 0 (M 1 0)) 2 18 0 0 7) 3 19 0 0 7) 4 20 0 0 7) 5 21 0 0 7) 1 5)) 17 6 ((wr (cpy (cpy (cpy (cpy (wr M 17 0 (M 1 0)) 2 18 0 0 7) 3 19 0 0 7) 4 20 0 0 7) 5 21 0 0 7) 17 5 ((cpy (cpy (cpy (cpy (wr M 17 0 (M 1 0)) 2 18 0 0 7) 3 19 0 0 7) 4 20 0 0 7) 5 21 0 0 7) 1 5)) 1 6)) 1 7)) 17 8 ((wr (wr (wr (cpy (cpy (cpy (cpy (wr M 17 0 (M 1 0)) 2 18 0 0 7) 3 19 0 0 7) 4 20 0 0 7) 5 21 0 0 7) 17 5 ((cpy (cpy (cpy (cpy (wr M 17 0 (M 1 0)) 2 18 0 0 7) 3 19 0 0 7) 4 20 0 0 7) 5 21 0 0 7) 1 5)) 17 6 ((wr (cpy (cpy (cpy (cpy (wr M 17 0 (M 1 0)) 2 18 0 0 7) 3 19 0 0 7) 4 20 0 0 7) 5 21 0 0 7) 17 5 ((cpy (cpy (cpy (cpy (wr M 17 0 (M 1 0)) 2 18 0 0 7) 3 19 0 0 7) 4 20 0 0 7) 5 21 0 0 7) 1 5)) 1 6)) 17 7 ((wr (wr (cpy (cpy (cpy (cpy (wr M 17 0 (M 1 0)) 2 18 0 0 7) 3 19 0 0 7) 4 20 0 0 7) 5 21 0 0 7) 17 5 ((cpy (cpy (cpy (cpy (wr M 17 0 (M 1 0)) 2 18 0 0 7) 3 19 0 0 7) 4 20 0 0 7) 5 21 0 0 7) 1 5)) 17 6 ((wr (cpy (cpy (cpy (cpy (wr M 17 0 (M 1 0)) 2 18 0 0 7) 3 19 0 0 7) 4 20 0 0 7) 5 21 0 0 7) 17 5 ((cpy (cpy (cpy (cpy (wr M 17 0 (M 1 0)) 2 18 0 0 7) 3 19 0 0 7) 4 20 0 0 7) 5 21 0 0 7) 1 5)) 1 6)) 1 7)) 1 8)) 17 9 ((wr (wr (wr (wr (cpy (cpy (cpy (cpy (wr M 17 0 (M 1 0)) 2 18 0 0 7) 3 19 0 0 7) 4 20 0 0 7) 5 21 0 0 7) 17 5 ((cpy (cpy (cpy (cpy (wr M 17 0 (M 1 0)) 2 18 0 0 7) 3 19 0 0 7) 4 20 0 0 7) 5 21 0 0 7) 1 5)) 17 6 ((wr (cpy (cpy (cpy (cpy (wr M 17 0 (M 1 0)) 2 18 0 0 7) 3 19 0 0 7) 4 20 0 0 7) 5 21 0 0 7) 17 5 ((cpy (cpy (cpy (cpy (wr M 17 0 (M 1 0)) 2 18 0 0 7) 3 19 0 0 7) 4 20 0 0 7) 5 21 0 0 7) 1 5)) 1 6)) 17 7 ((wr (wr (cpy (cpy (cpy (cpy (wr M 17 0 (M 1 0)) 2 18 0 0 7) 3 19 0 0 7) 4 20 0 0 7) 5 21 0 0 7) 17 5 ((cpy (cpy (cpy (cpy (wr M 17 0 (M 1 0)) 2 18 0 0 7) 3 19 0 0 7) 4 20 0 0 7) 5 21 0 0 7) 1 5)) 17 6 ((wr (cpy (cpy (cpy (cpy (wr M 17 0 (M 1 0)) 2 18 0 0 7) 3 19 0 0 7) 4 20 0 0 7) 5 21 0 0 7) 17 5 ((cpy (cpy (cpy (cpy (wr M 17 0 (M 1 0)) 2 18 0 0 7) 3 19 0 0 7) 4 20 0 0 7) 5 21 0 0 7) 1 5)) 1 6)) 1 7)) 17 8 ((wr (wr (wr (cpy (cpy (cpy (cpy (wr M 17 0 (M 1 0)) 2 18 0 0 7) 3 19 0 0 7) 4 20 0 0 7) 5 21 0 0 7) 17 5 ((cpy (cpy (cpy (cpy (wr M 17 0 (M 1 0)) 2 18 0 0 7) 3 19 0 0 7) 4 20 0 0 7) 5 21 0 0 7) 1 5)) 17 6 ((wr (cpy (cpy (cpy (cpy (wr M 17 0 (M 1 0)) 2 18 0 0 7) 3 19 0 0 7) 4 20 0 0 7) 5 21 0 0 7) 17 5 ((cpy (cpy (cpy (cpy (wr M 17 0 (M 1 0)) 2 18 0 0 7) 3 19 0 0 7) 4 20 0 0 7) 5 21 0 0 7) 1 5)) 1 6)) 17 7 ((wr (wr (cpy (cpy (cpy (cpy (wr M 17 0 (M 1 0)) 2 18 0 0 7) 3 19 0 0 7) 4 20 0 0 7) 5 21 0 0 7) 17 5 ((cpy (cpy (cpy (cpy (wr M 17 0 (M 1 0)) 2 18 0 0 7) 3 19 0 0 7) 4 20 0 0 7) 5 21 0 0 7) 1 5)) 17 6 ((wr (cpy (cpy (cpy (cpy (wr M 17 0 (M 1 0)) 2 18 0 0 7) 3 19 0 0 7) 4 20 0 0 7) 5 21 0 0 7) 17 5 ((cpy (cpy (cpy (cpy (wr M 17 0 (M 1 0)) 2 18 0 0 7) 3 19 0 0 7) 4 20 0 0 7) 5 21 0 0 7) 1 5)) 1 6)) 1 7)) 1 8)) 1 9)) 1 10)) 17 11 ((wr (wr (wr (wr (wr (wr (cpy (cpy (cpy (cpy (wr M 17 0 (M 1 0)) 2 18 0 0 7) 3 19 0 0 7) 4 20 0 0 7) 5 21 0 0 7) 17 5 ((cpy (cpy (cpy (cpy (wr M 17 0 (M 1 0)) 2 18 0 0 7) 3 19 0 0 7) 4 20 0 0 7) 5 21 0 0 7) 1 5)) 17 6 ((wr (cpy (cpy (cpy (cpy (wr M 17 0 (M 1 0)) 2 18 0 0 7) 3 19 0 0 7) 4 20 0 0 7) 5 21 0 0 7) 17 5 ((cpy (cpy (cpy (cpy (wr M 17 0 (M 1 0)) 2 18 0 0 7) 3 19 0 0 7) 4 20 0 0 7) 5 21 0 0 7) 1 5)) 1 6)) 17 7 ((wr (wr (cpy (cpy (cpy (cpy (wr M 17 0 (M 1 0)) 2 18 0 0 7) 3 19 0 0 7) 4 20 0 0 7) 5 21 0 0 7) 17 5 ((cpy (cpy (cpy (cpy (wr M 17 0 (M 1 0)) 2 18 0 0 7) 3 19 0 0 7) 4 20 0 0 7) 5 21 0 0 7) 1 5)) 17 6 ((wr (cpy (cpy (cpy (cpy (wr M 17 0 (M 1 0)) 2 18 0 0 7) 3 19 0 0 7) 4 20 0 0 7) 5 21 0 0 7) 17 5 ((cpy (cpy (cpy (cpy (wr M 17 0 (M 1 0)) 2 18 0 0 7) 3 19 0 0 7) 4 20 0 0 7) 5 21 0 0 7) 1 5)) 1 6)) 1 7)) 17 8 ((wr (wr (wr (cpy (cpy (cpy (cpy (wr M 17 0 (M 1 0)) 2 18 0 0 7) 3 19 0 0 7) 4 20 0 0 7) 5 21 0 0 7) 17 5 ((cpy (cpy (cpy (cpy (wr M 17 0 (M 1 0)) 2 18 0 0 7) 3 19 0 0 7) 4 20 0 0 7) 5 21 0 0 7) 1 5)) 17 6 ((wr (cpy (cpy (cpy (cpy (wr M 17 0 (M 1 0)) 2 18 0 0 7) 3 19 0 0 7) 4 20 0 0 7) 5 21 0 0 7) 17 5 ((cpy (cpy (cpy (cpy (wr M 17 0 (M 1 0)) 2 18 0 0 7) 3 19 0 0 7) 4 20 0 0 7) 5 21 0 0 7) 1 5)) 1 6)) 17 7 ((wr (wr (cpy (cpy (cpy (cpy (wr M 17 0 (M 1 0)) 2 18 0 0 7) 3 19 0 0 7) 4 20 0 0 7) 5 21 0 0 7) 17 5 ((cpy (cpy (cpy (cpy (wr M 17 0 (M 1 0)) 2 18 0 0 7) 3 19 0 0 7) 4 20 0 0 7) 5 21 0 0 7) 1 5)) 17 6 ((wr (cpy (cpy (cpy (cpy (wr M 17 0 (M 1 0)) 2 18 0 0 7) 3 19 0 0 7) 4 20 0 0 7) 5 21 0 0 7) 17 5 ((cpy (cpy (cpy (cpy (wr M 17 0 (M 1 0)) 2 18 0 0 7) 3 19 0 0 7) 4 20 0 0 7) 5 21 0 0 7) 1 5)) 1 6)) 1 7)) 1 8)) 17 9 ((wr (wr (wr (wr (cpy (cpy (cpy (cpy (wr M 17 0 (M 1 0)) 2 18 0 0 7) 3 19 0 0 7) 4 20 0 0 7) 5 21 0 0 7) 17 5 ((cpy (cpy (cpy (cpy (wr M 17 0 (M 1 0)) 2 18 0 0 7) 3 19 0 0 7) 4 20 0 0 7) 5 21 0 0 7) 1 5)) 17 6 ((wr (cpy (cpy (cpy (cpy (wr M 17 0 (M 1 0)) 2 18 0 0 7) 3 19 0 0 7) 4 20 0 0 7) 5 21 0 0 7) 17 5 ((cpy (cpy (cpy (cpy (wr M 17 0 (M 1 0)) 2 18 0 0 7) 3 19 0 0 7) 4 20 0 0 7) 5 21 0 0 7) 1 5)) 1 6)) 17 7 ((wr (wr (cpy (cpy (cpy (cpy (wr M 17 0 (M 1 0)) 2 18 0 0 7) 3 19 0 0 7) 4 20 0 0 7) 5 21 0 0 7) 17 5 ((cpy (cpy (cpy (cpy (wr M 17 0 (M 1 0)) 2 18 0 0 7) 3 19 0 0 7) 4 20 0 0 7) 5 21 0 0 7) 1 5)) 17 6 ((wr (cpy (cpy (cpy (cpy (wr M 17 0 (M 1 0)) 2 18 0 0 7) 3 19 0 0 7) 4 20 0 0 7) 5 21 0 0 7) 17 5 ((cpy (cpy (cpy (cpy (wr M 17 0 (M 1 0)) 2 18 0 0 7) 3 19 0 0 7) 4 20 0 0 7) 5 21 0 0 7) 1 5)) 1 6)) 1 7)) 17 8 ((wr (wr (wr (cpy (cpy (cpy (cpy (wr M 17 0 (M 1 0)) 2 18 0 0 7) 3 19 0 0 7) 4 20 0 0 7) 5 21 0 0 7) 17 5 ((cpy (cpy (cpy (cpy (wr M 17 0 (M 1 0)) 2 18 0 0 7) 3 19 0 0 7) 4 20 0 0 7) 5 21 0 0 7) 1 5)) 17 6 ((wr (cpy (cpy (cpy (cpy (wr M 17 0 (M 1 0)) 2 18 0 0 7) 3 19 0 0 7) 4 20 0 0 7) 5 21 0 0 7) 17 5 ((cpy (cpy (cpy (cpy (wr M 17 0 (M 1 0)) 2 18 0 0 7) 3 19 0 0 7) 4 20 0 0 7) 5 21 0 0 7) 1 5)) 1 6)) 17 7 ((wr (wr (cpy (cpy (cpy (cpy (wr M 17 0 (M 1 0)) 2 18 0 0 7) 3 19 0 0 7) 4 20 0 0 7) 5 21 0 0 7) 17 5 ((cpy (cpy (cpy (cpy (wr M 17 0 (M 1 0)) 2 18 0 0 7) 3 19 0 0 7) 4 20 0 0 7) 5 21 0 0 7) 1 5)) 17 6 ((wr (cpy (cpy (cpy (cpy (wr M 17 0 (M 1 0)) 2 18 0 0 7) 3 19 0 0 7) 4 20 0 0 7) 5 21 0 0 7) 17 5 ((cpy (cpy (cpy (cpy (wr M 17 0 (M 1 0)) 2 18 0 0 7) 3 19 0 0 7) 4 20 0 0 7) 5 21 0 0 7) 1 5)) 1 6)) 1 7)) 1 8)) 1 9)) 17 10 ((wr (wr (wr (wr (wr (cpy (cpy (cpy (cpy (wr M 17 0 (M 1 0)) 2 18 0 0 7) 3 19 0 0 7) 4 20 0 0 7) 5 21 0 0 7) 17 5 ((cpy (cpy (cpy (cpy (wr M 17 0 (M 1 0)) 2 18 0 0 7) 3 19 0 0 7) 4 20 0 0 7) 5 21 0 0 7) 1 5)) 17 6 ((wr (cpy (cpy (cpy (cpy (wr M 17 0 (M 1 0)) 2 18 0 0 7) 3 19 0 0 7) 4 20 0 0 7) 5 21 0 0 7) 17 5 ((cpy (cpy (cpy (cpy (wr M 17 0 (M 1 0)) 2 18 0 0 7) 3 19 0 0 7) 4 20 0 0 7) 5 21 0 0 7) 1 5)) 1 6)) 17 7 ((wr (wr (cpy (cpy (cpy (cpy (wr M 17 0 (M 1 0)) 2 18 0 0 7) 3 19 0 0 7) 4 20 0 0 7) 5 21 0 0 7) 17 5 ((cpy (cpy (cpy (cpy (wr M 17 0 (M 1 0)) 2 18 0 0 7) 3 19 0 0 7) 4 20 0 0 7) 5 21 0 0 7) 1 5)) 17 6 ((wr (cpy (cpy (cpy (cpy (wr M 17 0 (M 1 0)) 2 18 0 0 7) 3 19 0 0 7) 4 20 0 0 7) 5 21 0 0 7) 17 5 ((cpy (cpy (cpy (cpy (wr M 17 0 (M 1 0)) 2 18 0 0 7) 3 19 0 0 7) 4 20 0 0 7) 5 21 0 0 7) 1 5)) 1 6)) 1 7)) 17 8 ((wr (wr (wr (cpy (cpy (cpy (cpy (wr M 17 0 (M 1 0)) 2 18 0 0 7) 3 19 0 0 7) 4 20 0 0 7) 5 21 0 0 7) 17 5 ((cpy (cpy (cpy (cpy (wr M 17 0 (M 1 0)) 2 18 0 0 7) 3 19 0 0 7) 4 20 0 0 7) 5 21 0 0 7) 1 5)) 17 6 ((wr (cpy (cpy (cpy (cpy (wr M 17 0 (M 1 0)) 2 18 0 0 7) 3 19 0 0 7) 4 20 0 0 7) 5 21 0 0 7) 17 5 ((cpy (cpy (cpy (cpy (wr M 17 0 (M 1 0)) 2 18 0 0 7) 3 19 0 0 7) 4 20 0 0 7) 5 21 0 0 7) 1 5)) 1 6)) 17 7 ((wr (wr (cpy (cpy (cpy (cpy (wr M 17 0 (M 1 0)) 2 18 0 0 7) 3 19 0 0 7) 4 20 0 0 7) 5 21 0 0 7) 17 5 ((cpy (cpy (cpy (cpy (wr M 17 0 (M 1 0)) 2 18 0 0 7) 3 19 0 0 7) 4 20 0 0 7) 5 21 0 0 7) 1 5)) 17 6 ((wr (cpy (cpy (cpy (cpy (wr M 17 0 (M 1 0)) 2 18 0 0 7) 3 19 0 0 7) 4 20 0 0 7) 5 21 0 0 7) 17 5 ((cpy (cpy (cpy (cpy (wr M 17 0 (M 1 0)) 2 18 0 0 7) 3 19 0 0 7) 4 20 0 0 7) 5 21 0 0 7) 1 5)) 1 6)) 1 7)) 1 8)) 17 9 ((wr (wr (wr (wr (cpy (cpy (cpy (cpy (wr M 17 0 (M 1 0)) 2 18 0 0 7) 3 19 0 0 7) 4 20 0 0 7) 5 21 0 0 7) 17 5 ((cpy (cpy (cpy (cpy (wr M 17 0 (M 1 0)) 2 18 0 0 7) 3 19 0 0 7) 4 20 0 0 7) 5 21 0 0 7) 1 5)) 17 6 ((wr (cpy (cpy (cpy (cpy (wr M 17 0 (M 1 0)) 2 18 0 0 7) 3 19 0 0 7) 4 20 0 0 7) 5 21 0 0 7) 17 5 ((cpy (cpy (cpy (cpy (wr M 17 0 (M 1 0)) 2 18 0 0 7) 3 19 0 0 7) 4 20 0 0 7) 5 21 0 0 7) 1 5)) 1 6)) 17 7 ((wr (wr (cpy (cpy (cpy (cpy (wr M 17 0 (M 1 0)) 2 18 0 0 7) 3 19 0 0 7) 4 20 0 0 7) 5 21 0 0 7) 17 5 ((cpy (cpy (cpy (cpy (wr M 17 0 (M 1 0)) 2 18 0 0 7) 3 19 0 0 7) 4 20 0 0 7) 5 21 0 0 7) 1 5)) 17 6 ((wr (cpy (cpy (cpy (cpy (wr M 17 0 (M 1 0)) 2 18 0 0 7) 3 19 0 0 7) 4 20 0 0 7) 5 21 0 0 7) 17 5 ((cpy (cpy (cpy (cpy (wr M 17 0 (M 1 0)) 2 18 0 0 7) 3 19 0 0 7) 4 20 0 0 7) 5 21 0 0 7) 1 5)) 1 6)) 1 7)) 17 8 ((wr (wr (wr (cpy (cpy (cpy (cpy (wr M 17 0 (M 1 0)) 2 18 0 0 7) 3 19 0 0 7) 4 20 0 0 7) 5 21 0 0 7) 17 5 ((cpy (cpy (cpy (cpy (wr M 17 0 (M 1 0)) 2 18 0 0 7) 3 19 0 0 7) 4 20 0 0 7) 5 21 0 0 7) 1 5)) 17 6 ((wr (cpy (cpy (cpy (cpy (wr M 17 0 (M 1 0)) 2 18 0 0 7) 3 19 0 0 7) 4 20 0 0 7) 5 21 0 0 7) 17 5 ((cpy (cpy (cpy (cpy (wr M 17 0 (M 1 0)) 2 18 0 0 7) 3 19 0 0 7) 4 20 0 0 7) 5 21 0 0 7) 1 5)) 1 6)) 17 7 ((wr (wr (cpy (cpy (cpy (cpy (wr M 17 0 (M 1 0)) 2 18 0 0 7) 3 19 0 0 7) 4 20 0 0 7) 5 21 0 0 7) 17 5 ((cpy (cpy (cpy (cpy (wr M 17 0 (M 1 0)) 2 18 0 0 7) 3 19 0 0 7) 4 20 0 0 7) 5 21 0 0 7) 1 5)) 17 6 ((wr (cpy (cpy (cpy (cpy (wr M 17 0 (M 1 0)) 2 18 0 0 7) 3 19 0 0 7) 4 20 0 0 7) 5 21 0 0 7) 17 5 ((cpy (cpy (cpy (cpy (wr M 17 0 (M 1 0)) 2 18 0 0 7) 3 19 0 0 7) 4 20 0 0 7) 5 21 0 0 7) 1 5)) 1 6)) 1 7)) 1 8)) 1 9)) 1 10)) 1 11)) 6 22 0 0 6) 7 23 0 0 6) r7 M9 hq8) (mw_kV hC q_1135 q_717 q_718 q_110 q_719 ⟨rfl, rfl⟩ kV_X6_copyFrom ⟨Nat.le_of_ble_eq_true rfl, Nat.le_of_ble_eq_true rfl⟩) (Nat.le_of_ble_eq_true rfl) (eC_24 V) rfl rfl rfl (Nat.le_of_ble_eq_true rfl) hl.1 dX4_copyFrom_162 (fun H locs hM => ?_)
  exact hret (o_r2 hf hM) dX4_copyFrom_165
set_option maxHeartbeats 4000000 in
set_option maxRecDepth 100000 in
theorem mcX11_keep (V : mV) (l : Launch) (M : mM) (r : Int32) (M' : mM) (hf : fX11_keep M = some (r, M')) : IC V l yX11_keep cX11_keep 1 ({ frames := 3, cells := 0, slots := 0, locals := 82 } : Room) [.ref (mvA V 0)] M r M' := by
  unfold fX11_keep at hf
  refine mw_enterI RX11 rfl (by decide +kernel) (Nat.le_of_ble_eq_true rfl) (fun {p e s m args below meth c} ls A Q hC hret hM hl => ?_)
  have hl : lv_has ls 1 [(0, .ref (mvA V 0))] := hl
  refine lv_aload_n hC.1 hC.2.1 dX11_keep_0 rfl (lv_at hl 0 rfl) ?_
  refine mw_get (v := .ref (mvA V 17)) hC hM 0 (Nat.le_of_ble_eq_true rfl) (eC_0 V) inW11 rfl 1 (by decide) q_425 (fun _ h9 => h9) rfl dX11_keep_1 ?_
  refine lv_aload_n hC.1 hC.2.1 dX11_keep_4 rfl (lv_at hl 0 rfl) ?_
  refine mw_get (v := .ref (mvA V 1)) hC hM 0 (Nat.le_of_ble_eq_true rfl) (eC_0 V) inW11 rfl 0 (by decide) q_424 (fun _ h9 => h9) rfl dX11_keep_5 ?_
  obtain ⟨r1, M3, hq2, hf⟩ := o_b2 hf
  refine mw_cVv (As := [.ref (mvA V 1)]) (rest := []) hC hM (mcX4_copyFrom_q17_q1 V l M r1 M3 hq2) (mw_kV hC q_1130 q_1131 q_1132 q_109 q_1133 ⟨rfl, rfl⟩ kV_X4_copyFrom ⟨Nat.le_of_ble_eq_true rfl, Nat.le_of_ble_eq_true rfl⟩) (Nat.le_of_ble_eq_true rfl) (eC_17 V) rfl rfl rfl (Nat.le_of_ble_eq_true rfl) hl.1 dX11_keep_8 (fun H locs hM => ?_)
  refine lv_aload_n hC.1 hC.2.1 dX11_keep_11 rfl (lv_at hl 0 rfl) ?_
  refine lv_iconst hC.1 hC.2.1 dX11_keep_12 ci_1 ?_
  refine mw_put hC hM 0 (Nat.le_of_ble_eq_true rfl) (eC_0 V) inW11 tyX11 tyX11_ok nmX11 rfl 2 (by decide) q_426 (fun _ h9 => h9) rfl (nar_b (Or.inr rfl)) (fit_b (Or.inr rfl)) (Nat.le_of_ble_eq_true rfl) rfl dX11_keep_13 (fun H locs hM => ?_)
  refine lv_iconst hC.1 hC.2.1 dX11_keep_16 ci_1 ?_
  exact hret (o_r1 hf) (o_r2 hf hM) dX11_keep_17
set_option maxHeartbeats 4000000 in
set_option maxRecDepth 100000 in
theorem mcX6_copyFrom_q8_q24 (V : mV) (l : Launch) (M : mM) (r : Int32) (M' : mM) (hf : fX6_copyFrom_q8_q24 M = some (r, M')) : UC V l yX6_copyFrom cX6_copyFrom 2 ({ frames := 1, cells := 0, slots := 0, locals := 40 } : Room) [.ref (mvA V 8), .ref (mvA V 24)] M M' := by
  unfold fX6_copyFrom_q8_q24 at hf
  refine mw_enterV RX6 rfl (by decide +kernel) (Nat.le_of_ble_eq_true rfl) (fun {p e s m args below meth c} ls A Q hC hret hM hl => ?_)
  have hl : lv_has ls 2 [(0, .ref (mvA V 8)), (1, .ref (mvA V 24))] := hl
  refine lv_aload_n hC.1 hC.2.1 dX6_copyFrom_0 rfl (lv_at hl 0 rfl) ?_
  refine lv_aload_n hC.1 hC.2.1 dX6_copyFrom_1 rfl (lv_at hl 1 rfl) ?_
  refine mw_get (v := .int (M 24 0)) hC hM 24 (Nat.le_of_ble_eq_true rfl) (eC_24 V) inW6 rfl 0 (by decide) q_169 (fun _ h9 => h9) rfl dX6_copyFrom_2 ?_
  refine mw_put hC hM 8 (Nat.le_of_ble_eq_true rfl) (eC_8 V) inW6 tyX6 tyX6_ok nmX6 rfl 0 (by decide) q_169 (fun _ h9 => h9) rfl rfl rfl (Nat.le_of_ble_eq_true rfl) rfl dX6_copyFrom_5 (fun H locs hM => ?_)
  refine lv_aload_n hC.1 hC.2.1 dX6_copyFrom_8 rfl (lv_at hl 1 rfl) ?_
  refine mw_get (v := .ref (mvA V 25)) hC hM 24 (Nat.le_of_ble_eq_true rfl) (eC_24 V) inW6 rfl 1 (by decide) q_171 (fun _ h9 => h9) rfl dX6_copyFrom_9 ?_
  refine lv_iconst hC.1 hC.2.1 dX6_copyFrom_12 ci_0 ?_
  refine lv_aload_n hC.1 hC.2.1 dX6_copyFrom_13 rfl (lv_at hl 0 rfl) ?_
  refine mw_get (v := .ref (mvA V 9)) hC hM 8 (Nat.le_of_ble_eq_true rfl) (eC_8 V) inW6 rfl 1 (by decide) q_171 (fun _ h9 => h9) rfl dX6_copyFrom_14 ?_
  refine lv_iconst hC.1 hC.2.1 dX6_copyFrom_17 ci_0 ?_
  refine lv_bipush hC.1 hC.2.1 dX6_copyFrom_18 cb_8 ?_
  obtain ⟨hg1, hf⟩ := o_g hf
  refine mw_copy (rest := []) hC hM 25 9 0 (Nat.le_of_ble_eq_true rfl) (Nat.le_of_ble_eq_true rfl) (eC_25 V) (eC_9 V) rfl hg1 hl.1 q_720 q_722 q_721 q_127 (Nat.le_of_ble_eq_true rfl) (Nat.le_of_ble_eq_true rfl) dX6_copyFrom_20 (fun H locs hM => ?_)
  refine lv_aload_n hC.1 hC.2.1 dX6_copyFrom_23 rfl (lv_at hl 1 rfl) ?_
  refine mw_get (v := .ref (mvA V 26)) hC hM 24 (Nat.le_of_ble_eq_true rfl) (eC_24 V) inW6 rfl 2 (by decide) q_172 (fun _ h9 => h9) rfl dX6_copyFrom_24 ?_
  refine lv_iconst hC.1 hC.2.1 dX6_copyFrom_27 ci_0 ?_
  refine lv_aload_n hC.1 hC.2.1 dX6_copyFrom_28 rfl (lv_at hl 0 rfl) ?_
  refine mw_get (v := .ref (mvA V 10)) hC hM 8 (Nat.le_of_ble_eq_true rfl) (eC_8 V) inW6 rfl 2 (by decide) q_172 (fun _ h9 => h9) rfl dX6_copyFrom_29 ?_
  refine lv_iconst hC.1 hC.2.1 dX6_copyFrom_32 ci_0 ?_
  refine lv_bipush hC.1 hC.2.1 dX6_copyFrom_33 cb_8 ?_
  obtain ⟨hg2, hf⟩ := o_g hf
  refine mw_copy (rest := []) hC hM 26 10 0 (Nat.le_of_ble_eq_true rfl) (Nat.le_of_ble_eq_true rfl) (eC_26 V) (eC_10 V) rfl hg2 hl.1 q_720 q_722 q_721 q_127 (Nat.le_of_ble_eq_true rfl) (Nat.le_of_ble_eq_true rfl) dX6_copyFrom_35 (fun H locs hM => ?_)
  refine lv_aload_n hC.1 hC.2.1 dX6_copyFrom_38 rfl (lv_at hl 1 rfl) ?_
  refine mw_get (v := .ref (mvA V 27)) hC hM 24 (Nat.le_of_ble_eq_true rfl) (eC_24 V) inW6 rfl 3 (by decide) q_173 (fun _ h9 => h9) rfl dX6_copyFrom_39 ?_
  refine lv_iconst hC.1 hC.2.1 dX6_copyFrom_42 ci_0 ?_
  refine lv_aload_n hC.1 hC.2.1 dX6_copyFrom_43 rfl (lv_at hl 0 rfl) ?_
  refine mw_get (v := .ref (mvA V 11)) hC hM 8 (Nat.le_of_ble_eq_true rfl) (eC_8 V) inW6 rfl 3 (by decide) q_173 (fun _ h9 => h9) rfl dX6_copyFrom_44 ?_
  refine lv_iconst hC.1 hC.2.1 dX6_copyFrom_47 ci_0 ?_
  refine lv_bipush hC.1 hC.2.1 dX6_copyFrom_48 cb_8 ?_
  obtain ⟨hg3, hf⟩ := o_g hf
  refine mw_copy (rest := []) hC hM 27 11 0 (Nat.le_of_ble_eq_true rfl) (Nat.le_of_ble_eq_true rfl) (eC_27 V) (eC_11 V) rfl hg3 hl.1 q_720 q_722 q_721 q_127 (Nat.le_of_ble_eq_true rfl) (Nat.le_of_ble_eq_true rfl) dX6_copyFrom_50 (fun H locs hM => ?_)
  refine lv_aload_n hC.1 hC.2.1 dX6_copyFrom_53 rfl (lv_at hl 1 rfl) ?_
  refine mw_get (v := .ref (mvA V 28)) hC hM 24 (Nat.le_of_ble_eq_true rfl) (eC_24 V) inW6 rfl 4 (by decide) q_174 (fun _ h9 => h9) rfl dX6_copyFrom_54 ?_
  refine lv_iconst hC.1 hC.2.1 dX6_copyFrom_57 ci_0 ?_
  refine lv_aload_n hC.1 hC.2.1 dX6_copyFrom_58 rfl (lv_at hl 0 rfl) ?_
  refine mw_get (v := .ref (mvA V 12)) hC hM 8 (Nat.le_of_ble_eq_true rfl) (eC_8 V) inW6 rfl 4 (by decide) q_174 (fun _ h9 => h9) rfl dX6_copyFrom_59 ?_
  refine lv_iconst hC.1 hC.2.1 dX6_copyFrom_62 ci_0 ?_
  refine lv_bipush hC.1 hC.2.1 dX6_copyFrom_63 cb_8 ?_
  obtain ⟨hg4, hf⟩ := o_g hf
  refine mw_copy (rest := []) hC hM 28 12 0 (Nat.le_of_ble_eq_true rfl) (Nat.le_of_ble_eq_true rfl) (eC_28 V) (eC_12 V) rfl hg4 hl.1 q_720 q_722 q_721 q_127 (Nat.le_of_ble_eq_true rfl) (Nat.le_of_ble_eq_true rfl) dX6_copyFrom_65 (fun H locs hM => ?_)
  refine lv_aload_n hC.1 hC.2.1 dX6_copyFrom_68 rfl (lv_at hl 0 rfl) ?_
  refine lv_aload_n hC.1 hC.2.1 dX6_copyFrom_69 rfl (lv_at hl 1 rfl) ?_
  refine mw_get (v := .int ((cpy (cpy (cpy (cpy (wr M 8 0 (M 24 0)) 25 9 0 0 8) 26 10 0 0 8) 27 11 0 0 8) 28 12 0 0 8) 24 5)) hC hM 24 (Nat.le_of_ble_eq_true rfl) (eC_24 V) inW6 rfl 5 (by decide) q_175 (fun _ h9 => h9) rfl dX6_copyFrom_70 ?_
  refine mw_put hC hM 8 (Nat.le_of_ble_eq_true rfl) (eC_8 V) inW6 tyX6 tyX6_ok nmX6 rfl 5 (by decide) q_175 (fun _ h9 => h9) rfl rfl rfl (Nat.le_of_ble_eq_true rfl) rfl dX6_copyFrom_73 (fun H locs hM => ?_)
  refine lv_aload_n hC.1 hC.2.1 dX6_copyFrom_76 rfl (lv_at hl 1 rfl) ?_
  refine mw_get (v := .ref (mvA V 29)) hC hM 24 (Nat.le_of_ble_eq_true rfl) (eC_24 V) inW6 rfl 6 (by decide) q_176 (fun _ h9 => h9) rfl dX6_copyFrom_77 ?_
  refine lv_iconst hC.1 hC.2.1 dX6_copyFrom_80 ci_0 ?_
  refine lv_aload_n hC.1 hC.2.1 dX6_copyFrom_81 rfl (lv_at hl 0 rfl) ?_
  refine mw_get (v := .ref (mvA V 13)) hC hM 8 (Nat.le_of_ble_eq_true rfl) (eC_8 V) inW6 rfl 6 (by decide) q_176 (fun _ h9 => h9) rfl dX6_copyFrom_82 ?_
  refine lv_iconst hC.1 hC.2.1 dX6_copyFrom_85 ci_0 ?_
  refine lv_aload_n hC.1 hC.2.1 dX6_copyFrom_86 rfl (lv_at hl 0 rfl) ?_
  refine mw_get (v := .int ((wr (cpy (cpy (cpy (cpy (wr M 8 0 (M 24 0)) 25 9 0 0 8) 26 10 0 0 8) 27 11 0 0 8) 28 12 0 0 8) 8 5 ((cpy (cpy (cpy (cpy (wr M 8 0 (M 24 0)) 25 9 0 0 8) 26 10 0 0 8) 27 11 0 0 8) 28 12 0 0 8) 24 5)) 8 5)) hC hM 8 (Nat.le_of_ble_eq_true rfl) (eC_8 V) inW6 rfl 5 (by decide) q_175 (fun _ h9 => h9) rfl dX6_copyFrom_87 ?_
  obtain ⟨hg5, hf⟩ := o_g hf
  refine mw_copy (rest := []) hC hM 29 13 0 (Nat.le_of_ble_eq_true rfl) (Nat.le_of_ble_eq_true rfl) (eC_29 V) (eC_13 V) rfl hg5 hl.1 q_720 q_722 q_721 q_127 (Nat.le_of_ble_eq_true rfl) (Nat.le_of_ble_eq_true rfl) dX6_copyFrom_90 (fun H locs hM => ?_)
  refine lv_aload_n hC.1 hC.2.1 dX6_copyFrom_93 rfl (lv_at hl 1 rfl) ?_
  refine mw_get (v := .ref (mvA V 30)) hC hM 24 (Nat.le_of_ble_eq_true rfl) (eC_24 V) inW6 rfl 7 (by decide) q_177 (fun _ h9 => h9) rfl dX6_copyFrom_94 ?_
  refine lv_iconst hC.1 hC.2.1 dX6_copyFrom_97 ci_0 ?_
  refine lv_aload_n hC.1 hC.2.1 dX6_copyFrom_98 rfl (lv_at hl 0 rfl) ?_
  refine mw_get (v := .ref (mvA V 14)) hC hM 8 (Nat.le_of_ble_eq_true rfl) (eC_8 V) inW6 rfl 7 (by decide) q_177 (fun _ h9 => h9) rfl dX6_copyFrom_99 ?_
  refine lv_iconst hC.1 hC.2.1 dX6_copyFrom_102 ci_0 ?_
  refine lv_aload_n hC.1 hC.2.1 dX6_copyFrom_103 rfl (lv_at hl 0 rfl) ?_
  refine mw_get (v := .int ((cpy (wr (cpy (cpy (cpy (cpy (wr M 8 0 (M 24 0)) 25 9 0 0 8) 26 10 0 0 8) 27 11 0 0 8) 28 12 0 0 8) 8 5 ((cpy (cpy (cpy (cpy (wr M 8 0 (M 24 0)) 25 9 0 0 8) 26 10 0 0 8) 27 11 0 0 8) 28 12 0 0 8) 24 5)) 29 13 0 0 ((wr (cpy (cpy (cpy (cpy (wr M 8 0 (M 24 0)) 25 9 0 0 8) 26 10 0 0 8) 27 11 0 0 8) 28 12 0 0 8) 8 5 ((cpy (cpy (cpy (cpy (wr M 8 0 (M 24 0)) 25 9 0 0 8) 26 10 0 0 8) 27 11 0 0 8) 28 12 0 0 8) 24 5)) 8 5)) 8 5)) hC hM 8 (Nat.le_of_ble_eq_true rfl) (eC_8 V) inW6 rfl 5 (by decide) q_175 (fun _ h9 => h9) rfl dX6_copyFrom_104 ?_
  obtain ⟨hg6, hf⟩ := o_g hf
  refine mw_copy (rest := []) hC hM 30 14 0 (Nat.le_of_ble_eq_true rfl) (Nat.le_of_ble_eq_true rfl) (eC_30 V) (eC_14 V) rfl hg6 hl.1 q_720 q_722 q_721 q_127 (Nat.le_of_ble_eq_true rfl) (Nat.le_of_ble_eq_true rfl) dX6_copyFrom_107 (fun H locs hM => ?_)
  refine lv_aload_n hC.1 hC.2.1 dX6_copyFrom_110 rfl (lv_at hl 1 rfl) ?_
  refine mw_get (v := .ref (mvA V 31)) hC hM 24 (Nat.le_of_ble_eq_true rfl) (eC_24 V) inW6 rfl 8 (by decide) q_178 (fun _ h9 => h9) rfl dX6_copyFrom_111 ?_
  refine lv_iconst hC.1 hC.2.1 dX6_copyFrom_114 ci_0 ?_
  refine lv_aload_n hC.1 hC.2.1 dX6_copyFrom_115 rfl (lv_at hl 0 rfl) ?_
  refine mw_get (v := .ref (mvA V 15)) hC hM 8 (Nat.le_of_ble_eq_true rfl) (eC_8 V) inW6 rfl 8 (by decide) q_178 (fun _ h9 => h9) rfl dX6_copyFrom_116 ?_
  refine lv_iconst hC.1 hC.2.1 dX6_copyFrom_119 ci_0 ?_
  refine lv_aload_n hC.1 hC.2.1 dX6_copyFrom_120 rfl (lv_at hl 0 rfl) ?_
  refine mw_get (v := .int ((cpy (cpy (wr (cpy (cpy (cpy (cpy (wr M 8 0 (M 24 0)) 25 9 0 0 8) 26 10 0 0 8) 27 11 0 0 8) 28 12 0 0 8) 8 5 ((cpy (cpy (cpy (cpy (wr M 8 0 (M 24 0)) 25 9 0 0 8) 26 10 0 0 8) 27 11 0 0 8) 28 12 0 0 8) 24 5)) 29 13 0 0 ((wr (cpy (cpy (cpy (cpy (wr M 8 0 (M 24 0)) 25 9 0 0 8) 26 10 0 0 8) 27 11 0 0 8) 28 12 0 0 8) 8 5 ((cpy (cpy (cpy (cpy (wr M 8 0 (M 24 0)) 25 9 0 0 8) 26 10 0 0 8) 27 11 0 0 8) 28 12 0 0 8) 24 5)) 8 5)) 30 14 0 0 ((cpy (wr (cpy (cpy (cpy (cpy (wr M 8 0 (M 24 0)) 25 9 0 0 8) 26 10 0 0 8) 27 11 0 0 8) 28 12 0 0 8) 8 5 ((cpy (cpy (cpy (cpy (wr M 8 0 (M 24 0)) 25 9 0 0 8) 26 10 0 0 8) 27 11 0 0 8) 28 12 0 0 8) 24 5)) 29 13 0 0 ((wr (cpy (cpy (cpy (cpy (wr M 8 0 (M 24 0)) 25 9 0 0 8) 26 10 0 0 8) 27 11 0 0 8) 28 12 0 0 8) 8 5 ((cpy (cpy (cpy (cpy (wr M 8 0 (M 24 0)) 25 9 0 0 8) 26 10 0 0 8) 27 11 0 0 8) 28 12 0 0 8) 24 5)) 8 5)) 8 5)) 8 5)) hC hM 8 (Nat.le_of_ble_eq_true rfl) (eC_8 V) inW6 rfl 5 (by decide) q_175 (fun _ h9 => h9) rfl dX6_copyFrom_121 ?_
  obtain ⟨hg7, hf⟩ := o_g hf
  refine mw_copy (rest := []) hC hM 31 15 0 (Nat.le_of_ble_eq_true rfl) (Nat.le_of_ble_eq_true rfl) (eC_31 V) (eC_15 V) rfl hg7 hl.1 q_720 q_722 q_721 q_127 (Nat.le_of_ble_eq_true rfl) (Nat.le_of_ble_eq_true rfl) dX6_copyFrom_124 (fun H locs hM => ?_)
  refine lv_aload_n hC.1 hC.2.1 dX6_copyFrom_127 rfl (lv_at hl 0 rfl) ?_
  refine lv_aload_n hC.1 hC.2.1 dX6_copyFrom_128 rfl (lv_at hl 1 rfl) ?_
  refine mw_get (v := .int ((cpy (cpy (cpy (wr (cpy (cpy (cpy (cpy (wr M 8 0 (M 24 0)) 25 9 0 0 8) 26 10 0 0 8) 27 11 0 0 8) 28 12 0 0 8) 8 5 ((cpy (cpy (cpy (cpy (wr M 8 0 (M 24 0)) 25 9 0 0 8) 26 10 0 0 8) 27 11 0 0 8) 28 12 0 0 8) 24 5)) 29 13 0 0 ((wr (cpy (cpy (cpy (cpy (wr M 8 0 (M 24 0)) 25 9 0 0 8) 26 10 0 0 8) 27 11 0 0 8) 28 12 0 0 8) 8 5 ((cpy (cpy (cpy (cpy (wr M 8 0 (M 24 0)) 25 9 0 0 8) 26 10 0 0 8) 27 11 0 0 8) 28 12 0 0 8) 24 5)) 8 5)) 30 14 0 0 ((cpy (wr (cpy (cpy (cpy (cpy (wr M 8 0 (M 24 0)) 25 9 0 0 8) 26 10 0 0 8) 27 11 0 0 8) 28 12 0 0 8) 8 5 ((cpy (cpy (cpy (cpy (wr M 8 0 (M 24 0)) 25 9 0 0 8) 26 10 0 0 8) 27 11 0 0 8) 28 12 0 0 8) 24 5)) 29 13 0 0 ((wr (cpy (cpy (cpy (cpy (wr M 8 0 (M 24 0)) 25 9 0 0 8) 26 10 0 0 8) 27 11 0 0 8) 28 12 0 0 8) 8 5 ((cpy (cpy (cpy (cpy (wr M 8 0 (M 24 0)) 25 9 0 0 8) 26 10 0 0 8) 27 11 0 0 8) 28 12 0 0 8) 24 5)) 8 5)) 8 5)) 31 15 0 0 ((cpy (cpy (wr (cpy (cpy (cpy (cpy (wr M 8 0 (M 24 0)) 25 9 0 0 8) 26 10 0 0 8) 27 11 0 0 8) 28 12 0 0 8) 8 5 ((cpy (cpy (cpy (cpy (wr M 8 0 (M 24 0)) 25 9 0 0 8) 26 10 0 0 8) 27 11 0 0 8) 28 12 0 0 8) 24 5)) 29 13 0 0 ((wr (cpy (cpy (cpy (cpy (wr M 8 0 (M 24 0)) 25 9 0 0 8) 26 10 0 0 8) 27 11 0 0 8) 28 12 0 0 8) 8 5 ((cpy (cpy (cpy (cpy (wr M 8 0 (M 24 0)) 25 9 0 0 8) 26 10 0 0 8) 27 11 0 0 8) 28 12 0 0 8) 24 5)) 8 5)) 30 14 0 0 ((cpy (wr (cpy (cpy (cpy (cpy (wr M 8 0 (M 24 0)) 25 9 0 0 8) 26 10 0 0 8) 27 11 0 0 8) 28 12 0 0 8) 8 5 ((cpy (cpy (cpy (cpy (wr M 8 0 (M 24 0)) 25 9 0 0 8) 26 10 0 0 8) 27 11 0 0 8) 28 12 0 0 8) 24 5)) 29 13 0 0 ((wr (cpy (cpy (cpy (cpy (wr M 8 0 (M 24 0)) 25 9 0 0 8) 26 10 0 0 8) 27 11 0 0 8) 28 12 0 0 8) 8 5 ((cpy (cpy (cpy (cpy (wr M 8 0 (M 24 0)) 25 9 0 0 8) 26 10 0 0 8) 27 11 0 0 8) 28 12 0 0 8) 24 5)) 8 5)) 8 5)) 8 5)) 24 9)) hC hM 24 (Nat.le_of_ble_eq_true rfl) (eC_24 V) inW6 rfl 9 (by decide) q_179 (fun _ h9 => h9) rfl dX6_copyFrom_129 ?_
  refine mw_put hC hM 8 (Nat.le_of_ble_eq_true rfl) (eC_8 V) inW6 tyX6 tyX6_ok nmX6 rfl 9 (by decide) q_179 (fun _ h9 => h9) rfl rfl rfl (Nat.le_of_ble_eq_true rfl) rfl dX6_copyFrom_132 (fun H locs hM => ?_)
  refine lv_aload_n hC.1 hC.2.1 dX6_copyFrom_135 rfl (lv_at hl 1 rfl) ?_
  refine mw_get (v := .ref (mvA V 32)) hC hM 24 (Nat.le_of_ble_eq_true rfl) (eC_24 V) inW6 rfl 10 (by decide) q_180 (fun _ h9 => h9) rfl dX6_copyFrom_136 ?_
  refine lv_iconst hC.1 hC.2.1 dX6_copyFrom_139 ci_0 ?_
  refine lv_aload_n hC.1 hC.2.1 dX6_copyFrom_140 rfl (lv_at hl 0 rfl) ?_
  refine mw_get (v := .ref (mvA V 16)) hC hM 8 (Nat.le_of_ble_eq_true rfl) (eC_8 V) inW6 rfl 10 (by decide) q_180 (fun _ h9 => h9) rfl dX6_copyFrom_141 ?_
  refine lv_iconst hC.1 hC.2.1 dX6_copyFrom_144 ci_0 ?_
  refine lv_aload_n hC.1 hC.2.1 dX6_copyFrom_145 rfl (lv_at hl 0 rfl) ?_
  refine mw_get (v := .int ((wr (cpy (cpy (cpy (wr (cpy (cpy (cpy (cpy (wr M 8 0 (M 24 0)) 25 9 0 0 8) 26 10 0 0 8) 27 11 0 0 8) 28 12 0 0 8) 8 5 ((cpy (cpy (cpy (cpy (wr M 8 0 (M 24 0)) 25 9 0 0 8) 26 10 0 0 8) 27 11 0 0 8) 28 12 0 0 8) 24 5)) 29 13 0 0 ((wr (cpy (cpy (cpy (cpy (wr M 8 0 (M 24 0)) 25 9 0 0 8) 26 10 0 0 8) 27 11 0 0 8) 28 12 0 0 8) 8 5 ((cpy (cpy (cpy (cpy (wr M 8 0 (M 24 0)) 25 9 0 0 8) 26 10 0 0 8) 27 11 0 0 8) 28 12 0 0 8) 24 5)) 8 5)) 30 14 0 0 ((cpy (wr (cpy (cpy (cpy (cpy (wr M 8 0 (M 24 0)) 25 9 0 0 8) 26 10 0 0 8) 27 11 0 0 8) 28 12 0 0 8) 8 5 ((cpy (cpy (cpy (cpy (wr M 8 0 (M 24 0)) 25 9 0 0 8) 26 10 0 0 8) 27 11 0 0 8) 28 12 0 0 8) 24 5)) 29 13 0 0 ((wr (cpy (cpy (cpy (cpy (wr M 8 0 (M 24 0)) 25 9 0 0 8) 26 10 0 0 8) 27 11 0 0 8) 28 12 0 0 8) 8 5 ((cpy (cpy (cpy (cpy (wr M 8 0 (M 24 0)) 25 9 0 0 8) 26 10 0 0 8) 27 11 0 0 8) 28 12 0 0 8) 24 5)) 8 5)) 8 5)) 31 15 0 0 ((cpy (cpy (wr (cpy (cpy (cpy (cpy (wr M 8 0 (M 24 0)) 25 9 0 0 8) 26 10 0 0 8) 27 11 0 0 8) 28 12 0 0 8) 8 5 ((cpy (cpy (cpy (cpy (wr M 8 0 (M 24 0)) 25 9 0 0 8) 26 10 0 0 8) 27 11 0 0 8) 28 12 0 0 8) 24 5)) 29 13 0 0 ((wr (cpy (cpy (cpy (cpy (wr M 8 0 (M 24 0)) 25 9 0 0 8) 26 10 0 0 8) 27 11 0 0 8) 28 12 0 0 8) 8 5 ((cpy (cpy (cpy (cpy (wr M 8 0 (M 24 0)) 25 9 0 0 8) 26 10 0 0 8) 27 11 0 0 8) 28 12 0 0 8) 24 5)) 8 5)) 30 14 0 0 ((cpy (wr (cpy (cpy (cpy (cpy (wr M 8 0 (M 24 0)) 25 9 0 0 8) 26 10 0 0 8) 27 11 0 0 8) 28 12 0 0 8) 8 5 ((cpy (cpy (cpy (cpy (wr M 8 0 (M 24 0)) 25 9 0 0 8) 26 10 0 0 8) 27 11 0 0 8) 28 12 0 0 8) 24 5)) 29 13 0 0 ((wr (cpy (cpy (cpy (cpy (wr M 8 0 (M 24 0)) 25 9 0 0 8) 26 10 0 0 8) 27 11 0 0 8) 28 12 0 0 8) 8 5 ((cpy (cpy (cpy (cpy (wr M 8 0 (M 24 0)) 25 9 0 0 8) 26 10 0 0 8) 27 11 0 0 8) 28 12 0 0 8) 24 5)) 8 5)) 8 5)) 8 5)) 8 9 ((cpy (cpy (cpy (wr (cpy (cpy (cpy (cpy (wr M 8 0 (M 24 0)) 25 9 0 0 8) 26 10 0 0 8) 27 11 0 0 8) 28 12 0 0 8) 8 5 ((cpy (cpy (cpy (cpy (wr M 8 0 (M 24 0)) 25 9 0 0 8) 26 10 0 0 8) 27 11 0 0 8) 28 12 0 0 8) 24 5)) 29 13 0 0 ((wr (cpy (cpy (cpy (cpy (wr M 8 0 (M 24 0)) 25 9 0 0 8) 26 10 0 0 8) 27 11 0 0 8) 28 12 0 0 8) 8 5 ((cpy (cpy (cpy (cpy (wr M 8 0 (M 24 0)) 25 9 0 0 8) 26 10 0 0 8) 27 11 0 0 8) 28 12 0 0 8) 24 5)) 8 5)) 30 14 0 0 ((cpy (wr (cpy (cpy (cpy (cpy (wr M 8 0 (M 24 0)) 25 9 0 0 8) 26 10 0 0 8) 27 11 0 0 8) 28 12 0 0 8) 8 5 ((cpy (cpy (cpy (cpy (wr M 8 0 (M 24 0)) 25 9 0 0 8) 26 10 0 0 8) 27 11 0 0 8) 28 12 0 0 8) 24 5)) 29 13 0 0 ((wr (cpy (cpy (cpy (cpy (wr M 8 0 (M 24 0)) 25 9 0 0 8) 26 10 0 0 8) 27 11 0 0 8) 28 12 0 0 8) 8 5 ((cpy (cpy (cpy (cpy (wr M 8 0 (M 24 0)) 25 9 0 0 8) 26 10 0 0 8) 27 11 0 0 8) 28 12 0 0 8) 24 5)) 8 5)) 8 5)) 31 15 0 0 ((cpy (cpy (wr (cpy (cpy (cpy (cpy (wr M 8 0 (M 24 0)) 25 9 0 0 8) 26 10 0 0 8) 27 11 0 0 8) 28 12 0 0 8) 8 5 ((cpy (cpy (cpy (cpy (wr M 8 0 (M 24 0)) 25 9 0 0 8) 26 10 0 0 8) 27 11 0 0 8) 28 12 0 0 8) 24 5)) 29 13 0 0 ((wr (cpy (cpy (cpy (cpy (wr M 8 0 (M 24 0)) 25 9 0 0 8) 26 10 0 0 8) 27 11 0 0 8) 28 12 0 0 8) 8 5 ((cpy (cpy (cpy (cpy (wr M 8 0 (M 24 0)) 25 9 0 0 8) 26 10 0 0 8) 27 11 0 0 8) 28 12 0 0 8) 24 5)) 8 5)) 30 14 0 0 ((cpy (wr (cpy (cpy (cpy (cpy (wr M 8 0 (M 24 0)) 25 9 0 0 8) 26 10 0 0 8) 27 11 0 0 8) 28 12 0 0 8) 8 5 ((cpy (cpy (cpy (cpy (wr M 8 0 (M 24 0)) 25 9 0 0 8) 26 10 0 0 8) 27 11 0 0 8) 28 12 0 0 8) 24 5)) 29 13 0 0 ((wr (cpy (cpy (cpy (cpy (wr M 8 0 (M 24 0)) 25 9 0 0 8) 26 10 0 0 8) 27 11 0 0 8) 28 12 0 0 8) 8 5 ((cpy (cpy (cpy (cpy (wr M 8 0 (M 24 0)) 25 9 0 0 8) 26 10 0 0 8) 27 11 0 0 8) 28 12 0 0 8) 24 5)) 8 5)) 8 5)) 8 5)) 24 9)) 8 9)) hC hM 8 (Nat.le_of_ble_eq_true rfl) (eC_8 V) inW6 rfl 9 (by decide) q_179 (fun _ h9 => h9) rfl dX6_copyFrom_146 ?_
  obtain ⟨hg8, hf⟩ := o_g hf
  refine mw_copy (rest := []) hC hM 32 16 0 (Nat.le_of_ble_eq_true rfl) (Nat.le_of_ble_eq_true rfl) (eC_32 V) (eC_16 V) rfl hg8 hl.1 q_720 q_722 q_721 q_127 (Nat.le_of_ble_eq_true rfl) (Nat.le_of_ble_eq_true rfl) dX6_copyFrom_149 (fun H locs hM => ?_)
  exact hret (o_r2 hf hM) dX6_copyFrom_152
