set_option maxHeartbeats 4000000 in
set_option maxRecDepth 100000 in
theorem mcX11_findEnds (V : mV) (l : Launch) (M : mM) (p1 : Int32) (r : Int32) (M' : mM) (hf : fX11_findEnds M p1 = some (r, M')) : UC V l yX11_findEnds cX11_findEnds 2 ({ frames := 17, cells := 0, slots := 0, locals := 409 } : Room) [.ref (mvA V 0), .int p1] M M' := by
  unfold fX11_findEnds at hf
  refine mw_enterV RX11 rfl (by decide +kernel) (Nat.le_of_ble_eq_true rfl) (fun {p e s m args below meth c} ls A Q hC hret hM hl => ?_)
  have hl : lv_has ls 2 [(0, .ref (mvA V 0)), (1, .int p1)] := hl
  refine lv_aload_n hC.1 hC.2.1 dX11_findEnds_0 rfl (lv_at hl 0 rfl) ?_
  refine mw_get (v := .ref (mvA V 65)) hC hM 0 (Nat.le_of_ble_eq_true rfl) (eC_0 V) inW11 rfl 9 (by decide) q_433 (fun _ h9 => h9) rfl dX11_findEnds_1 ?_
  refine lv_iconst hC.1 hC.2.1 dX11_findEnds_4 ci_0 ?_
  obtain ⟨r1, M3, hq2, hf⟩ := o_b2 hf
  refine mw_cSv (As := [.ref (mvA V 65), .int 0]) (rest := []) hC hM (mcJ7_fill_53178C_q65 V l M 0 r1 M3 hq2) (mw_kS hC q_421 q_422 q_119 q_423 ⟨rfl, rfl⟩ kS_J7_fill_53178 ⟨Nat.le_of_ble_eq_true rfl, Nat.le_of_ble_eq_true rfl⟩) rfl rfl (Nat.le_of_ble_eq_true rfl) hl.1 dX11_findEnds_5 (fun H locs hM => ?_)
  refine lv_aload_n hC.1 hC.2.1 dX11_findEnds_8 rfl (lv_at hl 0 rfl) ?_
  refine lv_aload_n hC.1 hC.2.1 dX11_findEnds_9 rfl (lv_at hl 0 rfl) ?_
  refine mw_get (v := .ref (mvA V 1)) hC hM 0 (Nat.le_of_ble_eq_true rfl) (eC_0 V) inW11 rfl 0 (by decide) q_424 (fun _ h9 => h9) rfl dX11_findEnds_10 ?_
  refine mw_get (v := .int (M3 1 6)) hC hM 1 (Nat.le_of_ble_eq_true rfl) (eC_1 V) inW4 rfl 6 (by decide) q_219 (fun _ h9 => h9) rfl dX11_findEnds_13 ?_
  refine lv_aload_n hC.1 hC.2.1 dX11_findEnds_16 rfl (lv_at hl 0 rfl) ?_
  refine mw_get (v := .ref (mvA V 1)) hC hM 0 (Nat.le_of_ble_eq_true rfl) (eC_0 V) inW11 rfl 0 (by decide) q_424 (fun _ h9 => h9) rfl dX11_findEnds_17 ?_
  refine mw_get (v := .int (M3 1 5)) hC hM 1 (Nat.le_of_ble_eq_true rfl) (eC_1 V) inW4 rfl 5 (by decide) q_216 (fun _ h9 => h9) rfl dX11_findEnds_20 ?_
  refine lv_iload_n hC.1 hC.2.1 dX11_findEnds_23 rfl (lv_at hl 1 rfl) ?_
  obtain ⟨r4, M6, hq5, hf⟩ := o_b2 hf
  refine mw_cVv (As := [.int (M3 1 6), .int (M3 1 5), .int p1]) (rest := []) hC hM (mcX11_countEnds V l 6 M3 (M3 1 6) (M3 1 5) p1 r4 M6 hq5) (mw_kV hC q_859 q_861 q_33 q_107 q_862 ⟨rfl, rfl⟩ kV_X11_countEnds ⟨Nat.le_of_ble_eq_true rfl, Nat.le_of_ble_eq_true rfl⟩) (Nat.le_of_ble_eq_true rfl) (eC_0 V) rfl rfl rfl (Nat.le_of_ble_eq_true rfl) hl.1 dX11_findEnds_24 (fun H locs hM => ?_)
  exact hret (o_r2 hf hM) dX11_findEnds_27
set_option maxHeartbeats 4000000 in
set_option maxRecDepth 100000 in
theorem mcX11_ways (V : mV) (l : Launch) (M : mM) (p1 : Int32) (p2 : Int32) (r : Int32) (M' : mM) (hf : fX11_ways M p1 p2 = some (r, M')) : IC V l yX11_ways cX11_ways 3 ({ frames := 18, cells := 0, slots := 0, locals := 430 } : Room) [.ref (mvA V 0), .int p1, .int p2] M r M' := by
  unfold fX11_ways at hf
  refine mw_enterI RX11 rfl (by decide +kernel) (Nat.le_of_ble_eq_true rfl) (fun {p e s m args below meth c} ls A Q hC hret hM hl => ?_)
  have hl : lv_has ls 3 [(0, .ref (mvA V 0)), (1, .int p1), (2, .int p2)] := hl
  refine lv_iload_n hC.1 hC.2.1 dX11_ways_0 rfl (lv_at hl 1 rfl) ?_
  refine mw_cSi (As := [.int p1]) (rest := []) hC hM (mcX11_isHour V l M p1 _ rfl) (mw_kS hC q_474 q_475 q_107 q_476 ⟨rfl, rfl⟩ kS_X11_isHour ⟨Nat.le_of_ble_eq_true rfl, Nat.le_of_ble_eq_true rfl⟩) rfl rfl (Nat.le_of_ble_eq_true rfl) hl.1 dX11_ways_1 (fun H locs hM hb1 => ?_)
  refine lv_if_eq (tgt := 16) hC.1 hC.2.1 dX11_ways_4 (by decide) (fun hc8 => ?_) (fun hc8 => ?_)
  · have hf := o_t hc8 hf
    refine lv_iconst hC.1 hC.2.1 dX11_ways_16 ci_m1 ?_
    exact hret (o_r1 hf) (o_r2 hf hM) dX11_ways_17
  · have hf := o_f hc8 hf
    refine lv_iload_n hC.1 hC.2.1 dX11_ways_7 rfl (lv_at hl 2 rfl) ?_
    refine lv_iconst hC.1 hC.2.1 dX11_ways_8 ci_0 ?_
    refine lv_iconst hC.1 hC.2.1 dX11_ways_9 ci_4 ?_
    refine mw_cSi (As := [.int p2, .int 0, .int 4]) (rest := []) hC hM (mcX11_isIn V l M p2 0 4 _ rfl) (mw_kS hC q_468 q_469 q_107 q_470 ⟨rfl, rfl⟩ kS_X11_isIn ⟨Nat.le_of_ble_eq_true rfl, Nat.le_of_ble_eq_true rfl⟩) rfl rfl (Nat.le_of_ble_eq_true rfl) hl.1 dX11_ways_10 (fun H locs hM hb2 => ?_)
    refine lv_if_ne (tgt := 18) hC.1 hC.2.1 dX11_ways_13 (by decide) (fun hc7 => ?_) (fun hc7 => ?_)
    · have hf := o_f hc7 hf
      refine lv_aload_n hC.1 hC.2.1 dX11_ways_18 rfl (lv_at hl 0 rfl) ?_
      refine lv_iload_n hC.1 hC.2.1 dX11_ways_19 rfl (lv_at hl 2 rfl) ?_
      obtain ⟨r3, M5, hq4, hf⟩ := o_b2 hf
      refine mw_cVv (As := [.int p2]) (rest := []) hC hM (mcX11_findEnds V l M p2 r3 M5 hq4) (mw_kV hC q_855 q_857 q_32 q_107 q_858 ⟨rfl, rfl⟩ kV_X11_findEnds ⟨Nat.le_of_ble_eq_true rfl, Nat.le_of_ble_eq_true rfl⟩) (Nat.le_of_ble_eq_true rfl) (eC_0 V) rfl rfl rfl (Nat.le_of_ble_eq_true rfl) hl.1 dX11_ways_20 (fun H locs hM => ?_)
      refine lv_aload_n hC.1 hC.2.1 dX11_ways_23 rfl (lv_at hl 0 rfl) ?_
      refine mw_get (v := .ref (mvA V 65)) hC hM 0 (Nat.le_of_ble_eq_true rfl) (eC_0 V) inW11 rfl 9 (by decide) q_433 (fun _ h9 => h9) rfl dX11_ways_24 ?_
      refine lv_iload_n hC.1 hC.2.1 dX11_ways_27 rfl (lv_at hl 1 rfl) ?_
      obtain ⟨hg6, hf⟩ := o_g hf
      refine mw_iald hC hM 65 0 (Nat.le_of_ble_eq_true rfl) (eC_65 V) rfl hg6 dX11_ways_28 ?_
      exact hret (o_r1 hf) (o_r2 hf hM) dX11_ways_29
    · have hf := o_t hc7 hf
      refine lv_iconst hC.1 hC.2.1 dX11_ways_16 ci_m1 ?_
      exact hret (o_r1 hf) (o_r2 hf hM) dX11_ways_17
set_option maxHeartbeats 4000000 in
set_option maxRecDepth 100000 in
theorem mcX11_hours (V : mV) (l : Launch) (M : mM) (p1 : Int32) (r : Int32) (M' : mM) (hf : fX11_hours M p1 = some (r, M')) : IC V l yX11_hours cX11_hours 4 ({ frames := 18, cells := 0, slots := 0, locals := 430 } : Room) [.ref (mvA V 0), .int p1] M r M' := by
  unfold fX11_hours at hf
  refine mw_enterI RX11 rfl (by decide +kernel) (Nat.le_of_ble_eq_true rfl) (fun {p e s m args below meth c} ls A Q hC hret hM hl => ?_)
  have hl : lv_has ls 4 [(0, .ref (mvA V 0)), (1, .int p1)] := hl
  have hL20 : ∀ (n : Nat) (M : mM) (x2 : Int32) (x3 : Int32) (H : Heap) (locs : List Loc) (ls : Array Slot), fX11_hours_L20 n M x2 x3 = some (r, M') → PC V M A s H locs → lv_has ls 4 [(0, .ref (mvA V 0)), (2, .int x2), (3, .int x3)] → W p l e ({ frames := 18, cells := 0, slots := 0, locals := 430 } : Room) s m args below meth c H locs 0 0 Q (F0 m 20 ls []) := by
    intro n14
    induction n14 with
    | zero => intro M x2 x3 H locs ls hf; cases hf
    | succ n14 ih14 =>
      intro M x2 x3 H locs ls hf hM hl
      have hf : fX11_hours_L20_b (fX11_hours_L20 n14) M x2 x3 = some (r, M') := hf
      unfold fX11_hours_L20_b at hf
      refine lv_iload_n hC.1 hC.2.1 dX11_hours_20 rfl (lv_at hl 2 rfl) ?_
      refine lv_bipush hC.1 hC.2.1 dX11_hours_21 cb_24 ?_
      refine lv_icmp_ge (tgt := 47) hC.1 hC.2.1 dX11_hours_23 (by decide) (fun hc8 => ?_) (fun hc8 => ?_)
      · have hf := o_t hc8 hf
        refine lv_iload_n hC.1 hC.2.1 dX11_hours_47 rfl (lv_at hl 1 rfl) ?_
        exact hret (o_r1 hf) (o_r2 hf hM) dX11_hours_48
      · have hf := o_f hc8 hf
        refine lv_aload_n hC.1 hC.2.1 dX11_hours_26 rfl (lv_at hl 0 rfl) ?_
        refine mw_get (v := .ref (mvA V 65)) hC hM 0 (Nat.le_of_ble_eq_true rfl) (eC_0 V) inW11 rfl 9 (by decide) q_433 (fun _ h9 => h9) rfl dX11_hours_27 ?_
        refine lv_iload_n hC.1 hC.2.1 dX11_hours_30 rfl (lv_at hl 2 rfl) ?_
        obtain ⟨hg6, hf⟩ := o_g hf
        refine mw_iald hC hM 65 0 (Nat.le_of_ble_eq_true rfl) (eC_65 V) rfl hg6 dX11_hours_31 ?_
        refine lv_if_le (tgt := 41) hC.1 hC.2.1 dX11_hours_32 (by decide) (fun hc7 => ?_) (fun hc7 => ?_)
        · have hf := o_t hc7 hf
          refine lv_iinc (k := 2) (lv' := [(3, .int (x3 + 1)), (0, .ref (mvA V 0)), (2, .int x2)]) hC.1 hC.2.1 dX11_hours_41 hl rfl (inc_1 _) (Nat.le_of_ble_eq_true rfl) rfl (fun ls hl => ?_)
          refine lv_goto (tgt := 20) hC.1 hC.2.1 dX11_hours_44 (by decide) ?_
          exact ih14 _ _ _ _ _ _ hf hM (lv_sub hl [1, 2, 0] rfl)
        · have hf := o_f hc7 hf
          refine lv_iload_n hC.1 hC.2.1 dX11_hours_35 rfl (lv_at hl 1 rfl) ?_
          refine lv_iconst hC.1 hC.2.1 dX11_hours_36 ci_1 ?_
          refine lv_iload_n hC.1 hC.2.1 dX11_hours_37 rfl (lv_at hl 2 rfl) ?_
          refine lv_ishl hC.1 hC.2.1 dX11_hours_38 ?_
          refine lv_ior hC.1 hC.2.1 dX11_hours_39 ?_
          refine lv_istore_n (lv' := [(2, .int (x2 ||| (1 <<< (x3 &&& 31)))), (0, .ref (mvA V 0)), (3, .int x3)]) hC.1 hC.2.1 dX11_hours_40 rfl hl (Nat.le_of_ble_eq_true rfl) rfl (fun ls hl => ?_)
          refine lv_iinc (k := 2) (lv' := [(3, .int (x3 + 1)), (2, .int (x2 ||| (1 <<< (x3 &&& 31)))), (0, .ref (mvA V 0))]) hC.1 hC.2.1 dX11_hours_41 hl rfl (inc_1 _) (Nat.le_of_ble_eq_true rfl) rfl (fun ls hl => ?_)
          refine lv_goto (tgt := 20) hC.1 hC.2.1 dX11_hours_44 (by decide) ?_
          exact ih14 _ _ _ _ _ _ hf hM (lv_sub hl [2, 1, 0] rfl)
  refine lv_iload_n hC.1 hC.2.1 dX11_hours_0 rfl (lv_at hl 1 rfl) ?_
  refine lv_iconst hC.1 hC.2.1 dX11_hours_1 ci_0 ?_
  refine lv_iconst hC.1 hC.2.1 dX11_hours_2 ci_4 ?_
  refine mw_cSi (As := [.int p1, .int 0, .int 4]) (rest := []) hC hM (mcX11_isIn V l M p1 0 4 _ rfl) (mw_kS hC q_468 q_469 q_107 q_470 ⟨rfl, rfl⟩ kS_X11_isIn ⟨Nat.le_of_ble_eq_true rfl, Nat.le_of_ble_eq_true rfl⟩) rfl rfl (Nat.le_of_ble_eq_true rfl) hl.1 dX11_hours_3 (fun H locs hM hb1 => ?_)
  refine lv_if_ne (tgt := 11) hC.1 hC.2.1 dX11_hours_6 (by decide) (fun hc5 => ?_) (fun hc5 => ?_)
  · have hf := o_f hc5 hf
    refine lv_aload_n hC.1 hC.2.1 dX11_hours_11 rfl (lv_at hl 0 rfl) ?_
    refine lv_iload_n hC.1 hC.2.1 dX11_hours_12 rfl (lv_at hl 1 rfl) ?_
    obtain ⟨r2, M4, hq3, hf⟩ := o_b2 hf
    refine mw_cVv (As := [.int p1]) (rest := []) hC hM (mcX11_findEnds V l M p1 r2 M4 hq3) (mw_kV hC q_855 q_857 q_32 q_107 q_858 ⟨rfl, rfl⟩ kV_X11_findEnds ⟨Nat.le_of_ble_eq_true rfl, Nat.le_of_ble_eq_true rfl⟩) (Nat.le_of_ble_eq_true rfl) (eC_0 V) rfl rfl rfl (Nat.le_of_ble_eq_true rfl) hl.1 dX11_hours_13 (fun H locs hM => ?_)
    refine lv_iconst hC.1 hC.2.1 dX11_hours_16 ci_0 ?_
    refine lv_istore_n (lv' := [(2, .int 0), (0, .ref (mvA V 0)), (1, .int p1)]) hC.1 hC.2.1 dX11_hours_17 rfl hl (Nat.le_of_ble_eq_true rfl) rfl (fun ls hl => ?_)
    refine lv_iconst hC.1 hC.2.1 dX11_hours_18 ci_0 ?_
    refine lv_istore_n (lv' := [(3, .int 0), (2, .int 0), (0, .ref (mvA V 0)), (1, .int p1)]) hC.1 hC.2.1 dX11_hours_19 rfl hl (Nat.le_of_ble_eq_true rfl) rfl (fun ls hl => ?_)
    exact hL20 _ _ _ _ _ _ _ hf hM (lv_sub hl [2, 1, 0] rfl)
  · have hf := o_t hc5 hf
    refine lv_iconst hC.1 hC.2.1 dX11_hours_9 ci_m1 ?_
    exact hret (o_r1 hf) (o_r2 hf hM) dX11_hours_10
set_option maxHeartbeats 4000000 in
set_option maxRecDepth 100000 in
theorem mcX11_limitFor (V : mV) (l : Launch) (M : mM) (p1 : Int32) (p2 : Int32) (r : Int32) (M' : mM) (hf : fX11_limitFor M p1 p2 = some (r, M')) : IC V l yX11_limitFor cX11_limitFor 4 ({ frames := 18, cells := 0, slots := 0, locals := 472 } : Room) [.ref (mvA V 0), .int p1, .int p2] M r M' := by
  unfold fX11_limitFor at hf
  refine mw_enterI RX11 rfl (by decide +kernel) (Nat.le_of_ble_eq_true rfl) (fun {p e s m args below meth c} ls A Q hC hret hM hl => ?_)
  have hl : lv_has ls 4 [(0, .ref (mvA V 0)), (1, .int p1), (2, .int p2)] := hl
  have hL21 : ∀ (n : Nat) (M : mM) (x1 : Int32) (x2 : Int32) (x3 : Int32) (H : Heap) (locs : List Loc) (ls : Array Slot), fX11_limitFor_L21 n M x1 x2 x3 = some (r, M') → PC V M A s H locs → lv_has ls 4 [(0, .ref (mvA V 0)), (1, .int x1), (2, .int x2), (3, .int x3)] → W p l e ({ frames := 18, cells := 0, slots := 0, locals := 472 } : Room) s m args below meth c H locs 0 0 Q (F0 m 21 ls []) := by
    intro n12
    induction n12 with
    | zero => intro M x1 x2 x3 H locs ls hf; cases hf
    | succ n12 ih12 =>
      intro M x1 x2 x3 H locs ls hf hM hl
      have hf : fX11_limitFor_L21_b (fX11_limitFor_L21 n12) M x1 x2 x3 = some (r, M') := hf
      unfold fX11_limitFor_L21_b at hf
      refine lv_iload_n hC.1 hC.2.1 dX11_limitFor_21 rfl (lv_at hl 3 rfl) ?_
      refine lv_if_lt (tgt := 43) hC.1 hC.2.1 dX11_limitFor_22 (by decide) (fun hc9 => ?_) (fun hc9 => ?_)
      · have hf := o_t hc9 hf
        refine lv_bipush hC.1 hC.2.1 dX11_limitFor_43 cb_m3 ?_
        exact hret (o_r1 hf) (o_r2 hf hM) dX11_limitFor_45
      · have hf := o_f hc9 hf
        refine lv_aload_n hC.1 hC.2.1 dX11_limitFor_25 rfl (lv_at hl 0 rfl) ?_
        refine lv_iload_n hC.1 hC.2.1 dX11_limitFor_26 rfl (lv_at hl 1 rfl) ?_
        refine lv_iload_n hC.1 hC.2.1 dX11_limitFor_27 rfl (lv_at hl 3 rfl) ?_
        refine lv_iload_n hC.1 hC.2.1 dX11_limitFor_28 rfl (lv_at hl 2 rfl) ?_
        obtain ⟨r5, M7, hq6, hf⟩ := o_b2 hf
        refine mw_cVi (As := [.int x1, .int x3, .int x2]) (rest := []) hC hM (mcX11_firstPlan V l M x1 x3 x2 r5 M7 hq6) (mw_kV hC q_832 q_834 q_29 q_107 q_835 ⟨rfl, rfl⟩ kV_X11_firstPlan ⟨Nat.le_of_ble_eq_true rfl, Nat.le_of_ble_eq_true rfl⟩) (Nat.le_of_ble_eq_true rfl) (eC_0 V) rfl rfl rfl (Nat.le_of_ble_eq_true rfl) hl.1 dX11_limitFor_29 (fun H locs hM _ => ?_)
        refine lv_if_lt (tgt := 37) hC.1 hC.2.1 dX11_limitFor_32 (by decide) (fun hc8 => ?_) (fun hc8 => ?_)
        · have hf := o_t hc8 hf
          refine lv_iinc (k := 3) (lv' := [(3, .int (x3 + (-1))), (0, .ref (mvA V 0)), (1, .int x1), (2, .int x2)]) hC.1 hC.2.1 dX11_limitFor_37 hl rfl (inc_m1 _) (Nat.le_of_ble_eq_true rfl) rfl (fun ls hl => ?_)
          refine lv_goto (tgt := 21) hC.1 hC.2.1 dX11_limitFor_40 (by decide) ?_
          exact ih12 _ _ _ _ _ _ _ hf hM (lv_sub hl [1, 2, 3, 0] rfl)
        · have hf := o_f hc8 hf
          refine lv_iload_n hC.1 hC.2.1 dX11_limitFor_35 rfl (lv_at hl 3 rfl) ?_
          exact hret (o_r1 hf) (o_r2 hf hM) dX11_limitFor_36
  refine lv_iload_n hC.1 hC.2.1 dX11_limitFor_0 rfl (lv_at hl 1 rfl) ?_
  refine mw_cSi (As := [.int p1]) (rest := []) hC hM (mcX11_isHour V l M p1 _ rfl) (mw_kS hC q_474 q_475 q_107 q_476 ⟨rfl, rfl⟩ kS_X11_isHour ⟨Nat.le_of_ble_eq_true rfl, Nat.le_of_ble_eq_true rfl⟩) rfl rfl (Nat.le_of_ble_eq_true rfl) hl.1 dX11_limitFor_1 (fun H locs hM hb1 => ?_)
  refine lv_if_eq (tgt := 16) hC.1 hC.2.1 dX11_limitFor_4 (by decide) (fun hc4 => ?_) (fun hc4 => ?_)
  · have hf := o_t hc4 hf
    refine lv_iconst hC.1 hC.2.1 dX11_limitFor_16 ci_m1 ?_
    exact hret (o_r1 hf) (o_r2 hf hM) dX11_limitFor_17
  · have hf := o_f hc4 hf
    refine lv_iload_n hC.1 hC.2.1 dX11_limitFor_7 rfl (lv_at hl 2 rfl) ?_
    refine lv_iconst hC.1 hC.2.1 dX11_limitFor_8 ci_1 ?_
    refine lv_iconst hC.1 hC.2.1 dX11_limitFor_9 ci_3 ?_
    refine mw_cSi (As := [.int p2, .int 1, .int 3]) (rest := []) hC hM (mcX11_isIn V l M p2 1 3 _ rfl) (mw_kS hC q_468 q_469 q_107 q_470 ⟨rfl, rfl⟩ kS_X11_isIn ⟨Nat.le_of_ble_eq_true rfl, Nat.le_of_ble_eq_true rfl⟩) rfl rfl (Nat.le_of_ble_eq_true rfl) hl.1 dX11_limitFor_10 (fun H locs hM hb2 => ?_)
    refine lv_if_ne (tgt := 18) hC.1 hC.2.1 dX11_limitFor_13 (by decide) (fun hc3 => ?_) (fun hc3 => ?_)
    · have hf := o_f hc3 hf
      refine lv_bipush hC.1 hC.2.1 dX11_limitFor_18 cb_99 ?_
      refine lv_istore_n (lv' := [(3, .int 99), (0, .ref (mvA V 0)), (1, .int p1), (2, .int p2)]) hC.1 hC.2.1 dX11_limitFor_20 rfl hl (Nat.le_of_ble_eq_true rfl) rfl (fun ls hl => ?_)
      exact hL21 _ _ _ _ _ _ _ _ hf hM (lv_sub hl [1, 2, 3, 0] rfl)
    · have hf := o_t hc3 hf
      refine lv_iconst hC.1 hC.2.1 dX11_limitFor_16 ci_m1 ?_
      exact hret (o_r1 hf) (o_r2 hf hM) dX11_limitFor_17
set_option maxHeartbeats 4000000 in
set_option maxRecDepth 100000 in
theorem mcX11_valueBy (V : mV) (l : Launch) (rec : mM → Int32 → Int32 → Int32 → Int32 → Option (Int32 × mM)) (d : Nat) (hrec : ∀ (M : mM) (p1 : Int32) (p2 : Int32) (p3 : Int32) (p4 : Int32) (r : Int32) (M' : mM), rec M p1 p2 p3 p4 = some (r, M') → IC V l yX11_valueOf cX11_valueOf 8 ({ frames := 4 + 2 * d, cells := 0, slots := 0, locals := 103 + 54 * d } : Room) [.ref (mvA V 0), .int p1, .int p2, .int p3, .int p4] M r M') (M : mM) (p1 : Int32) (p2 : Int32) (p3 : Int32) (p4 : Int32) (p5 : Int32) (r : Int32) (M' : mM) (hf : fX11_valueBy rec M p1 p2 p3 p4 p5 = some (r, M')) : IC V l yX11_valueBy cX11_valueBy 8 ({ frames := 5 + 2 * d, cells := 0, slots := 0, locals := 130 + 54 * d } : Room) [.ref (mvA V 0), .int p1, .int p2, .int p3, .int p4, .int p5] M r M' := by
  unfold fX11_valueBy at hf
  refine mw_enterI RX11 rfl (by decide +kernel) (Nat.le_of_ble_eq_true rfl) (fun {p e s m args below meth c} ls A Q hC hret hM hl => ?_)
  have hl : lv_has ls 8 [(0, .ref (mvA V 0)), (1, .int p1), (2, .int p2), (3, .int p3), (4, .int p4), (5, .int p5)] := hl
  refine lv_iload_n hC.1 hC.2.1 dX11_valueBy_0 rfl (lv_at hl 3 rfl) ?_
  refine lv_iload_n hC.1 hC.2.1 dX11_valueBy_1 rfl (lv_at hl 1 rfl) ?_
  refine mw_cSi (As := [.int p3, .int p1]) (rest := []) hC hM (mcX11_acted V l M p3 p1 _ rfl) (mw_kS hC q_840 q_841 q_107 q_842 ⟨rfl, rfl⟩ kS_X11_acted ⟨by dsimp only; omega, by dsimp only; omega⟩) rfl rfl (Nat.le_of_ble_eq_true rfl) hl.1 dX11_valueBy_2 (fun H locs hM _ => ?_)
  refine lv_istore (lv' := [(6, .int (fX11_acted p3 p1)), (0, .ref (mvA V 0)), (1, .int p1), (2, .int p2), (3, .int p3), (4, .int p4), (5, .int p5)]) hC.1 hC.2.1 dX11_valueBy_5 hl (Nat.le_of_ble_eq_true rfl) rfl (fun ls hl => ?_)
  refine lv_aload_n hC.1 hC.2.1 dX11_valueBy_7 rfl (lv_at hl 1 rfl) ?_
  refine lv_iload_n hC.1 hC.2.1 dX11_valueBy_8 rfl (lv_at hl 3 rfl) ?_
  refine lv_iload hC.1 hC.2.1 dX11_valueBy_9 (lv_at hl 0 rfl) ?_
  obtain ⟨r1, M3, hq2, hf⟩ := o_b2 hf
  refine mw_cVi (As := [.int p2, .int (fX11_acted p3 p1)]) (rest := []) hC hM (mcX11_sumAt V l M p2 (fX11_acted p3 p1) r1 M3 hq2) (mw_kV hC q_728 q_730 q_17 q_107 q_731 ⟨rfl, rfl⟩ kV_X11_sumAt ⟨by dsimp only; omega, by dsimp only; omega⟩) (Nat.le_of_ble_eq_true rfl) (eC_0 V) rfl rfl rfl (Nat.le_of_ble_eq_true rfl) hl.1 dX11_valueBy_11 (fun H locs hM _ => ?_)
  refine lv_aload_n hC.1 hC.2.1 dX11_valueBy_14 rfl (lv_at hl 1 rfl) ?_
  refine mw_get (v := .ref (mvA V 1)) hC hM 0 (Nat.le_of_ble_eq_true rfl) (eC_0 V) inW11 rfl 0 (by decide) q_424 (fun _ h9 => h9) rfl dX11_valueBy_15 ?_
  refine mw_get (v := .int (M3 1 8)) hC hM 1 (Nat.le_of_ble_eq_true rfl) (eC_1 V) inW4 rfl 8 (by decide) q_223 (fun _ h9 => h9) rfl dX11_valueBy_18 ?_
  refine mw_cSi (As := [.int r1, .int (M3 1 8)]) (rest := []) hC hM (mcX11_turnOf V l M3 r1 (M3 1 8) _ rfl) (mw_kS hC q_740 q_741 q_107 q_742 ⟨rfl, rfl⟩ kS_X11_turnOf ⟨by dsimp only; omega, by dsimp only; omega⟩) rfl rfl (Nat.le_of_ble_eq_true rfl) hl.1 dX11_valueBy_21 (fun H locs hM _ => ?_)
  refine lv_istore (lv' := [(7, .int (fX11_turnOf r1 (M3 1 8))), (6, .int (fX11_acted p3 p1)), (0, .ref (mvA V 0)), (1, .int p1), (2, .int p2), (3, .int p3), (4, .int p4), (5, .int p5)]) hC.1 hC.2.1 dX11_valueBy_24 hl (Nat.le_of_ble_eq_true rfl) rfl (fun ls hl => ?_)
  refine lv_iload hC.1 hC.2.1 dX11_valueBy_26 (lv_at hl 0 rfl) ?_
  refine lv_aload_n hC.1 hC.2.1 dX11_valueBy_28 rfl (lv_at hl 2 rfl) ?_
  refine lv_iload_n hC.1 hC.2.1 dX11_valueBy_29 rfl (lv_at hl 4 rfl) ?_
  refine lv_iload hC.1 hC.2.1 dX11_valueBy_30 (lv_at hl 0 rfl) ?_
  obtain ⟨r4, hq5, hf⟩ := o_b hf
  refine mw_cSi (As := [.int p2, .int (fX11_turnOf r1 (M3 1 8))]) (rest := [.ref (mvA V 0), .int (fX11_turnOf r1 (M3 1 8))]) hC hM (mcX11_moved V l M3 p2 (fX11_turnOf r1 (M3 1 8)) r4 hq5) (mw_kS hC q_762 q_748 q_107 q_749 ⟨rfl, rfl⟩ kS_X11_moved ⟨by dsimp only; omega, by dsimp only; omega⟩) rfl rfl (Nat.le_of_ble_eq_true rfl) hl.1 dX11_valueBy_32 (fun H locs hM _ => ?_)
  refine lv_iload hC.1 hC.2.1 dX11_valueBy_35 (lv_at hl 1 rfl) ?_
  refine lv_iload hC.1 hC.2.1 dX11_valueBy_37 (lv_at hl 6 rfl) ?_
  refine lv_iconst hC.1 hC.2.1 dX11_valueBy_39 ci_1 ?_
  refine lv_isub hC.1 hC.2.1 dX11_valueBy_40 ?_
  refine lv_iload hC.1 hC.2.1 dX11_valueBy_41 (lv_at hl 7 rfl) ?_
  refine lv_ineg hC.1 hC.2.1 dX11_valueBy_43 ?_
  obtain ⟨r6, M8, hq7, hf⟩ := o_b2 hf
  refine mw_cVi (As := [.int r4, .int (fX11_acted p3 p1), .int (p4 - 1), .int (-p5)]) (rest := [.int (fX11_turnOf r1 (M3 1 8))]) hC hM (hrec M3 r4 (fX11_acted p3 p1) (p4 - 1) (-p5) r6 M8 hq7) (mw_kV hC q_879 q_881 q_35 q_107 q_882 ⟨rfl, rfl⟩ kV_X11_valueOf ⟨by dsimp only; omega, by dsimp only; omega⟩) (Nat.le_of_ble_eq_true rfl) (eC_0 V) rfl rfl rfl (Nat.le_of_ble_eq_true rfl) hl.1 dX11_valueBy_44 (fun H locs hM _ => ?_)
  refine lv_iadd hC.1 hC.2.1 dX11_valueBy_47 ?_
  exact hret (o_r1 hf) (o_r2 hf hM) dX11_valueBy_48
set_option maxHeartbeats 4000000 in
set_option maxRecDepth 100000 in
theorem mcX11_valueOf (V : mV) (l : Launch) : ∀ (d : Nat) (M : mM) (p1 : Int32) (p2 : Int32) (p3 : Int32) (p4 : Int32) (r : Int32) (M' : mM), fX11_valueOf d M p1 p2 p3 p4 = some (r, M') → IC V l yX11_valueOf cX11_valueOf 8 ({ frames := 4 + 2 * d, cells := 0, slots := 0, locals := 103 + 54 * d } : Room) [.ref (mvA V 0), .int p1, .int p2, .int p3, .int p4] M r M' := by
  intro d
  induction d with
  | zero => intro M p1 p2 p3 p4 r M' hf; cases hf
  | succ d ih =>
    intro M p1 p2 p3 p4 r M' hf
    have hf : fX11_valueOf_b (fX11_valueOf d) M p1 p2 p3 p4 = some (r, M') := hf
    unfold fX11_valueOf_b at hf
    refine mw_enterI RX11 rfl (by decide +kernel) (Nat.le_of_ble_eq_true rfl) (fun {p e s m args below meth c} ls A Q hC hret hM hl => ?_)
    have hl : lv_has ls 8 [(0, .ref (mvA V 0)), (1, .int p1), (2, .int p2), (3, .int p3), (4, .int p4)] := hl
    have hL21 : ∀ (n : Nat) (M : mM) (x1 : Int32) (x2 : Int32) (x3 : Int32) (x4 : Int32) (x5 : Int32) (x6 : Int32) (H : Heap) (locs : List Loc) (ls : Array Slot), fX11_valueOf_L21 (fX11_valueOf d) n M x1 x2 x3 x4 x5 x6 = some (r, M') → PC V M A s H locs → lv_has ls 8 [(0, .ref (mvA V 0)), (1, .int x1), (2, .int x2), (3, .int x3), (4, .int x4), (5, .int x5), (6, .int x6)] → W p l e ({ frames := 4 + 2 * (d + 1), cells := 0, slots := 0, locals := 103 + 54 * (d + 1) } : Room) s m args below meth c H locs 0 0 Q (F0 m 21 ls []) := by
      intro n14
      induction n14 with
      | zero => intro M x1 x2 x3 x4 x5 x6 H locs ls hf; cases hf
      | succ n14 ih14 =>
        intro M x1 x2 x3 x4 x5 x6 H locs ls hf hM hl
        have hf : fX11_valueOf_L21_b (fX11_valueOf d) (fX11_valueOf_L21 (fX11_valueOf d) n14) M x1 x2 x3 x4 x5 x6 = some (r, M') := hf
        unfold fX11_valueOf_L21_b at hf
        refine lv_iload hC.1 hC.2.1 dX11_valueOf_21 (lv_at hl 6 rfl) ?_
        refine lv_aload_n hC.1 hC.2.1 dX11_valueOf_23 rfl (lv_at hl 0 rfl) ?_
        refine mw_get (v := .ref (mvA V 1)) hC hM 0 (Nat.le_of_ble_eq_true rfl) (eC_0 V) inW11 rfl 0 (by decide) q_424 (fun _ h9 => h9) rfl dX11_valueOf_24 ?_
        refine mw_get (v := .int (M 1 0)) hC hM 1 (Nat.le_of_ble_eq_true rfl) (eC_1 V) inW4 rfl 0 (by decide) q_206 (fun _ h9 => h9) rfl dX11_valueOf_27 ?_
        refine lv_icmp_gt (tgt := 69) hC.1 hC.2.1 dX11_valueOf_30 (by decide) (fun hc9 => ?_) (fun hc9 => ?_)
        · have hf := o_t hc9 hf
          refine lv_iload hC.1 hC.2.1 dX11_valueOf_69 (lv_at hl 5 rfl) ?_
          exact hret (o_r1 hf) (o_r2 hf hM) dX11_valueOf_71
        · have hf := o_f hc9 hf
          refine lv_aload_n hC.1 hC.2.1 dX11_valueOf_33 rfl (lv_at hl 0 rfl) ?_
          refine lv_iload hC.1 hC.2.1 dX11_valueOf_34 (lv_at hl 6 rfl) ?_
          refine lv_iload_n hC.1 hC.2.1 dX11_valueOf_36 rfl (lv_at hl 1 rfl) ?_
          refine lv_iload_n hC.1 hC.2.1 dX11_valueOf_37 rfl (lv_at hl 2 rfl) ?_
          refine lv_iload_n hC.1 hC.2.1 dX11_valueOf_38 rfl (lv_at hl 3 rfl) ?_
          refine lv_iload hC.1 hC.2.1 dX11_valueOf_39 (lv_at hl 4 rfl) ?_
          obtain ⟨r5, M7, hq6, hf⟩ := o_b2 hf
          refine mw_cVi (As := [.int x6, .int x1, .int x2, .int x3, .int x4]) (rest := []) hC hM (mcX11_valueBy V l (fX11_valueOf d) d ih M x6 x1 x2 x3 x4 r5 M7 hq6) (mw_kV hC q_883 q_885 q_36 q_107 q_886 ⟨rfl, rfl⟩ kV_X11_valueBy ⟨by dsimp only; omega, by dsimp only; omega⟩) (Nat.le_of_ble_eq_true rfl) (eC_0 V) rfl rfl rfl (Nat.le_of_ble_eq_true rfl) hl.1 dX11_valueOf_41 (fun H locs hM _ => ?_)
          refine lv_istore (lv' := [(7, .int r5), (0, .ref (mvA V 0)), (1, .int x1), (2, .int x2), (3, .int x3), (4, .int x4), (5, .int x5), (6, .int x6)]) hC.1 hC.2.1 dX11_valueOf_44 hl (Nat.le_of_ble_eq_true rfl) rfl (fun ls hl => ?_)
          refine lv_iload hC.1 hC.2.1 dX11_valueOf_46 (lv_at hl 0 rfl) ?_
          refine lv_iload hC.1 hC.2.1 dX11_valueOf_48 (lv_at hl 5 rfl) ?_
          refine lv_imul hC.1 hC.2.1 dX11_valueOf_50 ?_
          refine lv_iload hC.1 hC.2.1 dX11_valueOf_51 (lv_at hl 6 rfl) ?_
          refine lv_iload hC.1 hC.2.1 dX11_valueOf_53 (lv_at hl 5 rfl) ?_
          refine lv_imul hC.1 hC.2.1 dX11_valueOf_55 ?_
          refine lv_icmp_le (tgt := 63) hC.1 hC.2.1 dX11_valueOf_56 (by decide) (fun hc8 => ?_) (fun hc8 => ?_)
          · have hf := o_t hc8 hf
            refine lv_iinc (k := 7) (lv' := [(6, .int (x6 + 1)), (7, .int r5), (0, .ref (mvA V 0)), (1, .int x1), (2, .int x2), (3, .int x3), (4, .int x4), (5, .int x5)]) hC.1 hC.2.1 dX11_valueOf_63 hl rfl (inc_1 _) (Nat.le_of_ble_eq_true rfl) rfl (fun ls hl => ?_)
            refine lv_goto (tgt := 21) hC.1 hC.2.1 dX11_valueOf_66 (by decide) ?_
            exact ih14 _ _ _ _ _ _ _ _ _ _ hf hM (lv_sub hl [2, 3, 4, 5, 6, 7, 0] rfl)
          · have hf := o_f hc8 hf
            refine lv_iload hC.1 hC.2.1 dX11_valueOf_59 (lv_at hl 0 rfl) ?_
            refine lv_istore (lv' := [(5, .int r5), (7, .int r5), (0, .ref (mvA V 0)), (1, .int x1), (2, .int x2), (3, .int x3), (4, .int x4), (6, .int x6)]) hC.1 hC.2.1 dX11_valueOf_61 hl (Nat.le_of_ble_eq_true rfl) rfl (fun ls hl => ?_)
            refine lv_iinc (k := 7) (lv' := [(6, .int (x6 + 1)), (5, .int r5), (7, .int r5), (0, .ref (mvA V 0)), (1, .int x1), (2, .int x2), (3, .int x3), (4, .int x4)]) hC.1 hC.2.1 dX11_valueOf_63 hl rfl (inc_1 _) (Nat.le_of_ble_eq_true rfl) rfl (fun ls hl => ?_)
            refine lv_goto (tgt := 21) hC.1 hC.2.1 dX11_valueOf_66 (by decide) ?_
            exact ih14 _ _ _ _ _ _ _ _ _ _ hf hM (lv_sub hl [3, 4, 5, 6, 7, 1, 0] rfl)
    refine lv_iload_n hC.1 hC.2.1 dX11_valueOf_0 rfl (lv_at hl 3 rfl) ?_
    refine lv_if_gt (tgt := 6) hC.1 hC.2.1 dX11_valueOf_1 (by decide) (fun hc4 => ?_) (fun hc4 => ?_)
    · have hf := o_t hc4 hf
      refine lv_aload_n hC.1 hC.2.1 dX11_valueOf_6 rfl (lv_at hl 0 rfl) ?_
      refine lv_iconst hC.1 hC.2.1 dX11_valueOf_7 ci_0 ?_
      refine lv_iload_n hC.1 hC.2.1 dX11_valueOf_8 rfl (lv_at hl 1 rfl) ?_
      refine lv_iload_n hC.1 hC.2.1 dX11_valueOf_9 rfl (lv_at hl 2 rfl) ?_
      refine lv_iload_n hC.1 hC.2.1 dX11_valueOf_10 rfl (lv_at hl 3 rfl) ?_
      refine lv_iload hC.1 hC.2.1 dX11_valueOf_11 (lv_at hl 4 rfl) ?_
      obtain ⟨r1, M3, hq2, hf⟩ := o_b2 hf
      refine mw_cVi (As := [.int 0, .int p1, .int p2, .int p3, .int p4]) (rest := []) hC hM (mcX11_valueBy V l (fX11_valueOf d) d ih M 0 p1 p2 p3 p4 r1 M3 hq2) (mw_kV hC q_883 q_885 q_36 q_107 q_886 ⟨rfl, rfl⟩ kV_X11_valueBy ⟨by dsimp only; omega, by dsimp only; omega⟩) (Nat.le_of_ble_eq_true rfl) (eC_0 V) rfl rfl rfl (Nat.le_of_ble_eq_true rfl) hl.1 dX11_valueOf_13 (fun H locs hM _ => ?_)
      refine lv_istore (lv' := [(5, .int r1), (0, .ref (mvA V 0)), (1, .int p1), (2, .int p2), (3, .int p3), (4, .int p4)]) hC.1 hC.2.1 dX11_valueOf_16 hl (Nat.le_of_ble_eq_true rfl) rfl (fun ls hl => ?_)
      refine lv_iconst hC.1 hC.2.1 dX11_valueOf_18 ci_1 ?_
      refine lv_istore (lv' := [(6, .int 1), (5, .int r1), (0, .ref (mvA V 0)), (1, .int p1), (2, .int p2), (3, .int p3), (4, .int p4)]) hC.1 hC.2.1 dX11_valueOf_19 hl (Nat.le_of_ble_eq_true rfl) rfl (fun ls hl => ?_)
      exact hL21 _ _ _ _ _ _ _ _ _ _ _ hf hM (lv_sub hl [2, 3, 4, 5, 6, 1, 0] rfl)
    · have hf := o_f hc4 hf
      refine lv_iconst hC.1 hC.2.1 dX11_valueOf_4 ci_0 ?_
      exact hret (o_r1 hf) (o_r2 hf hM) dX11_valueOf_5
set_option maxHeartbeats 4000000 in
set_option maxRecDepth 100000 in
theorem mcX11_game (V : mV) (l : Launch) (M : mM) (p1 : Int32) (r : Int32) (M' : mM) (hf : fX11_game M p1 = some (r, M')) : IC V l yX11_game cX11_game 2 ({ frames := 17, cells := 0, slots := 0, locals := 454 } : Room) [.ref (mvA V 0), .int p1] M r M' := by
  unfold fX11_game at hf
  refine mw_enterI RX11 rfl (by decide +kernel) (Nat.le_of_ble_eq_true rfl) (fun {p e s m args below meth c} ls A Q hC hret hM hl => ?_)
  have hl : lv_has ls 2 [(0, .ref (mvA V 0)), (1, .int p1)] := hl
  refine lv_iload_n hC.1 hC.2.1 dX11_game_0 rfl (lv_at hl 1 rfl) ?_
  refine lv_iconst hC.1 hC.2.1 dX11_game_1 ci_1 ?_
  refine lv_iconst hC.1 hC.2.1 dX11_game_2 ci_4 ?_
  refine mw_cSi (As := [.int p1, .int 1, .int 4]) (rest := []) hC hM (mcX11_isIn V l M p1 1 4 _ rfl) (mw_kS hC q_468 q_469 q_107 q_470 ⟨rfl, rfl⟩ kS_X11_isIn ⟨Nat.le_of_ble_eq_true rfl, Nat.le_of_ble_eq_true rfl⟩) rfl rfl (Nat.le_of_ble_eq_true rfl) hl.1 dX11_game_3 (fun H locs hM hb1 => ?_)
  refine lv_if_eq (tgt := 35) hC.1 hC.2.1 dX11_game_6 (by decide) (fun hc5 => ?_) (fun hc5 => ?_)
  · have hf := o_t hc5 hf
    refine lv_iconst hC.1 hC.2.1 dX11_game_35 ci_m1 ?_
    exact hret (o_r1 hf) (o_r2 hf hM) dX11_game_36
  · have hf := o_f hc5 hf
    refine lv_aload_n hC.1 hC.2.1 dX11_game_9 rfl (lv_at hl 0 rfl) ?_
    refine lv_aload_n hC.1 hC.2.1 dX11_game_10 rfl (lv_at hl 0 rfl) ?_
    refine mw_get (v := .ref (mvA V 1)) hC hM 0 (Nat.le_of_ble_eq_true rfl) (eC_0 V) inW11 rfl 0 (by decide) q_424 (fun _ h9 => h9) rfl dX11_game_11 ?_
    refine mw_get (v := .int (M 1 6)) hC hM 1 (Nat.le_of_ble_eq_true rfl) (eC_1 V) inW4 rfl 6 (by decide) q_219 (fun _ h9 => h9) rfl dX11_game_14 ?_
    refine lv_aload_n hC.1 hC.2.1 dX11_game_17 rfl (lv_at hl 0 rfl) ?_
    refine mw_get (v := .ref (mvA V 1)) hC hM 0 (Nat.le_of_ble_eq_true rfl) (eC_0 V) inW11 rfl 0 (by decide) q_424 (fun _ h9 => h9) rfl dX11_game_18 ?_
    refine mw_get (v := .int (M 1 5)) hC hM 1 (Nat.le_of_ble_eq_true rfl) (eC_1 V) inW4 rfl 5 (by decide) q_216 (fun _ h9 => h9) rfl dX11_game_21 ?_
    refine lv_iload_n hC.1 hC.2.1 dX11_game_24 rfl (lv_at hl 1 rfl) ?_
    refine lv_iconst hC.1 hC.2.1 dX11_game_25 ci_1 ?_
    obtain ⟨r2, M4, hq3, hf⟩ := o_b2 hf
    refine mw_cVi (As := [.int (M 1 6), .int (M 1 5), .int p1, .int 1]) (rest := []) hC hM (mcX11_valueOf V l 6 M (M 1 6) (M 1 5) p1 1 r2 M4 hq3) (mw_kV hC q_879 q_881 q_35 q_107 q_882 ⟨rfl, rfl⟩ kV_X11_valueOf ⟨Nat.le_of_ble_eq_true rfl, Nat.le_of_ble_eq_true rfl⟩) (Nat.le_of_ble_eq_true rfl) (eC_0 V) rfl rfl rfl (Nat.le_of_ble_eq_true rfl) hl.1 dX11_game_26 (fun H locs hM _ => ?_)
    refine lv_bipush hC.1 hC.2.1 dX11_game_29 cb_10 ?_
    refine lv_iadd hC.1 hC.2.1 dX11_game_31 ?_
    refine lv_goto (tgt := 36) hC.1 hC.2.1 dX11_game_32 (by decide) ?_
    exact hret (o_r1 hf) (o_r2 hf hM) dX11_game_36
set_option maxHeartbeats 4000000 in
set_option maxRecDepth 100000 in
theorem mcX11_play (V : mV) (l : Launch) (M : mM) (p1 : Int32) (r : Int32) (M' : mM) (hf : fX11_play M p1 = some (r, M')) : IC V l yX11_play cX11_play 4 ({ frames := 18, cells := 0, slots := 0, locals := 481 } : Room) [.ref (mvA V 0), .int p1] M r M' := by
  unfold fX11_play at hf
  refine mw_enterI RX11 rfl (by decide +kernel) (Nat.le_of_ble_eq_true rfl) (fun {p e s m args below meth c} ls A Q hC hret hM hl => ?_)
  have hl : lv_has ls 4 [(0, .ref (mvA V 0)), (1, .int p1)] := hl
  have hL34 : ∀ (n : Nat) (M : mM) (x1 : Int32) (x2 : Int32) (x3 : Int32) (H : Heap) (locs : List Loc) (ls : Array Slot), fX11_play_L34 n M x1 x2 x3 = some (r, M') → PC V M A s H locs → lv_has ls 4 [(0, .ref (mvA V 0)), (1, .int x1), (2, .int x2), (3, .int x3)] → W p l e ({ frames := 18, cells := 0, slots := 0, locals := 481 } : Room) s m args below meth c H locs 0 0 Q (F0 m 34 ls []) := by
    intro n20
    induction n20 with
    | zero => intro M x1 x2 x3 H locs ls hf; cases hf
    | succ n20 ih20 =>
      intro M x1 x2 x3 H locs ls hf hM hl
      have hf : fX11_play_L34_b (fX11_play_L34 n20) M x1 x2 x3 = some (r, M') := hf
      unfold fX11_play_L34_b at hf
      refine lv_iload_n hC.1 hC.2.1 dX11_play_34 rfl (lv_at hl 3 rfl) ?_
      refine lv_aload_n hC.1 hC.2.1 dX11_play_35 rfl (lv_at hl 0 rfl) ?_
      refine mw_get (v := .ref (mvA V 1)) hC hM 0 (Nat.le_of_ble_eq_true rfl) (eC_0 V) inW11 rfl 0 (by decide) q_424 (fun _ h9 => h9) rfl dX11_play_36 ?_
      refine mw_get (v := .int (M 1 0)) hC hM 1 (Nat.le_of_ble_eq_true rfl) (eC_1 V) inW4 rfl 0 (by decide) q_206 (fun _ h9 => h9) rfl dX11_play_39 ?_
      refine lv_icmp_ge (tgt := 76) hC.1 hC.2.1 dX11_play_42 (by decide) (fun hc10 => ?_) (fun hc10 => ?_)
      · have hf := o_t hc10 hf
        refine lv_iload_n hC.1 hC.2.1 dX11_play_76 rfl (lv_at hl 3 rfl) ?_
        exact hret (o_r1 hf) (o_r2 hf hM) dX11_play_77
      · have hf := o_f hc10 hf
        refine lv_aload_n hC.1 hC.2.1 dX11_play_45 rfl (lv_at hl 0 rfl) ?_
        refine lv_iload_n hC.1 hC.2.1 dX11_play_46 rfl (lv_at hl 3 rfl) ?_
        refine lv_aload_n hC.1 hC.2.1 dX11_play_47 rfl (lv_at hl 0 rfl) ?_
        refine mw_get (v := .ref (mvA V 1)) hC hM 0 (Nat.le_of_ble_eq_true rfl) (eC_0 V) inW11 rfl 0 (by decide) q_424 (fun _ h9 => h9) rfl dX11_play_48 ?_
        refine mw_get (v := .int (M 1 6)) hC hM 1 (Nat.le_of_ble_eq_true rfl) (eC_1 V) inW4 rfl 6 (by decide) q_219 (fun _ h9 => h9) rfl dX11_play_51 ?_
        refine lv_aload_n hC.1 hC.2.1 dX11_play_54 rfl (lv_at hl 0 rfl) ?_
        refine mw_get (v := .ref (mvA V 1)) hC hM 0 (Nat.le_of_ble_eq_true rfl) (eC_0 V) inW11 rfl 0 (by decide) q_424 (fun _ h9 => h9) rfl dX11_play_55 ?_
        refine mw_get (v := .int (M 1 5)) hC hM 1 (Nat.le_of_ble_eq_true rfl) (eC_1 V) inW4 rfl 5 (by decide) q_216 (fun _ h9 => h9) rfl dX11_play_58 ?_
        refine lv_iload_n hC.1 hC.2.1 dX11_play_61 rfl (lv_at hl 1 rfl) ?_
        refine lv_iconst hC.1 hC.2.1 dX11_play_62 ci_1 ?_
        obtain ⟨r6, M8, hq7, hf⟩ := o_b2 hf
        refine mw_cVi (As := [.int x3, .int (M 1 6), .int (M 1 5), .int x1, .int 1]) (rest := []) hC hM (mcX11_valueBy V l (fX11_valueOf 6) 6 (mcX11_valueOf V l 6) M x3 (M 1 6) (M 1 5) x1 1 r6 M8 hq7) (mw_kV hC q_883 q_885 q_36 q_107 q_886 ⟨rfl, rfl⟩ kV_X11_valueBy ⟨Nat.le_of_ble_eq_true rfl, Nat.le_of_ble_eq_true rfl⟩) (Nat.le_of_ble_eq_true rfl) (eC_0 V) rfl rfl rfl (Nat.le_of_ble_eq_true rfl) hl.1 dX11_play_63 (fun H locs hM _ => ?_)
        refine lv_iload_n hC.1 hC.2.1 dX11_play_66 rfl (lv_at hl 2 rfl) ?_
        refine lv_icmp_eq (tgt := 76) hC.1 hC.2.1 dX11_play_67 (by decide) (fun hc9 => ?_) (fun hc9 => ?_)
        · have hf := o_t hc9 hf
          refine lv_iload_n hC.1 hC.2.1 dX11_play_76 rfl (lv_at hl 3 rfl) ?_
          exact hret (o_r1 hf) (o_r2 hf hM) dX11_play_77
        · have hf := o_f hc9 hf
          refine lv_iinc (k := 3) (lv' := [(3, .int (x3 + 1)), (0, .ref (mvA V 0)), (1, .int x1), (2, .int x2)]) hC.1 hC.2.1 dX11_play_70 hl rfl (inc_1 _) (Nat.le_of_ble_eq_true rfl) rfl (fun ls hl => ?_)
          refine lv_goto (tgt := 34) hC.1 hC.2.1 dX11_play_73 (by decide) ?_
          exact ih20 _ _ _ _ _ _ _ hf hM (lv_sub hl [1, 2, 3, 0] rfl)
  refine lv_iload_n hC.1 hC.2.1 dX11_play_0 rfl (lv_at hl 1 rfl) ?_
  refine lv_iconst hC.1 hC.2.1 dX11_play_1 ci_1 ?_
  refine lv_iconst hC.1 hC.2.1 dX11_play_2 ci_4 ?_
  refine mw_cSi (As := [.int p1, .int 1, .int 4]) (rest := []) hC hM (mcX11_isIn V l M p1 1 4 _ rfl) (mw_kS hC q_468 q_469 q_107 q_470 ⟨rfl, rfl⟩ kS_X11_isIn ⟨Nat.le_of_ble_eq_true rfl, Nat.le_of_ble_eq_true rfl⟩) rfl rfl (Nat.le_of_ble_eq_true rfl) hl.1 dX11_play_3 (fun H locs hM hb1 => ?_)
  refine lv_if_ne (tgt := 11) hC.1 hC.2.1 dX11_play_6 (by decide) (fun hc5 => ?_) (fun hc5 => ?_)
  · have hf := o_f hc5 hf
    refine lv_aload_n hC.1 hC.2.1 dX11_play_11 rfl (lv_at hl 0 rfl) ?_
    refine lv_aload_n hC.1 hC.2.1 dX11_play_12 rfl (lv_at hl 0 rfl) ?_
    refine mw_get (v := .ref (mvA V 1)) hC hM 0 (Nat.le_of_ble_eq_true rfl) (eC_0 V) inW11 rfl 0 (by decide) q_424 (fun _ h9 => h9) rfl dX11_play_13 ?_
    refine mw_get (v := .int (M 1 6)) hC hM 1 (Nat.le_of_ble_eq_true rfl) (eC_1 V) inW4 rfl 6 (by decide) q_219 (fun _ h9 => h9) rfl dX11_play_16 ?_
    refine lv_aload_n hC.1 hC.2.1 dX11_play_19 rfl (lv_at hl 0 rfl) ?_
    refine mw_get (v := .ref (mvA V 1)) hC hM 0 (Nat.le_of_ble_eq_true rfl) (eC_0 V) inW11 rfl 0 (by decide) q_424 (fun _ h9 => h9) rfl dX11_play_20 ?_
    refine mw_get (v := .int (M 1 5)) hC hM 1 (Nat.le_of_ble_eq_true rfl) (eC_1 V) inW4 rfl 5 (by decide) q_216 (fun _ h9 => h9) rfl dX11_play_23 ?_
    refine lv_iload_n hC.1 hC.2.1 dX11_play_26 rfl (lv_at hl 1 rfl) ?_
    refine lv_iconst hC.1 hC.2.1 dX11_play_27 ci_1 ?_
    obtain ⟨r2, M4, hq3, hf⟩ := o_b2 hf
    refine mw_cVi (As := [.int (M 1 6), .int (M 1 5), .int p1, .int 1]) (rest := []) hC hM (mcX11_valueOf V l 6 M (M 1 6) (M 1 5) p1 1 r2 M4 hq3) (mw_kV hC q_879 q_881 q_35 q_107 q_882 ⟨rfl, rfl⟩ kV_X11_valueOf ⟨Nat.le_of_ble_eq_true rfl, Nat.le_of_ble_eq_true rfl⟩) (Nat.le_of_ble_eq_true rfl) (eC_0 V) rfl rfl rfl (Nat.le_of_ble_eq_true rfl) hl.1 dX11_play_28 (fun H locs hM _ => ?_)
    refine lv_istore_n (lv' := [(2, .int r2), (0, .ref (mvA V 0)), (1, .int p1)]) hC.1 hC.2.1 dX11_play_31 rfl hl (Nat.le_of_ble_eq_true rfl) rfl (fun ls hl => ?_)
    refine lv_iconst hC.1 hC.2.1 dX11_play_32 ci_0 ?_
    refine lv_istore_n (lv' := [(3, .int 0), (2, .int r2), (0, .ref (mvA V 0)), (1, .int p1)]) hC.1 hC.2.1 dX11_play_33 rfl hl (Nat.le_of_ble_eq_true rfl) rfl (fun ls hl => ?_)
    exact hL34 _ _ _ _ _ _ _ _ hf hM (lv_sub hl [2, 3, 1, 0] rfl)
  · have hf := o_t hc5 hf
    refine lv_iconst hC.1 hC.2.1 dX11_play_9 ci_m1 ?_
    exact hret (o_r1 hf) (o_r2 hf hM) dX11_play_10
set_option maxHeartbeats 4000000 in
set_option maxRecDepth 100000 in
theorem mcX11_report (V : mV) (l : Launch) (M : mM) (p1 : Int32) (p2 : Int32) (r : Int32) (M' : mM) (hf : fX11_report M p1 p2 = some (r, M')) : IC V l yX11_report cX11_report 3 ({ frames := 2, cells := 0, slots := 0, locals := 42 } : Room) [.ref (mvA V 0), .int p1, .int p2] M r M' := by
  unfold fX11_report at hf
  refine mw_enterI RX11 rfl (by decide +kernel) (Nat.le_of_ble_eq_true rfl) (fun {p e s m args below meth c} ls A Q hC hret hM hl => ?_)
  have hl : lv_has ls 3 [(0, .ref (mvA V 0)), (1, .int p1), (2, .int p2)] := hl
  refine lv_iload_n hC.1 hC.2.1 dX11_report_0 rfl (lv_at hl 1 rfl) ?_
  refine lv_iconst hC.1 hC.2.1 dX11_report_1 ci_0 ?_
  refine lv_bipush hC.1 hC.2.1 dX11_report_2 cb_60 ?_
  refine mw_cSi (As := [.int p1, .int 0, .int 60]) (rest := []) hC hM (mcX11_isIn V l M p1 0 60 _ rfl) (mw_kS hC q_468 q_469 q_107 q_470 ⟨rfl, rfl⟩ kS_X11_isIn ⟨Nat.le_of_ble_eq_true rfl, Nat.le_of_ble_eq_true rfl⟩) rfl rfl (Nat.le_of_ble_eq_true rfl) hl.1 dX11_report_4 (fun H locs hM hb1 => ?_)
  refine lv_if_eq (tgt := 17) hC.1 hC.2.1 dX11_report_7 (by decide) (fun hc7 => ?_) (fun hc7 => ?_)
  · have hf := o_t hc7 hf
    refine lv_iconst hC.1 hC.2.1 dX11_report_17 ci_m1 ?_
    exact hret (o_r1 hf) (o_r2 hf hM) dX11_report_18
  · have hf := o_f hc7 hf
    refine lv_iload_n hC.1 hC.2.1 dX11_report_10 rfl (lv_at hl 2 rfl) ?_
    refine mw_cSi (As := [.int p2]) (rest := []) hC hM (mcX11_isHour V l M p2 _ rfl) (mw_kS hC q_474 q_475 q_107 q_476 ⟨rfl, rfl⟩ kS_X11_isHour ⟨Nat.le_of_ble_eq_true rfl, Nat.le_of_ble_eq_true rfl⟩) rfl rfl (Nat.le_of_ble_eq_true rfl) hl.1 dX11_report_11 (fun H locs hM hb2 => ?_)
    refine lv_if_ne (tgt := 19) hC.1 hC.2.1 dX11_report_14 (by decide) (fun hc6 => ?_) (fun hc6 => ?_)
    · have hf := o_f hc6 hf
      refine lv_aload_n hC.1 hC.2.1 dX11_report_19 rfl (lv_at hl 0 rfl) ?_
      refine mw_get (v := .ref (mvA V 1)) hC hM 0 (Nat.le_of_ble_eq_true rfl) (eC_0 V) inW11 rfl 0 (by decide) q_424 (fun _ h9 => h9) rfl dX11_report_20 ?_
      refine mw_get (v := .int (M 1 11)) hC hM 1 (Nat.le_of_ble_eq_true rfl) (eC_1 V) inW4 rfl 11 (by decide) q_229 (fun _ h9 => h9) rfl dX11_report_23 ?_
      refine lv_bipush hC.1 hC.2.1 dX11_report_26 cb_6 ?_
      refine lv_icmp_lt (tgt := 34) hC.1 hC.2.1 dX11_report_28 (by decide) (fun hc5 => ?_) (fun hc5 => ?_)
      · have hf := o_t hc5 hf
        refine lv_aload_n hC.1 hC.2.1 dX11_report_34 rfl (lv_at hl 0 rfl) ?_
        refine mw_get (v := .ref (mvA V 1)) hC hM 0 (Nat.le_of_ble_eq_true rfl) (eC_0 V) inW11 rfl 0 (by decide) q_424 (fun _ h9 => h9) rfl dX11_report_35 ?_
        refine mw_get (v := .ref (mvA V 6)) hC hM 1 (Nat.le_of_ble_eq_true rfl) (eC_1 V) inW4 rfl 12 (by decide) q_231 (fun _ h9 => h9) rfl dX11_report_38 ?_
        refine lv_aload_n hC.1 hC.2.1 dX11_report_41 rfl (lv_at hl 0 rfl) ?_
        refine mw_get (v := .ref (mvA V 1)) hC hM 0 (Nat.le_of_ble_eq_true rfl) (eC_0 V) inW11 rfl 0 (by decide) q_424 (fun _ h9 => h9) rfl dX11_report_42 ?_
        refine mw_get (v := .int (M 1 11)) hC hM 1 (Nat.le_of_ble_eq_true rfl) (eC_1 V) inW4 rfl 11 (by decide) q_229 (fun _ h9 => h9) rfl dX11_report_45 ?_
        refine lv_iload_n hC.1 hC.2.1 dX11_report_48 rfl (lv_at hl 1 rfl) ?_
        obtain ⟨hg3, hf⟩ := o_g hf
        refine mw_iast hC hM 6 0 (Nat.le_of_ble_eq_true rfl) (eC_6 V) rfl hg3 dX11_report_49 (fun H locs hM => ?_)
        refine lv_aload_n hC.1 hC.2.1 dX11_report_50 rfl (lv_at hl 0 rfl) ?_
        refine mw_get (v := .ref (mvA V 1)) hC hM 0 (Nat.le_of_ble_eq_true rfl) (eC_0 V) inW11 rfl 0 (by decide) q_424 (fun _ h9 => h9) rfl dX11_report_51 ?_
        refine mw_get (v := .ref (mvA V 7)) hC hM 1 (Nat.le_of_ble_eq_true rfl) (eC_1 V) inW4 rfl 13 (by decide) q_233 (fun _ h9 => h9) rfl dX11_report_54 ?_
        refine lv_aload_n hC.1 hC.2.1 dX11_report_57 rfl (lv_at hl 0 rfl) ?_
        refine mw_get (v := .ref (mvA V 1)) hC hM 0 (Nat.le_of_ble_eq_true rfl) (eC_0 V) inW11 rfl 0 (by decide) q_424 (fun _ h9 => h9) rfl dX11_report_58 ?_
        refine mw_get (v := .int ((wr M 6 (Int32.toNatClampNeg (M 1 11)) p1) 1 11)) hC hM 1 (Nat.le_of_ble_eq_true rfl) (eC_1 V) inW4 rfl 11 (by decide) q_229 (fun _ h9 => h9) rfl dX11_report_61 ?_
        refine lv_iload_n hC.1 hC.2.1 dX11_report_64 rfl (lv_at hl 2 rfl) ?_
        obtain ⟨hg4, hf⟩ := o_g hf
        refine mw_iast hC hM 7 0 (Nat.le_of_ble_eq_true rfl) (eC_7 V) rfl hg4 dX11_report_65 (fun H locs hM => ?_)
        refine lv_aload_n hC.1 hC.2.1 dX11_report_66 rfl (lv_at hl 0 rfl) ?_
        refine mw_get (v := .ref (mvA V 1)) hC hM 0 (Nat.le_of_ble_eq_true rfl) (eC_0 V) inW11 rfl 0 (by decide) q_424 (fun _ h9 => h9) rfl dX11_report_67 ?_
        refine lv_dup hC.1 hC.2.1 dX11_report_70 rfl ?_
        refine mw_get (v := .int ((wr (wr M 6 (Int32.toNatClampNeg (M 1 11)) p1) 7 (Int32.toNatClampNeg ((wr M 6 (Int32.toNatClampNeg (M 1 11)) p1) 1 11)) p2) 1 11)) hC hM 1 (Nat.le_of_ble_eq_true rfl) (eC_1 V) inW4 rfl 11 (by decide) q_229 (fun _ h9 => h9) rfl dX11_report_71 ?_
        refine lv_dup_x1 hC.1 hC.2.1 dX11_report_74 rfl rfl ?_
        refine lv_iconst hC.1 hC.2.1 dX11_report_75 ci_1 ?_
        refine lv_iadd hC.1 hC.2.1 dX11_report_76 ?_
        refine mw_put hC hM 1 (Nat.le_of_ble_eq_true rfl) (eC_1 V) inW4 tyX4 tyX4_ok nmX4 rfl 11 (by decide) q_229 (fun _ h9 => h9) rfl rfl rfl (Nat.le_of_ble_eq_true rfl) rfl dX11_report_77 (fun H locs hM => ?_)
        exact hret (o_r1 hf) (o_r2 hf hM) dX11_report_80
      · have hf := o_f hc5 hf
        refine lv_bipush hC.1 hC.2.1 dX11_report_31 cb_m2 ?_
        exact hret (o_r1 hf) (o_r2 hf hM) dX11_report_33
    · have hf := o_t hc6 hf
      refine lv_iconst hC.1 hC.2.1 dX11_report_17 ci_m1 ?_
      exact hret (o_r1 hf) (o_r2 hf hM) dX11_report_18
set_option maxHeartbeats 4000000 in
set_option maxRecDepth 100000 in
theorem mcX11_forget (V : mV) (l : Launch) (M : mM) (r : Int32) (M' : mM) (hf : fX11_forget M = some (r, M')) : IC V l yX11_forget cX11_forget 2 ({ frames := 0, cells := 0, slots := 0, locals := 0 } : Room) [.ref (mvA V 0)] M r M' := by
  unfold fX11_forget at hf
  refine mw_enterI RX11 rfl (by decide +kernel) (Nat.le_of_ble_eq_true rfl) (fun {p e s m args below meth c} ls A Q hC hret hM hl => ?_)
  have hl : lv_has ls 2 [(0, .ref (mvA V 0))] := hl
  refine lv_aload_n hC.1 hC.2.1 dX11_forget_0 rfl (lv_at hl 0 rfl) ?_
  refine mw_get (v := .ref (mvA V 1)) hC hM 0 (Nat.le_of_ble_eq_true rfl) (eC_0 V) inW11 rfl 0 (by decide) q_424 (fun _ h9 => h9) rfl dX11_forget_1 ?_
  refine mw_get (v := .int (M 1 11)) hC hM 1 (Nat.le_of_ble_eq_true rfl) (eC_1 V) inW4 rfl 11 (by decide) q_229 (fun _ h9 => h9) rfl dX11_forget_4 ?_
  refine lv_istore_n (lv' := [(1, .int (M 1 11)), (0, .ref (mvA V 0))]) hC.1 hC.2.1 dX11_forget_7 rfl hl (Nat.le_of_ble_eq_true rfl) rfl (fun ls hl => ?_)
  refine lv_aload_n hC.1 hC.2.1 dX11_forget_8 rfl (lv_at hl 1 rfl) ?_
  refine mw_get (v := .ref (mvA V 1)) hC hM 0 (Nat.le_of_ble_eq_true rfl) (eC_0 V) inW11 rfl 0 (by decide) q_424 (fun _ h9 => h9) rfl dX11_forget_9 ?_
  refine lv_iconst hC.1 hC.2.1 dX11_forget_12 ci_0 ?_
  refine mw_put hC hM 1 (Nat.le_of_ble_eq_true rfl) (eC_1 V) inW4 tyX4 tyX4_ok nmX4 rfl 11 (by decide) q_229 (fun _ h9 => h9) rfl rfl rfl (Nat.le_of_ble_eq_true rfl) rfl dX11_forget_13 (fun H locs hM => ?_)
  refine lv_iload_n hC.1 hC.2.1 dX11_forget_16 rfl (lv_at hl 0 rfl) ?_
  exact hret (o_r1 hf) (o_r2 hf hM) dX11_forget_17
set_option maxHeartbeats 4000000 in
set_option maxRecDepth 100000 in
theorem mcX11_fits (V : mV) (l : Launch) (M : mM) (p1 : Int32) (p2 : Int32) (r : Int32) (hf : fX11_fits M p1 p2 = some r) : ZC V l yX11_fits cX11_fits 5 ({ frames := 2, cells := 0, slots := 0, locals := 43 } : Room) [.ref (mvA V 0), .int p1, .int p2] M r M := by
  unfold fX11_fits at hf
  refine mw_enterZ RX11 rfl (by decide +kernel) (Nat.le_of_ble_eq_true rfl) (fun {p e s m args below meth c} ls A Q hC hret hM hl => ?_)
  have hl : lv_has ls 5 [(0, .ref (mvA V 0)), (1, .int p1), (2, .int p2)] := hl
  have hL10 : ∀ (n : Nat) (x1 : Int32) (x2 : Int32) (x3 : Int32) (x4 : Int32) (H : Heap) (locs : List Loc) (ls : Array Slot), fX11_fits_L10 n M x1 x2 x3 x4 = some r → PC V M A s H locs → lv_has ls 5 [(0, .ref (mvA V 0)), (1, .int x1), (2, .int x2), (3, .int x3), (4, .int x4)] → W p l e ({ frames := 2, cells := 0, slots := 0, locals := 43 } : Room) s m args below meth c H locs 0 0 Q (F0 m 10 ls []) := by
    intro n8
    induction n8 with
    | zero => intro x1 x2 x3 x4 H locs ls hf; cases hf
    | succ n8 ih8 =>
      intro x1 x2 x3 x4 H locs ls hf hM hl
      have hf : fX11_fits_L10_b (fX11_fits_L10 n8) M x1 x2 x3 x4 = some r := hf
      unfold fX11_fits_L10_b at hf
      refine lv_iload hC.1 hC.2.1 dX11_fits_10 (lv_at hl 4 rfl) ?_
      refine lv_aload_n hC.1 hC.2.1 dX11_fits_12 rfl (lv_at hl 0 rfl) ?_
      refine mw_get (v := .ref (mvA V 1)) hC hM 0 (Nat.le_of_ble_eq_true rfl) (eC_0 V) inW11 rfl 0 (by decide) q_424 (fun _ h9 => h9) rfl dX11_fits_13 ?_
      refine mw_get (v := .int (M 1 11)) hC hM 1 (Nat.le_of_ble_eq_true rfl) (eC_1 V) inW4 rfl 11 (by decide) q_229 (fun _ h9 => h9) rfl dX11_fits_16 ?_
      refine lv_icmp_ge (tgt := 68) hC.1 hC.2.1 dX11_fits_19 (by decide) (fun hc7 => ?_) (fun hc7 => ?_)
      · have hf := o_t hc7 hf
        refine lv_iconst hC.1 hC.2.1 dX11_fits_68 ci_1 ?_
        exact hret (Option.some.inj hf) (Or.inr rfl) hM dX11_fits_69
      · have hf := o_f hc7 hf
        refine lv_iload hC.1 hC.2.1 dX11_fits_22 (lv_at hl 4 rfl) ?_
        refine lv_iload_n hC.1 hC.2.1 dX11_fits_24 rfl (lv_at hl 2 rfl) ?_
        refine lv_icmp_eq (tgt := 62) hC.1 hC.2.1 dX11_fits_25 (by decide) (fun hc6 => ?_) (fun hc6 => ?_)
        · have hf := o_t hc6 hf
          refine lv_iinc (k := 4) (lv' := [(4, .int (x4 + 1)), (0, .ref (mvA V 0)), (1, .int x1), (2, .int x2), (3, .int x3)]) hC.1 hC.2.1 dX11_fits_62 hl rfl (inc_1 _) (Nat.le_of_ble_eq_true rfl) rfl (fun ls hl => ?_)
          refine lv_goto (tgt := 10) hC.1 hC.2.1 dX11_fits_65 (by decide) ?_
          exact ih8 _ _ _ _ _ _ _ hf hM (lv_sub hl [1, 2, 3, 4, 0] rfl)
        · have hf := o_f hc6 hf
          refine lv_iload_n hC.1 hC.2.1 dX11_fits_28 rfl (lv_at hl 1 rfl) ?_
          refine lv_bipush hC.1 hC.2.1 dX11_fits_29 cb_24 ?_
          refine mw_irem hC.1 hC.2.1 dX11_fits_31 (by decide) ?_
          refine lv_aload_n hC.1 hC.2.1 dX11_fits_32 rfl (lv_at hl 0 rfl) ?_
          refine mw_get (v := .ref (mvA V 1)) hC hM 0 (Nat.le_of_ble_eq_true rfl) (eC_0 V) inW11 rfl 0 (by decide) q_424 (fun _ h9 => h9) rfl dX11_fits_33 ?_
          refine mw_get (v := .ref (mvA V 6)) hC hM 1 (Nat.le_of_ble_eq_true rfl) (eC_1 V) inW4 rfl 12 (by decide) q_231 (fun _ h9 => h9) rfl dX11_fits_36 ?_
          refine lv_iload hC.1 hC.2.1 dX11_fits_39 (lv_at hl 4 rfl) ?_
          obtain ⟨hg1, hf⟩ := o_g hf
          refine mw_iald hC hM 6 0 (Nat.le_of_ble_eq_true rfl) (eC_6 V) rfl hg1 dX11_fits_41 ?_
          refine lv_iload_n hC.1 hC.2.1 dX11_fits_42 rfl (lv_at hl 3 rfl) ?_
          refine lv_imul hC.1 hC.2.1 dX11_fits_43 ?_
          obtain ⟨r2, hq3, hf⟩ := o_b hf
          refine mw_cSi (As := [.int (irem x1 24), .int ((M 6 (Int32.toNatClampNeg x4)) * x3)]) (rest := []) hC hM (mcX11_moved V l M (irem x1 24) ((M 6 (Int32.toNatClampNeg x4)) * x3) r2 hq3) (mw_kS hC q_762 q_748 q_107 q_749 ⟨rfl, rfl⟩ kS_X11_moved ⟨Nat.le_of_ble_eq_true rfl, Nat.le_of_ble_eq_true rfl⟩) rfl rfl (Nat.le_of_ble_eq_true rfl) hl.1 dX11_fits_44 (fun H locs hM _ => ?_)
          refine lv_aload_n hC.1 hC.2.1 dX11_fits_47 rfl (lv_at hl 0 rfl) ?_
          refine mw_get (v := .ref (mvA V 1)) hC hM 0 (Nat.le_of_ble_eq_true rfl) (eC_0 V) inW11 rfl 0 (by decide) q_424 (fun _ h9 => h9) rfl dX11_fits_48 ?_
          refine mw_get (v := .ref (mvA V 7)) hC hM 1 (Nat.le_of_ble_eq_true rfl) (eC_1 V) inW4 rfl 13 (by decide) q_233 (fun _ h9 => h9) rfl dX11_fits_51 ?_
          refine lv_iload hC.1 hC.2.1 dX11_fits_54 (lv_at hl 4 rfl) ?_
          obtain ⟨hg4, hf⟩ := o_g hf
          refine mw_iald hC hM 7 0 (Nat.le_of_ble_eq_true rfl) (eC_7 V) rfl hg4 dX11_fits_56 ?_
          refine lv_icmp_eq (tgt := 62) hC.1 hC.2.1 dX11_fits_57 (by decide) (fun hc5 => ?_) (fun hc5 => ?_)
          · have hf := o_t hc5 hf
            refine lv_iinc (k := 4) (lv' := [(4, .int (x4 + 1)), (0, .ref (mvA V 0)), (1, .int x1), (2, .int x2), (3, .int x3)]) hC.1 hC.2.1 dX11_fits_62 hl rfl (inc_1 _) (Nat.le_of_ble_eq_true rfl) rfl (fun ls hl => ?_)
            refine lv_goto (tgt := 10) hC.1 hC.2.1 dX11_fits_65 (by decide) ?_
            exact ih8 _ _ _ _ _ _ _ hf hM (lv_sub hl [1, 2, 3, 4, 0] rfl)
          · have hf := o_f hc5 hf
            refine lv_iconst hC.1 hC.2.1 dX11_fits_60 ci_0 ?_
            exact hret (Option.some.inj hf) (Or.inl rfl) hM dX11_fits_61
  refine lv_iload_n hC.1 hC.2.1 dX11_fits_0 rfl (lv_at hl 1 rfl) ?_
  refine lv_bipush hC.1 hC.2.1 dX11_fits_1 cb_24 ?_
  refine lv_idiv hC.1 hC.2.1 dX11_fits_3 (by decide) ?_
  refine lv_iconst hC.1 hC.2.1 dX11_fits_4 ci_1 ?_
  refine lv_isub hC.1 hC.2.1 dX11_fits_5 ?_
  refine lv_istore_n (lv' := [(3, .int ((p1 / 24) - 1)), (0, .ref (mvA V 0)), (1, .int p1), (2, .int p2)]) hC.1 hC.2.1 dX11_fits_6 rfl hl (Nat.le_of_ble_eq_true rfl) rfl (fun ls hl => ?_)
  refine lv_iconst hC.1 hC.2.1 dX11_fits_7 ci_0 ?_
  refine lv_istore (lv' := [(4, .int 0), (3, .int ((p1 / 24) - 1)), (0, .ref (mvA V 0)), (1, .int p1), (2, .int p2)]) hC.1 hC.2.1 dX11_fits_8 hl (Nat.le_of_ble_eq_true rfl) rfl (fun ls hl => ?_)
  exact hL10 _ _ _ _ _ _ _ _ hf hM (lv_sub hl [2, 3, 4, 1, 0] rfl)
set_option maxHeartbeats 4000000 in
set_option maxRecDepth 100000 in
theorem mcX11_span (V : mV) (l : Launch) (M : mM) (p1 : Int32) (r : Int32) (hf : fX11_span M p1 = some r) : IC V l yX11_span cX11_span 5 ({ frames := 3, cells := 0, slots := 0, locals := 67 } : Room) [.ref (mvA V 0), .int p1] M r M := by
  unfold fX11_span at hf
  refine mw_enterI RX11 rfl (by decide +kernel) (Nat.le_of_ble_eq_true rfl) (fun {p e s m args below meth c} ls A Q hC hret hM hl => ?_)
  have hl : lv_has ls 5 [(0, .ref (mvA V 0)), (1, .int p1)] := hl
  have hL20 : ∀ (n : Nat) (x1 : Int32) (x2 : Int32) (x3 : Int32) (x4 : Int32) (H : Heap) (locs : List Loc) (ls : Array Slot), fX11_span_L20 n M x1 x2 x3 x4 = some r → PC V M A s H locs → lv_has ls 5 [(0, .ref (mvA V 0)), (1, .int x1), (2, .int x2), (3, .int x3), (4, .int x4)] → W p l e ({ frames := 3, cells := 0, slots := 0, locals := 67 } : Room) s m args below meth c H locs 0 0 Q (F0 m 20 ls []) := by
    intro n13
    induction n13 with
    | zero => intro x1 x2 x3 x4 H locs ls hf; cases hf
    | succ n13 ih13 =>
      intro x1 x2 x3 x4 H locs ls hf hM hl
      have hf : fX11_span_L20_b (fX11_span_L20 n13) M x1 x2 x3 x4 = some r := hf
      unfold fX11_span_L20_b at hf
      refine lv_iload hC.1 hC.2.1 dX11_span_20 (lv_at hl 4 rfl) ?_
      refine lv_if_lt (tgt := 48) hC.1 hC.2.1 dX11_span_22 (by decide) (fun hc10 => ?_) (fun hc10 => ?_)
      · have hf := o_t hc10 hf
        refine lv_iload_n hC.1 hC.2.1 dX11_span_48 rfl (lv_at hl 1 rfl) ?_
        refine lv_if_ne (tgt := 54) hC.1 hC.2.1 dX11_span_49 (by decide) (fun hc5 => ?_) (fun hc5 => ?_)
        · have hf := o_f hc5 hf
          refine lv_iload_n hC.1 hC.2.1 dX11_span_54 rfl (lv_at hl 2 rfl) ?_
          refine lv_if_ge (tgt := 63) hC.1 hC.2.1 dX11_span_55 (by decide) (fun hc4 => ?_) (fun hc4 => ?_)
          · have hf := o_t hc4 hf
            refine lv_iload_n hC.1 hC.2.1 dX11_span_63 rfl (lv_at hl 1 rfl) ?_
            refine lv_iconst hC.1 hC.2.1 dX11_span_64 ci_1 ?_
            refine lv_icmp_ne (tgt := 75) hC.1 hC.2.1 dX11_span_65 (by decide) (fun hc3 => ?_) (fun hc3 => ?_)
            · have hf := o_f hc3 hf
              refine lv_iload_n hC.1 hC.2.1 dX11_span_75 rfl (lv_at hl 2 rfl) ?_
              refine lv_bipush hC.1 hC.2.1 dX11_span_76 cb_24 ?_
              refine mw_irem hC.1 hC.2.1 dX11_span_78 (by decide) ?_
              exact hret (Option.some.inj hf) hM dX11_span_79
            · have hf := o_t hc3 hf
              refine lv_iload_n hC.1 hC.2.1 dX11_span_68 rfl (lv_at hl 2 rfl) ?_
              refine lv_bipush hC.1 hC.2.1 dX11_span_69 cb_24 ?_
              refine lv_idiv hC.1 hC.2.1 dX11_span_71 (by decide) ?_
              refine lv_goto (tgt := 79) hC.1 hC.2.1 dX11_span_72 (by decide) ?_
              exact hret (Option.some.inj hf) hM dX11_span_79
          · have hf := o_f hc4 hf
            refine lv_bipush hC.1 hC.2.1 dX11_span_58 cb_m3 ?_
            refine lv_goto (tgt := 79) hC.1 hC.2.1 dX11_span_60 (by decide) ?_
            exact hret (Option.some.inj hf) hM dX11_span_79
        · have hf := o_t hc5 hf
          refine lv_iload_n hC.1 hC.2.1 dX11_span_52 rfl (lv_at hl 3 rfl) ?_
          exact hret (Option.some.inj hf) hM dX11_span_53
      · have hf := o_f hc10 hf
        refine lv_aload_n hC.1 hC.2.1 dX11_span_25 rfl (lv_at hl 0 rfl) ?_
        refine lv_iload hC.1 hC.2.1 dX11_span_26 (lv_at hl 4 rfl) ?_
        refine lv_bipush hC.1 hC.2.1 dX11_span_28 cb_m3 ?_
        obtain ⟨r6, hq7, hf⟩ := o_b hf
        refine mw_cVi (As := [.int x4, .int (-3)]) (rest := []) hC hM (mcX11_fits V l M x4 (-3) r6 hq7) (mw_kV hC q_903 q_905 q_37 q_107 q_906 ⟨rfl, rfl⟩ kV_X11_fits ⟨Nat.le_of_ble_eq_true rfl, Nat.le_of_ble_eq_true rfl⟩) (Nat.le_of_ble_eq_true rfl) (eC_0 V) rfl rfl rfl (Nat.le_of_ble_eq_true rfl) hl.1 dX11_span_30 (fun H locs hM hb8 => ?_)
        refine lv_if_eq (tgt := 42) hC.1 hC.2.1 dX11_span_33 (by decide) (fun hc9 => ?_) (fun hc9 => ?_)
        · have hf := o_t hc9 hf
          refine lv_iinc (k := 4) (lv' := [(4, .int (x4 + (-1))), (0, .ref (mvA V 0)), (1, .int x1), (2, .int x2), (3, .int x3)]) hC.1 hC.2.1 dX11_span_42 hl rfl (inc_m1 _) (Nat.le_of_ble_eq_true rfl) rfl (fun ls hl => ?_)
          refine lv_goto (tgt := 20) hC.1 hC.2.1 dX11_span_45 (by decide) ?_
          exact ih13 _ _ _ _ _ _ _ hf hM (lv_sub hl [1, 2, 3, 4, 0] rfl)
        · have hf := o_f hc9 hf
          refine lv_iload hC.1 hC.2.1 dX11_span_36 (lv_at hl 4 rfl) ?_
          refine lv_istore_n (lv' := [(2, .int x4), (0, .ref (mvA V 0)), (1, .int x1), (3, .int x3), (4, .int x4)]) hC.1 hC.2.1 dX11_span_38 rfl hl (Nat.le_of_ble_eq_true rfl) rfl (fun ls hl => ?_)
          refine lv_iinc (k := 3) (lv' := [(3, .int (x3 + 1)), (2, .int x4), (0, .ref (mvA V 0)), (1, .int x1), (4, .int x4)]) hC.1 hC.2.1 dX11_span_39 hl rfl (inc_1 _) (Nat.le_of_ble_eq_true rfl) rfl (fun ls hl => ?_)
          refine lv_iinc (k := 4) (lv' := [(4, .int (x4 + (-1))), (3, .int (x3 + 1)), (2, .int x4), (0, .ref (mvA V 0)), (1, .int x1)]) hC.1 hC.2.1 dX11_span_42 hl rfl (inc_m1 _) (Nat.le_of_ble_eq_true rfl) rfl (fun ls hl => ?_)
          refine lv_goto (tgt := 20) hC.1 hC.2.1 dX11_span_45 (by decide) ?_
          exact ih13 _ _ _ _ _ _ _ hf hM (lv_sub hl [3, 4, 2, 1, 0] rfl)
  refine lv_iload_n hC.1 hC.2.1 dX11_span_0 rfl (lv_at hl 1 rfl) ?_
  refine lv_iconst hC.1 hC.2.1 dX11_span_1 ci_0 ?_
  refine lv_iconst hC.1 hC.2.1 dX11_span_2 ci_2 ?_
  refine mw_cSi (As := [.int p1, .int 0, .int 2]) (rest := []) hC hM (mcX11_isIn V l M p1 0 2 _ rfl) (mw_kS hC q_468 q_469 q_107 q_470 ⟨rfl, rfl⟩ kS_X11_isIn ⟨Nat.le_of_ble_eq_true rfl, Nat.le_of_ble_eq_true rfl⟩) rfl rfl (Nat.le_of_ble_eq_true rfl) hl.1 dX11_span_3 (fun H locs hM hb1 => ?_)
  refine lv_if_ne (tgt := 11) hC.1 hC.2.1 dX11_span_6 (by decide) (fun hc2 => ?_) (fun hc2 => ?_)
  · have hf := o_f hc2 hf
    refine lv_bipush hC.1 hC.2.1 dX11_span_11 cb_m3 ?_
    refine lv_istore_n (lv' := [(2, .int (-3)), (0, .ref (mvA V 0)), (1, .int p1)]) hC.1 hC.2.1 dX11_span_13 rfl hl (Nat.le_of_ble_eq_true rfl) rfl (fun ls hl => ?_)
    refine lv_iconst hC.1 hC.2.1 dX11_span_14 ci_0 ?_
    refine lv_istore_n (lv' := [(3, .int 0), (2, .int (-3)), (0, .ref (mvA V 0)), (1, .int p1)]) hC.1 hC.2.1 dX11_span_15 rfl hl (Nat.le_of_ble_eq_true rfl) rfl (fun ls hl => ?_)
    refine lv_bipush hC.1 hC.2.1 dX11_span_16 cb_71 ?_
    refine lv_istore (lv' := [(4, .int 71), (3, .int 0), (2, .int (-3)), (0, .ref (mvA V 0)), (1, .int p1)]) hC.1 hC.2.1 dX11_span_18 hl (Nat.le_of_ble_eq_true rfl) rfl (fun ls hl => ?_)
    exact hL20 _ _ _ _ _ _ _ _ hf hM (lv_sub hl [3, 4, 2, 1, 0] rfl)
  · have hf := o_t hc2 hf
    refine lv_iconst hC.1 hC.2.1 dX11_span_9 ci_m1 ?_
    exact hret (Option.some.inj hf) hM dX11_span_10
set_option maxHeartbeats 4000000 in
set_option maxRecDepth 100000 in
theorem mcX11_someFits (V : mV) (l : Launch) (M : mM) (p1 : Int32) (r : Int32) (hf : fX11_someFits M p1 = some r) : ZC V l yX11_someFits cX11_someFits 3 ({ frames := 3, cells := 0, slots := 0, locals := 67 } : Room) [.ref (mvA V 0), .int p1] M r M := by
  unfold fX11_someFits at hf
  refine mw_enterZ RX11 rfl (by decide +kernel) (Nat.le_of_ble_eq_true rfl) (fun {p e s m args below meth c} ls A Q hC hret hM hl => ?_)
  have hl : lv_has ls 3 [(0, .ref (mvA V 0)), (1, .int p1)] := hl
  have hL2 : ∀ (n : Nat) (x1 : Int32) (x2 : Int32) (H : Heap) (locs : List Loc) (ls : Array Slot), fX11_someFits_L2 n M x1 x2 = some r → PC V M A s H locs → lv_has ls 3 [(0, .ref (mvA V 0)), (1, .int x1), (2, .int x2)] → W p l e ({ frames := 3, cells := 0, slots := 0, locals := 67 } : Room) s m args below meth c H locs 0 0 Q (F0 m 2 ls []) := by
    intro n2
    induction n2 with
    | zero => intro x1 x2 H locs ls hf; cases hf
    | succ n2 ih2 =>
      intro x1 x2 H locs ls hf hM hl
      have hf : fX11_someFits_L2_b (fX11_someFits_L2 n2) M x1 x2 = some r := hf
      unfold fX11_someFits_L2_b at hf
      refine lv_iload_n hC.1 hC.2.1 dX11_someFits_2 rfl (lv_at hl 2 rfl) ?_
      refine lv_bipush hC.1 hC.2.1 dX11_someFits_3 cb_72 ?_
      refine lv_icmp_ge (tgt := 25) hC.1 hC.2.1 dX11_someFits_5 (by decide) (fun hc5 => ?_) (fun hc5 => ?_)
      · have hf := o_t hc5 hf
        refine lv_iconst hC.1 hC.2.1 dX11_someFits_25 ci_0 ?_
        exact hret (Option.some.inj hf) (Or.inl rfl) hM dX11_someFits_26
      · have hf := o_f hc5 hf
        refine lv_aload_n hC.1 hC.2.1 dX11_someFits_8 rfl (lv_at hl 0 rfl) ?_
        refine lv_iload_n hC.1 hC.2.1 dX11_someFits_9 rfl (lv_at hl 2 rfl) ?_
        refine lv_iload_n hC.1 hC.2.1 dX11_someFits_10 rfl (lv_at hl 1 rfl) ?_
        obtain ⟨r1, hq2, hf⟩ := o_b hf
        refine mw_cVi (As := [.int x2, .int x1]) (rest := []) hC hM (mcX11_fits V l M x2 x1 r1 hq2) (mw_kV hC q_903 q_905 q_37 q_107 q_906 ⟨rfl, rfl⟩ kV_X11_fits ⟨Nat.le_of_ble_eq_true rfl, Nat.le_of_ble_eq_true rfl⟩) (Nat.le_of_ble_eq_true rfl) (eC_0 V) rfl rfl rfl (Nat.le_of_ble_eq_true rfl) hl.1 dX11_someFits_11 (fun H locs hM hb3 => ?_)
        refine lv_if_eq (tgt := 19) hC.1 hC.2.1 dX11_someFits_14 (by decide) (fun hc4 => ?_) (fun hc4 => ?_)
        · have hf := o_t hc4 hf
          refine lv_iinc (k := 2) (lv' := [(2, .int (x2 + 1)), (0, .ref (mvA V 0)), (1, .int x1)]) hC.1 hC.2.1 dX11_someFits_19 hl rfl (inc_1 _) (Nat.le_of_ble_eq_true rfl) rfl (fun ls hl => ?_)
          refine lv_goto (tgt := 2) hC.1 hC.2.1 dX11_someFits_22 (by decide) ?_
          exact ih2 _ _ _ _ _ hf hM (lv_sub hl [1, 2, 0] rfl)
        · have hf := o_f hc4 hf
          refine lv_iconst hC.1 hC.2.1 dX11_someFits_17 ci_1 ?_
          exact hret (Option.some.inj hf) (Or.inr rfl) hM dX11_someFits_18
  refine lv_iconst hC.1 hC.2.1 dX11_someFits_0 ci_0 ?_
  refine lv_istore_n (lv' := [(2, .int 0), (0, .ref (mvA V 0)), (1, .int p1)]) hC.1 hC.2.1 dX11_someFits_1 rfl hl (Nat.le_of_ble_eq_true rfl) rfl (fun ls hl => ?_)
  exact hL2 _ _ _ _ _ _ hf hM (lv_sub hl [1, 2, 0] rfl)
set_option maxHeartbeats 4000000 in
set_option maxRecDepth 100000 in
theorem mcX11_liar (V : mV) (l : Launch) (M : mM) (r : Int32) (hf : fX11_liar M = some r) : IC V l yX11_liar cX11_liar 2 ({ frames := 4, cells := 0, slots := 0, locals := 89 } : Room) [.ref (mvA V 0)] M r M := by
  unfold fX11_liar at hf
  refine mw_enterI RX11 rfl (by decide +kernel) (Nat.le_of_ble_eq_true rfl) (fun {p e s m args below meth c} ls A Q hC hret hM hl => ?_)
  have hl : lv_has ls 2 [(0, .ref (mvA V 0))] := hl
  have hL14 : ∀ (n : Nat) (x1 : Int32) (H : Heap) (locs : List Loc) (ls : Array Slot), fX11_liar_L14 n M x1 = some r → PC V M A s H locs → lv_has ls 2 [(0, .ref (mvA V 0)), (1, .int x1)] → W p l e ({ frames := 4, cells := 0, slots := 0, locals := 89 } : Room) s m args below meth c H locs 0 0 Q (F0 m 14 ls []) := by
    intro n8
    induction n8 with
    | zero => intro x1 H locs ls hf; cases hf
    | succ n8 ih8 =>
      intro x1 H locs ls hf hM hl
      have hf : fX11_liar_L14_b (fX11_liar_L14 n8) M x1 = some r := hf
      unfold fX11_liar_L14_b at hf
      refine lv_iload_n hC.1 hC.2.1 dX11_liar_14 rfl (lv_at hl 1 rfl) ?_
      refine lv_aload_n hC.1 hC.2.1 dX11_liar_15 rfl (lv_at hl 0 rfl) ?_
      refine mw_get (v := .ref (mvA V 1)) hC hM 0 (Nat.le_of_ble_eq_true rfl) (eC_0 V) inW11 rfl 0 (by decide) q_424 (fun _ h9 => h9) rfl dX11_liar_16 ?_
      refine mw_get (v := .int (M 1 11)) hC hM 1 (Nat.le_of_ble_eq_true rfl) (eC_1 V) inW4 rfl 11 (by decide) q_229 (fun _ h9 => h9) rfl dX11_liar_19 ?_
      refine lv_icmp_ge (tgt := 41) hC.1 hC.2.1 dX11_liar_22 (by decide) (fun hc9 => ?_) (fun hc9 => ?_)
      · have hf := o_t hc9 hf
        refine lv_bipush hC.1 hC.2.1 dX11_liar_41 cb_m3 ?_
        exact hret (Option.some.inj hf) hM dX11_liar_43
      · have hf := o_f hc9 hf
        refine lv_aload_n hC.1 hC.2.1 dX11_liar_25 rfl (lv_at hl 0 rfl) ?_
        refine lv_iload_n hC.1 hC.2.1 dX11_liar_26 rfl (lv_at hl 1 rfl) ?_
        obtain ⟨r5, hq6, hf⟩ := o_b hf
        refine mw_cVi (As := [.int x1]) (rest := []) hC hM (mcX11_someFits V l M x1 r5 hq6) (mw_kV hC q_911 q_913 q_38 q_107 q_914 ⟨rfl, rfl⟩ kV_X11_someFits ⟨Nat.le_of_ble_eq_true rfl, Nat.le_of_ble_eq_true rfl⟩) (Nat.le_of_ble_eq_true rfl) (eC_0 V) rfl rfl rfl (Nat.le_of_ble_eq_true rfl) hl.1 dX11_liar_27 (fun H locs hM hb7 => ?_)
        refine lv_if_eq (tgt := 35) hC.1 hC.2.1 dX11_liar_30 (by decide) (fun hc8 => ?_) (fun hc8 => ?_)
        · have hf := o_t hc8 hf
          refine lv_iinc (k := 1) (lv' := [(1, .int (x1 + 1)), (0, .ref (mvA V 0))]) hC.1 hC.2.1 dX11_liar_35 hl rfl (inc_1 _) (Nat.le_of_ble_eq_true rfl) rfl (fun ls hl => ?_)
          refine lv_goto (tgt := 14) hC.1 hC.2.1 dX11_liar_38 (by decide) ?_
          exact ih8 _ _ _ _ hf hM (lv_sub hl [1, 0] rfl)
        · have hf := o_f hc8 hf
          refine lv_iload_n hC.1 hC.2.1 dX11_liar_33 rfl (lv_at hl 1 rfl) ?_
          exact hret (Option.some.inj hf) hM dX11_liar_34
  refine lv_aload_n hC.1 hC.2.1 dX11_liar_0 rfl (lv_at hl 0 rfl) ?_
  refine lv_bipush hC.1 hC.2.1 dX11_liar_1 cb_m3 ?_
  obtain ⟨r1, hq2, hf⟩ := o_b hf
  refine mw_cVi (As := [.int (-3)]) (rest := []) hC hM (mcX11_someFits V l M (-3) r1 hq2) (mw_kV hC q_911 q_913 q_38 q_107 q_914 ⟨rfl, rfl⟩ kV_X11_someFits ⟨Nat.le_of_ble_eq_true rfl, Nat.le_of_ble_eq_true rfl⟩) (Nat.le_of_ble_eq_true rfl) (eC_0 V) rfl rfl rfl (Nat.le_of_ble_eq_true rfl) hl.1 dX11_liar_3 (fun H locs hM hb3 => ?_)
  refine lv_if_eq (tgt := 12) hC.1 hC.2.1 dX11_liar_6 (by decide) (fun hc4 => ?_) (fun hc4 => ?_)
  · have hf := o_t hc4 hf
    refine lv_iconst hC.1 hC.2.1 dX11_liar_12 ci_0 ?_
    refine lv_istore_n (lv' := [(1, .int 0), (0, .ref (mvA V 0))]) hC.1 hC.2.1 dX11_liar_13 rfl hl (Nat.le_of_ble_eq_true rfl) rfl (fun ls hl => ?_)
    exact hL14 _ _ _ _ _ hf hM (lv_sub hl [1, 0] rfl)
  · have hf := o_f hc4 hf
    refine lv_bipush hC.1 hC.2.1 dX11_liar_9 cb_m3 ?_
    exact hret (Option.some.inj hf) hM dX11_liar_11
set_option maxHeartbeats 4000000 in
set_option maxRecDepth 100000 in
theorem mcX11_seed (V : mV) (l : Launch) (M : mM) (p1 : Int32) (r : Int32) (M' : mM) (hf : fX11_seed M p1 = some (r, M')) : IC V l yX11_seed cX11_seed 3 ({ frames := 0, cells := 0, slots := 0, locals := 0 } : Room) [.ref (mvA V 0), .int p1] M r M' := by
  unfold fX11_seed at hf
  refine mw_enterI RX11 rfl (by decide +kernel) (Nat.le_of_ble_eq_true rfl) (fun {p e s m args below meth c} ls A Q hC hret hM hl => ?_)
  have hl : lv_has ls 3 [(0, .ref (mvA V 0)), (1, .int p1)] := hl
  refine lv_aload_n hC.1 hC.2.1 dX11_seed_0 rfl (lv_at hl 0 rfl) ?_
  refine mw_get (v := .ref (mvA V 1)) hC hM 0 (Nat.le_of_ble_eq_true rfl) (eC_0 V) inW11 rfl 0 (by decide) q_424 (fun _ h9 => h9) rfl dX11_seed_1 ?_
  refine mw_get (v := .int (M 1 10)) hC hM 1 (Nat.le_of_ble_eq_true rfl) (eC_1 V) inW4 rfl 10 (by decide) q_227 (fun _ h9 => h9) rfl dX11_seed_4 ?_
  refine lv_istore_n (lv' := [(2, .int (M 1 10)), (0, .ref (mvA V 0)), (1, .int p1)]) hC.1 hC.2.1 dX11_seed_7 rfl hl (Nat.le_of_ble_eq_true rfl) rfl (fun ls hl => ?_)
  refine lv_aload_n hC.1 hC.2.1 dX11_seed_8 rfl (lv_at hl 1 rfl) ?_
  refine mw_get (v := .ref (mvA V 1)) hC hM 0 (Nat.le_of_ble_eq_true rfl) (eC_0 V) inW11 rfl 0 (by decide) q_424 (fun _ h9 => h9) rfl dX11_seed_9 ?_
  refine lv_iload_n hC.1 hC.2.1 dX11_seed_12 rfl (lv_at hl 2 rfl) ?_
  refine mw_put hC hM 1 (Nat.le_of_ble_eq_true rfl) (eC_1 V) inW4 tyX4 tyX4_ok nmX4 rfl 10 (by decide) q_227 (fun _ h9 => h9) rfl rfl rfl (Nat.le_of_ble_eq_true rfl) rfl dX11_seed_13 (fun H locs hM => ?_)
  refine lv_iload_n hC.1 hC.2.1 dX11_seed_16 rfl (lv_at hl 0 rfl) ?_
  exact hret (o_r1 hf) (o_r2 hf hM) dX11_seed_17
set_option maxHeartbeats 4000000 in
set_option maxRecDepth 100000 in
theorem mcX4_draws_q1 (V : mV) (l : Launch) (M : mM) (r : Int32) (M' : mM) (hf : fX4_draws_q1 M = some (r, M')) : ZC V l yX4_draws cX4_draws 1 ({ frames := 0, cells := 0, slots := 0, locals := 0 } : Room) [.ref (mvA V 1)] M r M' := by
  unfold fX4_draws_q1 at hf
  refine mw_enterZ RX4 rfl (by decide +kernel) (Nat.le_of_ble_eq_true rfl) (fun {p e s m args below meth c} ls A Q hC hret hM hl => ?_)
  have hl : lv_has ls 1 [(0, .ref (mvA V 1))] := hl
  refine lv_aload_n hC.1 hC.2.1 dX4_draws_0 rfl (lv_at hl 0 rfl) ?_
  refine lv_aload_n hC.1 hC.2.1 dX4_draws_1 rfl (lv_at hl 0 rfl) ?_
  refine mw_get (v := .int (M 1 10)) hC hM 1 (Nat.le_of_ble_eq_true rfl) (eC_1 V) inW4 rfl 10 (by decide) q_226 (fun _ h9 => h9) rfl dX4_draws_2 ?_
  refine lv_ldc hC.1 hC.2.1 hC.2.2.2.1 (mw_w hC q_931) dX4_draws_5 ?_
  refine lv_imul hC.1 hC.2.1 dX4_draws_7 ?_
  refine lv_sipush hC.1 hC.2.1 dX4_draws_8 cs_12345 ?_
  refine lv_iadd hC.1 hC.2.1 dX4_draws_11 ?_
  refine mw_put hC hM 1 (Nat.le_of_ble_eq_true rfl) (eC_1 V) inW4 tyX4 tyX4_ok nmX4 rfl 10 (by decide) q_226 (fun _ h9 => h9) rfl rfl rfl (Nat.le_of_ble_eq_true rfl) rfl dX4_draws_12 (fun H locs hM => ?_)
  refine lv_aload_n hC.1 hC.2.1 dX4_draws_15 rfl (lv_at hl 0 rfl) ?_
  refine mw_get (v := .int ((wr M 1 10 (((M 1 10) * 1103515245) + 12345)) 1 10)) hC hM 1 (Nat.le_of_ble_eq_true rfl) (eC_1 V) inW4 rfl 10 (by decide) q_226 (fun _ h9 => h9) rfl dX4_draws_16 ?_
  refine lv_bipush hC.1 hC.2.1 dX4_draws_19 cb_16 ?_
  refine lv_iushr (v := (iushr ((wr M 1 10 (((M 1 10) * 1103515245) + 12345)) 1 10) 16)) hC.1 hC.2.1 dX4_draws_21 rfl ?_
  refine lv_iconst hC.1 hC.2.1 dX4_draws_22 ci_1 ?_
  refine lv_iand hC.1 hC.2.1 dX4_draws_23 ?_
  refine lv_iconst hC.1 hC.2.1 dX4_draws_24 ci_1 ?_
  refine lv_icmp_ne (tgt := 32) hC.1 hC.2.1 dX4_draws_25 (by decide) (fun hc1 => ?_) (fun hc1 => ?_)
  · have hf := o_f hc1 hf
    refine lv_iconst hC.1 hC.2.1 dX4_draws_32 ci_0 ?_
    exact hret (o_r1 hf) (Or.inl rfl) (o_r2 hf hM) dX4_draws_33
  · have hf := o_t hc1 hf
    refine lv_iconst hC.1 hC.2.1 dX4_draws_28 ci_1 ?_
    refine lv_goto (tgt := 33) hC.1 hC.2.1 dX4_draws_29 (by decide) ?_
    exact hret (o_r1 hf) (Or.inr rfl) (o_r2 hf hM) dX4_draws_33
set_option maxHeartbeats 4000000 in
set_option maxRecDepth 100000 in
theorem mcX11_turnByLot (V : mV) (l : Launch) (M : mM) (r : Int32) (M' : mM) (hf : fX11_turnByLot M = some (r, M')) : IC V l yX11_turnByLot cX11_turnByLot 3 ({ frames := 1, cells := 0, slots := 0, locals := 21 } : Room) [.ref (mvA V 0)] M r M' := by
  unfold fX11_turnByLot at hf
  refine mw_enterI RX11 rfl (by decide +kernel) (Nat.le_of_ble_eq_true rfl) (fun {p e s m args below meth c} ls A Q hC hret hM hl => ?_)
  have hl : lv_has ls 3 [(0, .ref (mvA V 0))] := hl
  have hL4 : ∀ (n : Nat) (M : mM) (x1 : Int32) (x2 : Int32) (H : Heap) (locs : List Loc) (ls : Array Slot), fX11_turnByLot_L4 n M x1 x2 = some (r, M') → PC V M A s H locs → lv_has ls 3 [(0, .ref (mvA V 0)), (1, .int x1), (2, .int x2)] → W p l e ({ frames := 1, cells := 0, slots := 0, locals := 21 } : Room) s m args below meth c H locs 0 0 Q (F0 m 4 ls []) := by
    intro n4
    induction n4 with
    | zero => intro M x1 x2 H locs ls hf; cases hf
    | succ n4 ih4 =>
      intro M x1 x2 H locs ls hf hM hl
      have hf : fX11_turnByLot_L4_b (fX11_turnByLot_L4 n4) M x1 x2 = some (r, M') := hf
      unfold fX11_turnByLot_L4_b at hf
      refine lv_iload_n hC.1 hC.2.1 dX11_turnByLot_4 rfl (lv_at hl 2 rfl) ?_
      refine lv_aload_n hC.1 hC.2.1 dX11_turnByLot_5 rfl (lv_at hl 0 rfl) ?_
      refine mw_get (v := .ref (mvA V 1)) hC hM 0 (Nat.le_of_ble_eq_true rfl) (eC_0 V) inW11 rfl 0 (by decide) q_424 (fun _ h9 => h9) rfl dX11_turnByLot_6 ?_
      refine mw_get (v := .int (M 1 0)) hC hM 1 (Nat.le_of_ble_eq_true rfl) (eC_1 V) inW4 rfl 0 (by decide) q_206 (fun _ h9 => h9) rfl dX11_turnByLot_9 ?_
      refine lv_icmp_ge (tgt := 48) hC.1 hC.2.1 dX11_turnByLot_12 (by decide) (fun hc9 => ?_) (fun hc9 => ?_)
      · have hf := o_t hc9 hf
        refine lv_iload_n hC.1 hC.2.1 dX11_turnByLot_48 rfl (lv_at hl 1 rfl) ?_
        refine lv_aload_n hC.1 hC.2.1 dX11_turnByLot_49 rfl (lv_at hl 0 rfl) ?_
        refine mw_get (v := .ref (mvA V 1)) hC hM 0 (Nat.le_of_ble_eq_true rfl) (eC_0 V) inW11 rfl 0 (by decide) q_424 (fun _ h9 => h9) rfl dX11_turnByLot_50 ?_
        refine mw_get (v := .int (M 1 8)) hC hM 1 (Nat.le_of_ble_eq_true rfl) (eC_1 V) inW4 rfl 8 (by decide) q_223 (fun _ h9 => h9) rfl dX11_turnByLot_53 ?_
        refine mw_cSi (As := [.int x1, .int (M 1 8)]) (rest := []) hC hM (mcX11_turnOf V l M x1 (M 1 8) _ rfl) (mw_kS hC q_740 q_741 q_107 q_742 ⟨rfl, rfl⟩ kS_X11_turnOf ⟨Nat.le_of_ble_eq_true rfl, Nat.le_of_ble_eq_true rfl⟩) rfl rfl (Nat.le_of_ble_eq_true rfl) hl.1 dX11_turnByLot_56 (fun H locs hM _ => ?_)
        exact hret (o_r1 hf) (o_r2 hf hM) dX11_turnByLot_59
      · have hf := o_f hc9 hf
        refine lv_aload_n hC.1 hC.2.1 dX11_turnByLot_15 rfl (lv_at hl 0 rfl) ?_
        refine lv_iload_n hC.1 hC.2.1 dX11_turnByLot_16 rfl (lv_at hl 2 rfl) ?_
        refine mw_cVi (As := [.int x2]) (rest := []) hC hM (mcX11_isAwake V l M x2 _ rfl) (mw_kV hC q_485 q_487 q_2 q_107 q_488 ⟨rfl, rfl⟩ kV_X11_isAwake ⟨Nat.le_of_ble_eq_true rfl, Nat.le_of_ble_eq_true rfl⟩) (Nat.le_of_ble_eq_true rfl) (eC_0 V) rfl rfl rfl (Nat.le_of_ble_eq_true rfl) hl.1 dX11_turnByLot_17 (fun H locs hM hb1 => ?_)
        refine lv_if_eq (tgt := 42) hC.1 hC.2.1 dX11_turnByLot_20 (by decide) (fun hc8 => ?_) (fun hc8 => ?_)
        · have hf := o_t hc8 hf
          refine lv_iinc (k := 2) (lv' := [(2, .int (x2 + 1)), (0, .ref (mvA V 0)), (1, .int x1)]) hC.1 hC.2.1 dX11_turnByLot_42 hl rfl (inc_1 _) (Nat.le_of_ble_eq_true rfl) rfl (fun ls hl => ?_)
          refine lv_goto (tgt := 4) hC.1 hC.2.1 dX11_turnByLot_45 (by decide) ?_
          exact ih4 _ _ _ _ _ _ hf hM (lv_sub hl [1, 2, 0] rfl)
        · have hf := o_f hc8 hf
          refine lv_aload_n hC.1 hC.2.1 dX11_turnByLot_23 rfl (lv_at hl 0 rfl) ?_
          refine mw_get (v := .ref (mvA V 1)) hC hM 0 (Nat.le_of_ble_eq_true rfl) (eC_0 V) inW11 rfl 0 (by decide) q_424 (fun _ h9 => h9) rfl dX11_turnByLot_24 ?_
          obtain ⟨r2, M4, hq3, hf⟩ := o_b2 hf
          refine mw_cVi (As := []) (rest := []) hC hM (mcX4_draws_q1 V l M r2 M4 hq3) (mw_kV hC q_927 q_928 q_929 q_109 q_930 ⟨rfl, rfl⟩ kV_X4_draws ⟨Nat.le_of_ble_eq_true rfl, Nat.le_of_ble_eq_true rfl⟩) (Nat.le_of_ble_eq_true rfl) (eC_1 V) rfl rfl rfl (Nat.le_of_ble_eq_true rfl) hl.1 dX11_turnByLot_27 (fun H locs hM hb5 => ?_)
          refine lv_if_eq (tgt := 42) hC.1 hC.2.1 dX11_turnByLot_30 (by decide) (fun hc7 => ?_) (fun hc7 => ?_)
          · have hf := o_t hc7 hf
            refine lv_iinc (k := 2) (lv' := [(2, .int (x2 + 1)), (0, .ref (mvA V 0)), (1, .int x1)]) hC.1 hC.2.1 dX11_turnByLot_42 hl rfl (inc_1 _) (Nat.le_of_ble_eq_true rfl) rfl (fun ls hl => ?_)
            refine lv_goto (tgt := 4) hC.1 hC.2.1 dX11_turnByLot_45 (by decide) ?_
            exact ih4 _ _ _ _ _ _ hf hM (lv_sub hl [1, 2, 0] rfl)
          · have hf := o_f hc7 hf
            refine lv_iload_n hC.1 hC.2.1 dX11_turnByLot_33 rfl (lv_at hl 1 rfl) ?_
            refine lv_aload_n hC.1 hC.2.1 dX11_turnByLot_34 rfl (lv_at hl 0 rfl) ?_
            refine mw_get (v := .ref (mvA V 64)) hC hM 0 (Nat.le_of_ble_eq_true rfl) (eC_0 V) inW11 rfl 8 (by decide) q_432 (fun _ h9 => h9) rfl dX11_turnByLot_35 ?_
            refine lv_iload_n hC.1 hC.2.1 dX11_turnByLot_38 rfl (lv_at hl 2 rfl) ?_
            obtain ⟨hg6, hf⟩ := o_g hf
            refine mw_iald hC hM 64 0 (Nat.le_of_ble_eq_true rfl) (eC_64 V) rfl hg6 dX11_turnByLot_39 ?_
            refine lv_iadd hC.1 hC.2.1 dX11_turnByLot_40 ?_
            refine lv_istore_n (lv' := [(1, .int (x1 + (M4 64 (Int32.toNatClampNeg x2)))), (0, .ref (mvA V 0)), (2, .int x2)]) hC.1 hC.2.1 dX11_turnByLot_41 rfl hl (Nat.le_of_ble_eq_true rfl) rfl (fun ls hl => ?_)
            refine lv_iinc (k := 2) (lv' := [(2, .int (x2 + 1)), (1, .int (x1 + (M4 64 (Int32.toNatClampNeg x2)))), (0, .ref (mvA V 0))]) hC.1 hC.2.1 dX11_turnByLot_42 hl rfl (inc_1 _) (Nat.le_of_ble_eq_true rfl) rfl (fun ls hl => ?_)
            refine lv_goto (tgt := 4) hC.1 hC.2.1 dX11_turnByLot_45 (by decide) ?_
            exact ih4 _ _ _ _ _ _ hf hM (lv_sub hl [2, 1, 0] rfl)
  refine lv_iconst hC.1 hC.2.1 dX11_turnByLot_0 ci_0 ?_
  refine lv_istore_n (lv' := [(1, .int 0), (0, .ref (mvA V 0))]) hC.1 hC.2.1 dX11_turnByLot_1 rfl hl (Nat.le_of_ble_eq_true rfl) rfl (fun ls hl => ?_)
  refine lv_iconst hC.1 hC.2.1 dX11_turnByLot_2 ci_0 ?_
  refine lv_istore_n (lv' := [(2, .int 0), (1, .int 0), (0, .ref (mvA V 0))]) hC.1 hC.2.1 dX11_turnByLot_3 rfl hl (Nat.le_of_ble_eq_true rfl) rfl (fun ls hl => ?_)
  exact hL4 _ _ _ _ _ _ _ hf hM (lv_sub hl [2, 1, 0] rfl)
set_option maxHeartbeats 4000000 in
set_option maxRecDepth 100000 in
theorem mcX11_lot (V : mV) (l : Launch) (M : mM) (r : Int32) (M' : mM) (hf : fX11_lot M = some (r, M')) : IC V l yX11_lot cX11_lot 1 ({ frames := 4, cells := 0, slots := 0, locals := 100 } : Room) [.ref (mvA V 0)] M r M' := by
  unfold fX11_lot at hf
  refine mw_enterI RX11 rfl (by decide +kernel) (Nat.le_of_ble_eq_true rfl) (fun {p e s m args below meth c} ls A Q hC hret hM hl => ?_)
  have hl : lv_has ls 1 [(0, .ref (mvA V 0))] := hl
  refine lv_aload_n hC.1 hC.2.1 dX11_lot_0 rfl (lv_at hl 0 rfl) ?_
  refine mw_get (v := .ref (mvA V 1)) hC hM 0 (Nat.le_of_ble_eq_true rfl) (eC_0 V) inW11 rfl 0 (by decide) q_424 (fun _ h9 => h9) rfl dX11_lot_1 ?_
  refine mw_get (v := .int (M 1 7)) hC hM 1 (Nat.le_of_ble_eq_true rfl) (eC_1 V) inW4 rfl 7 (by decide) q_221 (fun _ h9 => h9) rfl dX11_lot_4 ?_
  refine lv_sipush hC.1 hC.2.1 dX11_lot_7 cs_9999 ?_
  refine lv_icmp_lt (tgt := 16) hC.1 hC.2.1 dX11_lot_10 (by decide) (fun hc10 => ?_) (fun hc10 => ?_)
  · have hf := o_t hc10 hf
    refine lv_aload_n hC.1 hC.2.1 dX11_lot_16 rfl (lv_at hl 0 rfl) ?_
    obtain ⟨r1, M3, hq2, hf⟩ := o_b2 hf
    refine mw_cVv (As := []) (rest := []) hC hM (mcX11_findPulls V l M r1 M3 hq2) (mw_kV hC q_820 q_822 q_27 q_107 q_823 ⟨rfl, rfl⟩ kV_X11_findPulls ⟨Nat.le_of_ble_eq_true rfl, Nat.le_of_ble_eq_true rfl⟩) (Nat.le_of_ble_eq_true rfl) (eC_0 V) rfl rfl rfl (Nat.le_of_ble_eq_true rfl) hl.1 dX11_lot_17 (fun H locs hM => ?_)
    refine lv_aload_n hC.1 hC.2.1 dX11_lot_20 rfl (lv_at hl 0 rfl) ?_
    refine mw_get (v := .ref (mvA V 1)) hC hM 0 (Nat.le_of_ble_eq_true rfl) (eC_0 V) inW11 rfl 0 (by decide) q_424 (fun _ h9 => h9) rfl dX11_lot_21 ?_
    refine lv_aload_n hC.1 hC.2.1 dX11_lot_24 rfl (lv_at hl 0 rfl) ?_
    obtain ⟨r4, M6, hq5, hf⟩ := o_b2 hf
    refine mw_cVi (As := []) (rest := [.ref (mvA V 1)]) hC hM (mcX11_turnByLot V l M3 r4 M6 hq5) (mw_kV hC q_923 q_925 q_39 q_107 q_926 ⟨rfl, rfl⟩ kV_X11_turnByLot ⟨Nat.le_of_ble_eq_true rfl, Nat.le_of_ble_eq_true rfl⟩) (Nat.le_of_ble_eq_true rfl) (eC_0 V) rfl rfl rfl (Nat.le_of_ble_eq_true rfl) hl.1 dX11_lot_25 (fun H locs hM _ => ?_)
    obtain ⟨r7, M9, hq8, hf⟩ := o_b2 hf
    refine mw_cVi (As := [.int r4]) (rest := []) hC hM (mcX4_goOn_q1 V l M6 r4 r7 M9 hq8) (mw_kV hC q_743 q_744 q_745 q_109 q_746 ⟨rfl, rfl⟩ kV_X4_goOn ⟨Nat.le_of_ble_eq_true rfl, Nat.le_of_ble_eq_true rfl⟩) (Nat.le_of_ble_eq_true rfl) (eC_1 V) rfl rfl rfl (Nat.le_of_ble_eq_true rfl) hl.1 dX11_lot_28 (fun H locs hM _ => ?_)
    exact hret (o_r1 hf) (o_r2 hf hM) dX11_lot_31
  · have hf := o_f hc10 hf
    refine lv_bipush hC.1 hC.2.1 dX11_lot_13 cb_m4 ?_
    exact hret (o_r1 hf) (o_r2 hf hM) dX11_lot_15
set_option maxHeartbeats 4000000 in
set_option maxRecDepth 100000 in
theorem mcX11_often (V : mV) (l : Launch) (M : mM) (p1 : Int32) (p2 : Int32) (r : Int32) (M' : mM) (hf : fX11_often M p1 p2 = some (r, M')) : IC V l yX11_often cX11_often 6 ({ frames := 4, cells := 0, slots := 0, locals := 100 } : Room) [.ref (mvA V 0), .int p1, .int p2] M r M' := by
  unfold fX11_often at hf
  refine mw_enterI RX11 rfl (by decide +kernel) (Nat.le_of_ble_eq_true rfl) (fun {p e s m args below meth c} ls A Q hC hret hM hl => ?_)
  have hl : lv_has ls 6 [(0, .ref (mvA V 0)), (1, .int p1), (2, .int p2)] := hl
  have hL37 : ∀ (n : Nat) (M : mM) (x1 : Int32) (x2 : Int32) (x3 : Int32) (x4 : Int32) (x5 : Int32) (H : Heap) (locs : List Loc) (ls : Array Slot), fX11_often_L37 n M x1 x2 x3 x4 x5 = some (r, M') → PC V M A s H locs → lv_has ls 6 [(0, .ref (mvA V 0)), (1, .int x1), (2, .int x2), (3, .int x3), (4, .int x4), (5, .int x5)] → W p l e ({ frames := 4, cells := 0, slots := 0, locals := 100 } : Room) s m args below meth c H locs 0 0 Q (F0 m 37 ls []) := by
    intro n20
    induction n20 with
    | zero => intro M x1 x2 x3 x4 x5 H locs ls hf; cases hf
    | succ n20 ih20 =>
      intro M x1 x2 x3 x4 x5 H locs ls hf hM hl
      have hf : fX11_often_L37_b (fX11_often_L37 n20) M x1 x2 x3 x4 x5 = some (r, M') := hf
      unfold fX11_often_L37_b at hf
      refine lv_iload hC.1 hC.2.1 dX11_often_37 (lv_at hl 5 rfl) ?_
      refine lv_iload_n hC.1 hC.2.1 dX11_often_39 rfl (lv_at hl 1 rfl) ?_
      refine lv_icmp_ge (tgt := 70) hC.1 hC.2.1 dX11_often_40 (by decide) (fun hc14 => ?_) (fun hc14 => ?_)
      · have hf := o_t hc14 hf
        refine lv_aload_n hC.1 hC.2.1 dX11_often_70 rfl (lv_at hl 0 rfl) ?_
        refine mw_get (v := .ref (mvA V 1)) hC hM 0 (Nat.le_of_ble_eq_true rfl) (eC_0 V) inW11 rfl 0 (by decide) q_424 (fun _ h9 => h9) rfl dX11_often_71 ?_
        refine lv_iload_n hC.1 hC.2.1 dX11_often_74 rfl (lv_at hl 3 rfl) ?_
        refine mw_put hC hM 1 (Nat.le_of_ble_eq_true rfl) (eC_1 V) inW4 tyX4 tyX4_ok nmX4 rfl 10 (by decide) q_227 (fun _ h9 => h9) rfl rfl rfl (Nat.le_of_ble_eq_true rfl) rfl dX11_often_75 (fun H locs hM => ?_)
        refine lv_iload hC.1 hC.2.1 dX11_often_78 (lv_at hl 4 rfl) ?_
        exact hret (o_r1 hf) (o_r2 hf hM) dX11_often_80
      · have hf := o_f hc14 hf
        refine lv_aload_n hC.1 hC.2.1 dX11_often_43 rfl (lv_at hl 0 rfl) ?_
        refine mw_get (v := .ref (mvA V 1)) hC hM 0 (Nat.le_of_ble_eq_true rfl) (eC_0 V) inW11 rfl 0 (by decide) q_424 (fun _ h9 => h9) rfl dX11_often_44 ?_
        refine mw_get (v := .int (M 1 6)) hC hM 1 (Nat.le_of_ble_eq_true rfl) (eC_1 V) inW4 rfl 6 (by decide) q_219 (fun _ h9 => h9) rfl dX11_often_47 ?_
        refine lv_aload_n hC.1 hC.2.1 dX11_often_50 rfl (lv_at hl 0 rfl) ?_
        obtain ⟨r8, M10, hq9, hf⟩ := o_b2 hf
        refine mw_cVi (As := []) (rest := [.int (M 1 6)]) hC hM (mcX11_turnByLot V l M r8 M10 hq9) (mw_kV hC q_923 q_925 q_39 q_107 q_926 ⟨rfl, rfl⟩ kV_X11_turnByLot ⟨Nat.le_of_ble_eq_true rfl, Nat.le_of_ble_eq_true rfl⟩) (Nat.le_of_ble_eq_true rfl) (eC_0 V) rfl rfl rfl (Nat.le_of_ble_eq_true rfl) hl.1 dX11_often_51 (fun H locs hM _ => ?_)
        obtain ⟨r11, hq12, hf⟩ := o_b hf
        refine mw_cSi (As := [.int (M 1 6), .int r8]) (rest := []) hC hM (mcX11_moved V l M10 (M 1 6) r8 r11 hq12) (mw_kS hC q_762 q_748 q_107 q_749 ⟨rfl, rfl⟩ kS_X11_moved ⟨Nat.le_of_ble_eq_true rfl, Nat.le_of_ble_eq_true rfl⟩) rfl rfl (Nat.le_of_ble_eq_true rfl) hl.1 dX11_often_54 (fun H locs hM _ => ?_)
        refine lv_iload_n hC.1 hC.2.1 dX11_often_57 rfl (lv_at hl 2 rfl) ?_
        refine lv_icmp_ne (tgt := 64) hC.1 hC.2.1 dX11_often_58 (by decide) (fun hc13 => ?_) (fun hc13 => ?_)
        · have hf := o_f hc13 hf
          refine lv_iinc (k := 5) (lv' := [(5, .int (x5 + 1)), (0, .ref (mvA V 0)), (1, .int x1), (2, .int x2), (3, .int x3), (4, .int x4)]) hC.1 hC.2.1 dX11_often_64 hl rfl (inc_1 _) (Nat.le_of_ble_eq_true rfl) rfl (fun ls hl => ?_)
          refine lv_goto (tgt := 37) hC.1 hC.2.1 dX11_often_67 (by decide) ?_
          exact ih20 _ _ _ _ _ _ _ _ _ hf hM (lv_sub hl [1, 2, 3, 4, 5, 0] rfl)
        · have hf := o_t hc13 hf
          refine lv_iinc (k := 4) (lv' := [(4, .int (x4 + 1)), (0, .ref (mvA V 0)), (1, .int x1), (2, .int x2), (3, .int x3), (5, .int x5)]) hC.1 hC.2.1 dX11_often_61 hl rfl (inc_1 _) (Nat.le_of_ble_eq_true rfl) rfl (fun ls hl => ?_)
          refine lv_iinc (k := 5) (lv' := [(5, .int (x5 + 1)), (4, .int (x4 + 1)), (0, .ref (mvA V 0)), (1, .int x1), (2, .int x2), (3, .int x3)]) hC.1 hC.2.1 dX11_often_64 hl rfl (inc_1 _) (Nat.le_of_ble_eq_true rfl) rfl (fun ls hl => ?_)
          refine lv_goto (tgt := 37) hC.1 hC.2.1 dX11_often_67 (by decide) ?_
          exact ih20 _ _ _ _ _ _ _ _ _ hf hM (lv_sub hl [2, 3, 4, 5, 1, 0] rfl)
  refine lv_iload_n hC.1 hC.2.1 dX11_often_0 rfl (lv_at hl 1 rfl) ?_
  refine lv_iconst hC.1 hC.2.1 dX11_often_1 ci_1 ?_
  refine lv_bipush hC.1 hC.2.1 dX11_often_2 cb_60 ?_
  refine mw_cSi (As := [.int p1, .int 1, .int 60]) (rest := []) hC hM (mcX11_isIn V l M p1 1 60 _ rfl) (mw_kS hC q_468 q_469 q_107 q_470 ⟨rfl, rfl⟩ kS_X11_isIn ⟨Nat.le_of_ble_eq_true rfl, Nat.le_of_ble_eq_true rfl⟩) rfl rfl (Nat.le_of_ble_eq_true rfl) hl.1 dX11_often_4 (fun H locs hM hb1 => ?_)
  refine lv_if_eq (tgt := 17) hC.1 hC.2.1 dX11_often_7 (by decide) (fun hc7 => ?_) (fun hc7 => ?_)
  · have hf := o_t hc7 hf
    refine lv_iconst hC.1 hC.2.1 dX11_often_17 ci_m1 ?_
    exact hret (o_r1 hf) (o_r2 hf hM) dX11_often_18
  · have hf := o_f hc7 hf
    refine lv_iload_n hC.1 hC.2.1 dX11_often_10 rfl (lv_at hl 2 rfl) ?_
    refine mw_cSi (As := [.int p2]) (rest := []) hC hM (mcX11_isHour V l M p2 _ rfl) (mw_kS hC q_474 q_475 q_107 q_476 ⟨rfl, rfl⟩ kS_X11_isHour ⟨Nat.le_of_ble_eq_true rfl, Nat.le_of_ble_eq_true rfl⟩) rfl rfl (Nat.le_of_ble_eq_true rfl) hl.1 dX11_often_11 (fun H locs hM hb2 => ?_)
    refine lv_if_ne (tgt := 19) hC.1 hC.2.1 dX11_often_14 (by decide) (fun hc6 => ?_) (fun hc6 => ?_)
    · have hf := o_f hc6 hf
      refine lv_aload_n hC.1 hC.2.1 dX11_often_19 rfl (lv_at hl 0 rfl) ?_
      refine mw_get (v := .ref (mvA V 1)) hC hM 0 (Nat.le_of_ble_eq_true rfl) (eC_0 V) inW11 rfl 0 (by decide) q_424 (fun _ h9 => h9) rfl dX11_often_20 ?_
      refine mw_get (v := .int (M 1 10)) hC hM 1 (Nat.le_of_ble_eq_true rfl) (eC_1 V) inW4 rfl 10 (by decide) q_227 (fun _ h9 => h9) rfl dX11_often_23 ?_
      refine lv_istore_n (lv' := [(3, .int (M 1 10)), (0, .ref (mvA V 0)), (1, .int p1), (2, .int p2)]) hC.1 hC.2.1 dX11_often_26 rfl hl (Nat.le_of_ble_eq_true rfl) rfl (fun ls hl => ?_)
      refine lv_iconst hC.1 hC.2.1 dX11_often_27 ci_0 ?_
      refine lv_istore (lv' := [(4, .int 0), (3, .int (M 1 10)), (0, .ref (mvA V 0)), (1, .int p1), (2, .int p2)]) hC.1 hC.2.1 dX11_often_28 hl (Nat.le_of_ble_eq_true rfl) rfl (fun ls hl => ?_)
      refine lv_aload_n hC.1 hC.2.1 dX11_often_30 rfl (lv_at hl 2 rfl) ?_
      obtain ⟨r3, M5, hq4, hf⟩ := o_b2 hf
      refine mw_cVv (As := []) (rest := []) hC hM (mcX11_findPulls V l M r3 M5 hq4) (mw_kV hC q_820 q_822 q_27 q_107 q_823 ⟨rfl, rfl⟩ kV_X11_findPulls ⟨Nat.le_of_ble_eq_true rfl, Nat.le_of_ble_eq_true rfl⟩) (Nat.le_of_ble_eq_true rfl) (eC_0 V) rfl rfl rfl (Nat.le_of_ble_eq_true rfl) hl.1 dX11_often_31 (fun H locs hM => ?_)
      refine lv_iconst hC.1 hC.2.1 dX11_often_34 ci_0 ?_
      refine lv_istore (lv' := [(5, .int 0), (4, .int 0), (3, .int (M 1 10)), (0, .ref (mvA V 0)), (1, .int p1), (2, .int p2)]) hC.1 hC.2.1 dX11_often_35 hl (Nat.le_of_ble_eq_true rfl) rfl (fun ls hl => ?_)
      exact hL37 _ _ _ _ _ _ _ _ _ _ hf hM (lv_sub hl [3, 4, 5, 2, 1, 0] rfl)
    · have hf := o_t hc6 hf
      refine lv_iconst hC.1 hC.2.1 dX11_often_17 ci_m1 ?_
      exact hret (o_r1 hf) (o_r2 hf hM) dX11_often_18
set_option maxHeartbeats 4000000 in
set_option maxRecDepth 100000 in
theorem mcX11_prove (V : mV) (l : Launch) (M : mM) (p1 : Int32) (r : Int32) (M' : mM) (hf : fX11_prove M p1 = some (r, M')) : IC V l yX11_prove cX11_prove 7 ({ frames := 18, cells := 0, slots := 0, locals := 472 } : Room) [.ref (mvA V 0), .int p1] M r M' := by
  unfold fX11_prove at hf
  refine mw_enterI RX11 rfl (by decide +kernel) (Nat.le_of_ble_eq_true rfl) (fun {p e s m args below meth c} ls A Q hC hret hM hl => ?_)
  have hl : lv_has ls 7 [(0, .ref (mvA V 0)), (1, .int p1)] := hl
  have hL50 : ∀ (n : Nat) (M : mM) (x2 : Int32) (x3 : Int32) (x4 : Int32) (x5 : Int32) (H : Heap) (locs : List Loc) (ls : Array Slot), fX11_prove_L50 n M x2 x3 x4 x5 = some (r, M') → PC V M A s H locs → lv_has ls 7 [(0, .ref (mvA V 0)), (2, .int x2), (3, .int x3), (4, .int x4), (5, .int x5)] → W p l e ({ frames := 18, cells := 0, slots := 0, locals := 472 } : Room) s m args below meth c H locs 0 0 Q (F0 m 50 ls []) := by
    intro n27
    induction n27 with
    | zero => intro M x2 x3 x4 x5 H locs ls hf; cases hf
    | succ n27 ih27 =>
      intro M x2 x3 x4 x5 H locs ls hf hM hl
      have hf : fX11_prove_L50_b (fX11_prove_L50 n27) M x2 x3 x4 x5 = some (r, M') := hf
      unfold fX11_prove_L50_b at hf
      refine lv_iload hC.1 hC.2.1 dX11_prove_50 (lv_at hl 4 rfl) ?_
      refine lv_iload_n hC.1 hC.2.1 dX11_prove_52 rfl (lv_at hl 1 rfl) ?_
      refine lv_icmp_ge (tgt := 130) hC.1 hC.2.1 dX11_prove_53 (by decide) (fun hc18 => ?_) (fun hc18 => ?_)
      · have hf := o_t hc18 hf
        refine lv_aload_n hC.1 hC.2.1 dX11_prove_130 rfl (lv_at hl 0 rfl) ?_
        refine lv_iload_n hC.1 hC.2.1 dX11_prove_131 rfl (lv_at hl 1 rfl) ?_
        refine mw_put hC hM 0 (Nat.le_of_ble_eq_true rfl) (eC_0 V) inW11 tyX11 tyX11_ok nmX11 rfl 12 (by decide) q_436 (fun _ h9 => h9) rfl rfl rfl (Nat.le_of_ble_eq_true rfl) rfl dX11_prove_132 (fun H locs hM => ?_)
        refine lv_iload_n hC.1 hC.2.1 dX11_prove_135 rfl (lv_at hl 1 rfl) ?_
        exact hret (o_r1 hf) (o_r2 hf hM) dX11_prove_136
      · have hf := o_f hc18 hf
        refine lv_iload hC.1 hC.2.1 dX11_prove_56 (lv_at hl 3 rfl) ?_
        refine lv_aload_n hC.1 hC.2.1 dX11_prove_58 rfl (lv_at hl 0 rfl) ?_
        refine mw_get (v := .ref (mvA V 66)) hC hM 0 (Nat.le_of_ble_eq_true rfl) (eC_0 V) inW11 rfl 10 (by decide) q_434 (fun _ h9 => h9) rfl dX11_prove_59 ?_
        refine lv_iload hC.1 hC.2.1 dX11_prove_62 (lv_at hl 4 rfl) ?_
        obtain ⟨hg7, hf⟩ := o_g hf
        refine mw_iald hC hM 66 0 (Nat.le_of_ble_eq_true rfl) (eC_66 V) rfl hg7 dX11_prove_64 ?_
        refine mw_cSi (As := [.int x4, .int (M 66 (Int32.toNatClampNeg x5))]) (rest := []) hC hM (mcX11_acted V l M x4 (M 66 (Int32.toNatClampNeg x5)) _ rfl) (mw_kS hC q_840 q_841 q_107 q_842 ⟨rfl, rfl⟩ kS_X11_acted ⟨Nat.le_of_ble_eq_true rfl, Nat.le_of_ble_eq_true rfl⟩) rfl rfl (Nat.le_of_ble_eq_true rfl) hl.1 dX11_prove_65 (fun H locs hM _ => ?_)
        refine lv_istore (lv' := [(4, .int (fX11_acted x4 (M 66 (Int32.toNatClampNeg x5)))), (0, .ref (mvA V 0)), (2, .int x2), (3, .int x3), (5, .int x5)]) hC.1 hC.2.1 dX11_prove_68 hl (Nat.le_of_ble_eq_true rfl) rfl (fun ls hl => ?_)
        refine lv_iload hC.1 hC.2.1 dX11_prove_70 (lv_at hl 4 rfl) ?_
        refine lv_iconst hC.1 hC.2.1 dX11_prove_72 ci_3 ?_
        refine lv_imul hC.1 hC.2.1 dX11_prove_73 ?_
        refine lv_istore (lv' := [(6, .int (x5 * 3)), (4, .int (fX11_acted x4 (M 66 (Int32.toNatClampNeg x5)))), (0, .ref (mvA V 0)), (2, .int x2), (3, .int x3), (5, .int x5)]) hC.1 hC.2.1 dX11_prove_74 hl (Nat.le_of_ble_eq_true rfl) rfl (fun ls hl => ?_)
        refine lv_aload_n hC.1 hC.2.1 dX11_prove_76 rfl (lv_at hl 2 rfl) ?_
        refine mw_get (v := .ref (mvA V 67)) hC hM 0 (Nat.le_of_ble_eq_true rfl) (eC_0 V) inW11 rfl 11 (by decide) q_435 (fun _ h9 => h9) rfl dX11_prove_77 ?_
        refine lv_iload hC.1 hC.2.1 dX11_prove_80 (lv_at hl 0 rfl) ?_
        refine lv_aload_n hC.1 hC.2.1 dX11_prove_82 rfl (lv_at hl 2 rfl) ?_
        refine mw_get (v := .ref (mvA V 66)) hC hM 0 (Nat.le_of_ble_eq_true rfl) (eC_0 V) inW11 rfl 10 (by decide) q_434 (fun _ h9 => h9) rfl dX11_prove_83 ?_
        refine lv_iload hC.1 hC.2.1 dX11_prove_86 (lv_at hl 5 rfl) ?_
        obtain ⟨hg8, hf⟩ := o_g hf
        refine mw_iald hC hM 66 0 (Nat.le_of_ble_eq_true rfl) (eC_66 V) rfl hg8 dX11_prove_88 ?_
        obtain ⟨hg9, hf⟩ := o_g hf
        refine mw_iast hC hM 67 0 (Nat.le_of_ble_eq_true rfl) (eC_67 V) rfl hg9 dX11_prove_89 (fun H locs hM => ?_)
        refine lv_aload_n hC.1 hC.2.1 dX11_prove_90 rfl (lv_at hl 2 rfl) ?_
        refine mw_get (v := .ref (mvA V 67)) hC hM 0 (Nat.le_of_ble_eq_true rfl) (eC_0 V) inW11 rfl 11 (by decide) q_435 (fun _ h9 => h9) rfl dX11_prove_91 ?_
        refine lv_iload hC.1 hC.2.1 dX11_prove_94 (lv_at hl 0 rfl) ?_
        refine lv_iconst hC.1 hC.2.1 dX11_prove_96 ci_1 ?_
        refine lv_iadd hC.1 hC.2.1 dX11_prove_97 ?_
        refine lv_aload_n hC.1 hC.2.1 dX11_prove_98 rfl (lv_at hl 2 rfl) ?_
        refine lv_iload_n hC.1 hC.2.1 dX11_prove_99 rfl (lv_at hl 4 rfl) ?_
        refine lv_iload hC.1 hC.2.1 dX11_prove_100 (lv_at hl 1 rfl) ?_
        obtain ⟨r10, M12, hq11, hf⟩ := o_b2 hf
        refine mw_cVi (As := [.int x3, .int (fX11_acted x4 (M 66 (Int32.toNatClampNeg x5)))]) (rest := [.int ((x5 * 3) + 1), .ref (mvA V 67)]) hC hM (mcX11_sumAt V l (wr M 67 (Int32.toNatClampNeg (x5 * 3)) (M 66 (Int32.toNatClampNeg x5))) x3 (fX11_acted x4 (M 66 (Int32.toNatClampNeg x5))) r10 M12 hq11) (mw_kV hC q_728 q_730 q_17 q_107 q_731 ⟨rfl, rfl⟩ kV_X11_sumAt ⟨Nat.le_of_ble_eq_true rfl, Nat.le_of_ble_eq_true rfl⟩) (Nat.le_of_ble_eq_true rfl) (eC_0 V) rfl rfl rfl (Nat.le_of_ble_eq_true rfl) hl.1 dX11_prove_102 (fun H locs hM _ => ?_)
        obtain ⟨hg13, hf⟩ := o_g hf
        refine mw_iast hC hM 67 0 (Nat.le_of_ble_eq_true rfl) (eC_67 V) rfl hg13 dX11_prove_105 (fun H locs hM => ?_)
        refine lv_aload_n hC.1 hC.2.1 dX11_prove_106 rfl (lv_at hl 2 rfl) ?_
        refine lv_iload_n hC.1 hC.2.1 dX11_prove_107 rfl (lv_at hl 4 rfl) ?_
        refine lv_iload hC.1 hC.2.1 dX11_prove_108 (lv_at hl 1 rfl) ?_
        obtain ⟨r14, M16, hq15, hf⟩ := o_b2 hf
        refine mw_cVi (As := [.int x3, .int (fX11_acted x4 (M 66 (Int32.toNatClampNeg x5)))]) (rest := []) hC hM (mcX11_hourBehind V l (wr M12 67 (Int32.toNatClampNeg ((x5 * 3) + 1)) r10) x3 (fX11_acted x4 (M 66 (Int32.toNatClampNeg x5))) r14 M16 hq15) (mw_kV hC q_758 q_760 q_20 q_107 q_761 ⟨rfl, rfl⟩ kV_X11_hourBehind ⟨Nat.le_of_ble_eq_true rfl, Nat.le_of_ble_eq_true rfl⟩) (Nat.le_of_ble_eq_true rfl) (eC_0 V) rfl rfl rfl (Nat.le_of_ble_eq_true rfl) hl.1 dX11_prove_110 (fun H locs hM _ => ?_)
        refine lv_istore_n (lv' := [(3, .int r14), (6, .int (x5 * 3)), (4, .int (fX11_acted x4 (M 66 (Int32.toNatClampNeg x5)))), (0, .ref (mvA V 0)), (2, .int x2), (5, .int x5)]) hC.1 hC.2.1 dX11_prove_113 rfl hl (Nat.le_of_ble_eq_true rfl) rfl (fun ls hl => ?_)
        refine lv_aload_n hC.1 hC.2.1 dX11_prove_114 rfl (lv_at hl 3 rfl) ?_
        refine mw_get (v := .ref (mvA V 67)) hC hM 0 (Nat.le_of_ble_eq_true rfl) (eC_0 V) inW11 rfl 11 (by decide) q_435 (fun _ h9 => h9) rfl dX11_prove_115 ?_
        refine lv_iload hC.1 hC.2.1 dX11_prove_118 (lv_at hl 1 rfl) ?_
        refine lv_iconst hC.1 hC.2.1 dX11_prove_120 ci_2 ?_
        refine lv_iadd hC.1 hC.2.1 dX11_prove_121 ?_
        refine lv_iload_n hC.1 hC.2.1 dX11_prove_122 rfl (lv_at hl 0 rfl) ?_
        obtain ⟨hg17, hf⟩ := o_g hf
        refine mw_iast hC hM 67 0 (Nat.le_of_ble_eq_true rfl) (eC_67 V) rfl hg17 dX11_prove_123 (fun H locs hM => ?_)
        refine lv_iinc (k := 5) (lv' := [(5, .int (x5 + 1)), (3, .int r14), (6, .int (x5 * 3)), (4, .int (fX11_acted x4 (M 66 (Int32.toNatClampNeg x5)))), (0, .ref (mvA V 0)), (2, .int x2)]) hC.1 hC.2.1 dX11_prove_124 hl rfl (inc_1 _) (Nat.le_of_ble_eq_true rfl) rfl (fun ls hl => ?_)
        refine lv_goto (tgt := 50) hC.1 hC.2.1 dX11_prove_127 (by decide) ?_
        exact ih27 _ _ _ _ _ _ _ _ hf hM (lv_sub hl [4, 5, 1, 3, 0] rfl)
  refine lv_iload_n hC.1 hC.2.1 dX11_prove_0 rfl (lv_at hl 1 rfl) ?_
  refine mw_cSi (As := [.int p1]) (rest := []) hC hM (mcX11_isHour V l M p1 _ rfl) (mw_kS hC q_474 q_475 q_107 q_476 ⟨rfl, rfl⟩ kS_X11_isHour ⟨Nat.le_of_ble_eq_true rfl, Nat.le_of_ble_eq_true rfl⟩) rfl rfl (Nat.le_of_ble_eq_true rfl) hl.1 dX11_prove_1 (fun H locs hM hb1 => ?_)
  refine lv_if_ne (tgt := 9) hC.1 hC.2.1 dX11_prove_4 (by decide) (fun hc6 => ?_) (fun hc6 => ?_)
  · have hf := o_f hc6 hf
    refine lv_aload_n hC.1 hC.2.1 dX11_prove_9 rfl (lv_at hl 0 rfl) ?_
    refine lv_iload_n hC.1 hC.2.1 dX11_prove_10 rfl (lv_at hl 1 rfl) ?_
    refine lv_aload_n hC.1 hC.2.1 dX11_prove_11 rfl (lv_at hl 0 rfl) ?_
    refine mw_get (v := .ref (mvA V 1)) hC hM 0 (Nat.le_of_ble_eq_true rfl) (eC_0 V) inW11 rfl 0 (by decide) q_424 (fun _ h9 => h9) rfl dX11_prove_12 ?_
    refine mw_get (v := .int (M 1 8)) hC hM 1 (Nat.le_of_ble_eq_true rfl) (eC_1 V) inW4 rfl 8 (by decide) q_223 (fun _ h9 => h9) rfl dX11_prove_15 ?_
    refine lv_iconst hC.1 hC.2.1 dX11_prove_18 ci_4 ?_
    obtain ⟨r2, M4, hq3, hf⟩ := o_b2 hf
    refine mw_cVi (As := [.int p1, .int (M 1 8), .int 4]) (rest := []) hC hM (mcX11_firstPlan V l M p1 (M 1 8) 4 r2 M4 hq3) (mw_kV hC q_832 q_834 q_29 q_107 q_835 ⟨rfl, rfl⟩ kV_X11_firstPlan ⟨Nat.le_of_ble_eq_true rfl, Nat.le_of_ble_eq_true rfl⟩) (Nat.le_of_ble_eq_true rfl) (eC_0 V) rfl rfl rfl (Nat.le_of_ble_eq_true rfl) hl.1 dX11_prove_19 (fun H locs hM _ => ?_)
    refine lv_istore_n (lv' := [(2, .int r2), (0, .ref (mvA V 0)), (1, .int p1)]) hC.1 hC.2.1 dX11_prove_22 rfl hl (Nat.le_of_ble_eq_true rfl) rfl (fun ls hl => ?_)
    refine lv_iload_n hC.1 hC.2.1 dX11_prove_23 rfl (lv_at hl 0 rfl) ?_
    refine lv_if_ge (tgt := 30) hC.1 hC.2.1 dX11_prove_24 (by decide) (fun hc5 => ?_) (fun hc5 => ?_)
    · have hf := o_t hc5 hf
      refine lv_aload_n hC.1 hC.2.1 dX11_prove_30 rfl (lv_at hl 1 rfl) ?_
      refine mw_get (v := .ref (mvA V 1)) hC hM 0 (Nat.le_of_ble_eq_true rfl) (eC_0 V) inW11 rfl 0 (by decide) q_424 (fun _ h9 => h9) rfl dX11_prove_31 ?_
      refine mw_get (v := .int (M4 1 6)) hC hM 1 (Nat.le_of_ble_eq_true rfl) (eC_1 V) inW4 rfl 6 (by decide) q_219 (fun _ h9 => h9) rfl dX11_prove_34 ?_
      refine lv_istore_n (lv' := [(3, .int (M4 1 6)), (2, .int r2), (0, .ref (mvA V 0)), (1, .int p1)]) hC.1 hC.2.1 dX11_prove_37 rfl hl (Nat.le_of_ble_eq_true rfl) rfl (fun ls hl => ?_)
      refine lv_aload_n hC.1 hC.2.1 dX11_prove_38 rfl (lv_at hl 2 rfl) ?_
      refine mw_get (v := .ref (mvA V 1)) hC hM 0 (Nat.le_of_ble_eq_true rfl) (eC_0 V) inW11 rfl 0 (by decide) q_424 (fun _ h9 => h9) rfl dX11_prove_39 ?_
      refine mw_get (v := .int (M4 1 5)) hC hM 1 (Nat.le_of_ble_eq_true rfl) (eC_1 V) inW4 rfl 5 (by decide) q_216 (fun _ h9 => h9) rfl dX11_prove_42 ?_
      refine lv_istore (lv' := [(4, .int (M4 1 5)), (3, .int (M4 1 6)), (2, .int r2), (0, .ref (mvA V 0)), (1, .int p1)]) hC.1 hC.2.1 dX11_prove_45 hl (Nat.le_of_ble_eq_true rfl) rfl (fun ls hl => ?_)
      refine lv_iconst hC.1 hC.2.1 dX11_prove_47 ci_0 ?_
      refine lv_istore (lv' := [(5, .int 0), (4, .int (M4 1 5)), (3, .int (M4 1 6)), (2, .int r2), (0, .ref (mvA V 0)), (1, .int p1)]) hC.1 hC.2.1 dX11_prove_48 hl (Nat.le_of_ble_eq_true rfl) rfl (fun ls hl => ?_)
      exact hL50 _ _ _ _ _ _ _ _ _ hf hM (lv_sub hl [4, 3, 2, 1, 0] rfl)
    · have hf := o_f hc5 hf
      refine lv_bipush hC.1 hC.2.1 dX11_prove_27 cb_m3 ?_
      exact hret (o_r1 hf) (o_r2 hf hM) dX11_prove_29
  · have hf := o_t hc6 hf
    refine lv_iconst hC.1 hC.2.1 dX11_prove_7 ci_m1 ?_
    exact hret (o_r1 hf) (o_r2 hf hM) dX11_prove_8
set_option maxHeartbeats 4000000 in
set_option maxRecDepth 100000 in
theorem mcX11_isInRow (V : mV) (l : Launch) (M : mM) (p1 : Int32) (p2 : Int32) (r : Int32) (hf : fX11_isInRow M p1 p2 = r) : ZC V l yX11_isInRow cX11_isInRow 3 ({ frames := 1, cells := 0, slots := 0, locals := 22 } : Room) [.ref (mvA V 0), .int p1, .int p2] M r M := by
  unfold fX11_isInRow at hf
  refine mw_enterZ RX11 rfl (by decide +kernel) (Nat.le_of_ble_eq_true rfl) (fun {p e s m args below meth c} ls A Q hC hret hM hl => ?_)
  have hl : lv_has ls 3 [(0, .ref (mvA V 0)), (1, .int p1), (2, .int p2)] := hl
  refine lv_iload_n hC.1 hC.2.1 dX11_isInRow_0 rfl (lv_at hl 1 rfl) ?_
  refine lv_if_lt (tgt := 25) hC.1 hC.2.1 dX11_isInRow_1 (by decide) (fun hc4 => ?_) (fun hc4 => ?_)
  · have hf := o_t hc4 hf
    refine lv_iconst hC.1 hC.2.1 dX11_isInRow_25 ci_0 ?_
    exact hret hf (Or.inl rfl) hM dX11_isInRow_26
  · have hf := o_f hc4 hf
    refine lv_iload_n hC.1 hC.2.1 dX11_isInRow_4 rfl (lv_at hl 1 rfl) ?_
    refine lv_aload_n hC.1 hC.2.1 dX11_isInRow_5 rfl (lv_at hl 0 rfl) ?_
    refine mw_get (v := .int (M 0 12)) hC hM 0 (Nat.le_of_ble_eq_true rfl) (eC_0 V) inW11 rfl 12 (by decide) q_436 (fun _ h9 => h9) rfl dX11_isInRow_6 ?_
    refine lv_icmp_ge (tgt := 25) hC.1 hC.2.1 dX11_isInRow_9 (by decide) (fun hc3 => ?_) (fun hc3 => ?_)
    · have hf := o_t hc3 hf
      refine lv_iconst hC.1 hC.2.1 dX11_isInRow_25 ci_0 ?_
      exact hret hf (Or.inl rfl) hM dX11_isInRow_26
    · have hf := o_f hc3 hf
      refine lv_iload_n hC.1 hC.2.1 dX11_isInRow_12 rfl (lv_at hl 2 rfl) ?_
      refine lv_iconst hC.1 hC.2.1 dX11_isInRow_13 ci_0 ?_
      refine lv_iconst hC.1 hC.2.1 dX11_isInRow_14 ci_2 ?_
      refine mw_cSi (As := [.int p2, .int 0, .int 2]) (rest := []) hC hM (mcX11_isIn V l M p2 0 2 _ rfl) (mw_kS hC q_468 q_469 q_107 q_470 ⟨rfl, rfl⟩ kS_X11_isIn ⟨Nat.le_of_ble_eq_true rfl, Nat.le_of_ble_eq_true rfl⟩) rfl rfl (Nat.le_of_ble_eq_true rfl) hl.1 dX11_isInRow_15 (fun H locs hM hb1 => ?_)
      refine lv_if_eq (tgt := 25) hC.1 hC.2.1 dX11_isInRow_18 (by decide) (fun hc2 => ?_) (fun hc2 => ?_)
      · have hf := o_t hc2 hf
        refine lv_iconst hC.1 hC.2.1 dX11_isInRow_25 ci_0 ?_
        exact hret hf (Or.inl rfl) hM dX11_isInRow_26
      · have hf := o_f hc2 hf
        refine lv_iconst hC.1 hC.2.1 dX11_isInRow_21 ci_1 ?_
        refine lv_goto (tgt := 26) hC.1 hC.2.1 dX11_isInRow_22 (by decide) ?_
        exact hret hf (Or.inr rfl) hM dX11_isInRow_26
set_option maxHeartbeats 4000000 in
set_option maxRecDepth 100000 in
theorem mcX11_row (V : mV) (l : Launch) (M : mM) (p1 : Int32) (p2 : Int32) (r : Int32) (hf : fX11_row M p1 p2 = some r) : IC V l yX11_row cX11_row 3 ({ frames := 2, cells := 0, slots := 0, locals := 44 } : Room) [.ref (mvA V 0), .int p1, .int p2] M r M := by
  unfold fX11_row at hf
  refine mw_enterI RX11 rfl (by decide +kernel) (Nat.le_of_ble_eq_true rfl) (fun {p e s m args below meth c} ls A Q hC hret hM hl => ?_)
  have hl : lv_has ls 3 [(0, .ref (mvA V 0)), (1, .int p1), (2, .int p2)] := hl
  refine lv_aload_n hC.1 hC.2.1 dX11_row_0 rfl (lv_at hl 0 rfl) ?_
  refine lv_iload_n hC.1 hC.2.1 dX11_row_1 rfl (lv_at hl 1 rfl) ?_
  refine lv_iload_n hC.1 hC.2.1 dX11_row_2 rfl (lv_at hl 2 rfl) ?_
  refine mw_cVi (As := [.int p1, .int p2]) (rest := []) hC hM (mcX11_isInRow V l M p1 p2 _ rfl) (mw_kV hC q_944 q_946 q_40 q_107 q_947 ⟨rfl, rfl⟩ kV_X11_isInRow ⟨Nat.le_of_ble_eq_true rfl, Nat.le_of_ble_eq_true rfl⟩) (Nat.le_of_ble_eq_true rfl) (eC_0 V) rfl rfl rfl (Nat.le_of_ble_eq_true rfl) hl.1 dX11_row_3 (fun H locs hM hb1 => ?_)
  refine lv_if_eq (tgt := 22) hC.1 hC.2.1 dX11_row_6 (by decide) (fun hc3 => ?_) (fun hc3 => ?_)
  · have hf := o_t hc3 hf
    refine lv_bipush hC.1 hC.2.1 dX11_row_22 cb_m9 ?_
    exact hret (Option.some.inj hf) hM dX11_row_24
  · have hf := o_f hc3 hf
    refine lv_aload_n hC.1 hC.2.1 dX11_row_9 rfl (lv_at hl 0 rfl) ?_
    refine mw_get (v := .ref (mvA V 67)) hC hM 0 (Nat.le_of_ble_eq_true rfl) (eC_0 V) inW11 rfl 11 (by decide) q_435 (fun _ h9 => h9) rfl dX11_row_10 ?_
    refine lv_iload_n hC.1 hC.2.1 dX11_row_13 rfl (lv_at hl 1 rfl) ?_
    refine lv_iconst hC.1 hC.2.1 dX11_row_14 ci_3 ?_
    refine lv_imul hC.1 hC.2.1 dX11_row_15 ?_
    refine lv_iload_n hC.1 hC.2.1 dX11_row_16 rfl (lv_at hl 2 rfl) ?_
    refine lv_iadd hC.1 hC.2.1 dX11_row_17 ?_
    obtain ⟨hg2, hf⟩ := o_g hf
    refine mw_iald hC hM 67 0 (Nat.le_of_ble_eq_true rfl) (eC_67 V) rfl hg2 dX11_row_18 ?_
    refine lv_goto (tgt := 24) hC.1 hC.2.1 dX11_row_19 (by decide) ?_
    exact hret (Option.some.inj hf) hM dX11_row_24
set_option maxHeartbeats 4000000 in
set_option maxRecDepth 100000 in
theorem mcX11_alterRow (V : mV) (l : Launch) (M : mM) (p1 : Int32) (p2 : Int32) (p3 : Int32) (r : Int32) (M' : mM) (hf : fX11_alterRow M p1 p2 p3 = some (r, M')) : IC V l yX11_alterRow cX11_alterRow 6 ({ frames := 2, cells := 0, slots := 0, locals := 44 } : Room) [.ref (mvA V 0), .int p1, .int p2, .int p3] M r M' := by
  unfold fX11_alterRow at hf
  refine mw_enterI RX11 rfl (by decide +kernel) (Nat.le_of_ble_eq_true rfl) (fun {p e s m args below meth c} ls A Q hC hret hM hl => ?_)
  have hl : lv_has ls 6 [(0, .ref (mvA V 0)), (1, .int p1), (2, .int p2), (3, .int p3)] := hl
  have hL34 : ∀ (M : mM) (x3 : Int32) (x4 : Int32) (t0 : Int32) (H : Heap) (locs : List Loc) (ls : Array Slot), fX11_alterRow_L34 M x3 x4 t0 = some (r, M') → PC V M A s H locs → lv_has ls 6 [(0, .ref (mvA V 0)), (3, .int x3), (4, .int x4)] → W p l e ({ frames := 2, cells := 0, slots := 0, locals := 44 } : Room) s m args below meth c H locs 0 0 Q (F0 m 34 ls [.int t0]) := by
    intro M x3 x4 t0 H locs ls hf hM hl
    unfold fX11_alterRow_L34 at hf
    refine lv_istore (lv' := [(5, .int t0), (0, .ref (mvA V 0)), (3, .int x3), (4, .int x4)]) hC.1 hC.2.1 dX11_alterRow_34 hl (Nat.le_of_ble_eq_true rfl) rfl (fun ls hl => ?_)
    refine lv_aload_n hC.1 hC.2.1 dX11_alterRow_36 rfl (lv_at hl 1 rfl) ?_
    refine mw_get (v := .ref (mvA V 67)) hC hM 0 (Nat.le_of_ble_eq_true rfl) (eC_0 V) inW11 rfl 11 (by decide) q_435 (fun _ h9 => h9) rfl dX11_alterRow_37 ?_
    refine lv_iload hC.1 hC.2.1 dX11_alterRow_40 (lv_at hl 3 rfl) ?_
    refine lv_iload_n hC.1 hC.2.1 dX11_alterRow_42 rfl (lv_at hl 2 rfl) ?_
    obtain ⟨hg5, hf⟩ := o_g hf
    refine mw_iast hC hM 67 0 (Nat.le_of_ble_eq_true rfl) (eC_67 V) rfl hg5 dX11_alterRow_43 (fun H locs hM => ?_)
    refine lv_iload hC.1 hC.2.1 dX11_alterRow_44 (lv_at hl 0 rfl) ?_
    refine lv_if_eq (tgt := 53) hC.1 hC.2.1 dX11_alterRow_46 (by decide) (fun hc6 => ?_) (fun hc6 => ?_)
    · have hf := o_t hc6 hf
      refine lv_iconst hC.1 hC.2.1 dX11_alterRow_53 ci_2 ?_
      exact hret (o_r1 hf) (o_r2 hf hM) dX11_alterRow_54
    · have hf := o_f hc6 hf
      refine lv_iconst hC.1 hC.2.1 dX11_alterRow_49 ci_1 ?_
      refine lv_goto (tgt := 54) hC.1 hC.2.1 dX11_alterRow_50 (by decide) ?_
      exact hret (o_r1 hf) (o_r2 hf hM) dX11_alterRow_54
  refine lv_aload_n hC.1 hC.2.1 dX11_alterRow_0 rfl (lv_at hl 0 rfl) ?_
  refine lv_iload_n hC.1 hC.2.1 dX11_alterRow_1 rfl (lv_at hl 1 rfl) ?_
  refine lv_iload_n hC.1 hC.2.1 dX11_alterRow_2 rfl (lv_at hl 2 rfl) ?_
  refine mw_cVi (As := [.int p1, .int p2]) (rest := []) hC hM (mcX11_isInRow V l M p1 p2 _ rfl) (mw_kV hC q_944 q_946 q_40 q_107 q_947 ⟨rfl, rfl⟩ kV_X11_isInRow ⟨Nat.le_of_ble_eq_true rfl, Nat.le_of_ble_eq_true rfl⟩) (Nat.le_of_ble_eq_true rfl) (eC_0 V) rfl rfl rfl (Nat.le_of_ble_eq_true rfl) hl.1 dX11_alterRow_3 (fun H locs hM hb1 => ?_)
  refine lv_if_ne (tgt := 11) hC.1 hC.2.1 dX11_alterRow_6 (by decide) (fun hc4 => ?_) (fun hc4 => ?_)
  · have hf := o_f hc4 hf
    refine lv_iload_n hC.1 hC.2.1 dX11_alterRow_11 rfl (lv_at hl 1 rfl) ?_
    refine lv_iconst hC.1 hC.2.1 dX11_alterRow_12 ci_3 ?_
    refine lv_imul hC.1 hC.2.1 dX11_alterRow_13 ?_
    refine lv_iload_n hC.1 hC.2.1 dX11_alterRow_14 rfl (lv_at hl 2 rfl) ?_
    refine lv_iadd hC.1 hC.2.1 dX11_alterRow_15 ?_
    refine lv_istore (lv' := [(4, .int ((p1 * 3) + p2)), (0, .ref (mvA V 0)), (1, .int p1), (2, .int p2), (3, .int p3)]) hC.1 hC.2.1 dX11_alterRow_16 hl (Nat.le_of_ble_eq_true rfl) rfl (fun ls hl => ?_)
    refine lv_aload_n hC.1 hC.2.1 dX11_alterRow_18 rfl (lv_at hl 1 rfl) ?_
    refine mw_get (v := .ref (mvA V 67)) hC hM 0 (Nat.le_of_ble_eq_true rfl) (eC_0 V) inW11 rfl 11 (by decide) q_435 (fun _ h9 => h9) rfl dX11_alterRow_19 ?_
    refine lv_iload hC.1 hC.2.1 dX11_alterRow_22 (lv_at hl 0 rfl) ?_
    obtain ⟨hg2, hf⟩ := o_g hf
    refine mw_iald hC hM 67 0 (Nat.le_of_ble_eq_true rfl) (eC_67 V) rfl hg2 dX11_alterRow_24 ?_
    refine lv_iload_n hC.1 hC.2.1 dX11_alterRow_25 rfl (lv_at hl 4 rfl) ?_
    refine lv_icmp_ne (tgt := 33) hC.1 hC.2.1 dX11_alterRow_26 (by decide) (fun hc3 => ?_) (fun hc3 => ?_)
    · have hf := o_f hc3 hf
      refine lv_iconst hC.1 hC.2.1 dX11_alterRow_33 ci_0 ?_
      exact hL34 _ _ _ _ _ _ _ hf hM (lv_sub hl [1, 4, 0] rfl)
    · have hf := o_t hc3 hf
      refine lv_iconst hC.1 hC.2.1 dX11_alterRow_29 ci_1 ?_
      refine lv_goto (tgt := 34) hC.1 hC.2.1 dX11_alterRow_30 (by decide) ?_
      exact hL34 _ _ _ _ _ _ _ hf hM (lv_sub hl [1, 4, 0] rfl)
  · have hf := o_t hc4 hf
    refine lv_iconst hC.1 hC.2.1 dX11_alterRow_9 ci_0 ?_
    exact hret (o_r1 hf) (o_r2 hf hM) dX11_alterRow_10
set_option maxHeartbeats 4000000 in
set_option maxRecDepth 100000 in
theorem mcX11_isAct (V : mV) (l : Launch) (M : mM) (p1 : Int32) (r : Int32) (hf : fX11_isAct M p1 = r) : ZC V l yX11_isAct cX11_isAct 2 ({ frames := 1, cells := 0, slots := 0, locals := 22 } : Room) [.ref (mvA V 0), .int p1] M r M := by
  unfold fX11_isAct at hf
  refine mw_enterZ RX11 rfl (by decide +kernel) (Nat.le_of_ble_eq_true rfl) (fun {p e s m args below meth c} ls A Q hC hret hM hl => ?_)
  have hl : lv_has ls 2 [(0, .ref (mvA V 0)), (1, .int p1)] := hl
  refine lv_iload_n hC.1 hC.2.1 dX11_isAct_0 rfl (lv_at hl 1 rfl) ?_
  refine lv_iconst hC.1 hC.2.1 dX11_isAct_1 ci_0 ?_
  refine lv_aload_n hC.1 hC.2.1 dX11_isAct_2 rfl (lv_at hl 0 rfl) ?_
  refine mw_get (v := .ref (mvA V 1)) hC hM 0 (Nat.le_of_ble_eq_true rfl) (eC_0 V) inW11 rfl 0 (by decide) q_424 (fun _ h9 => h9) rfl dX11_isAct_3 ?_
  refine mw_get (v := .int (M 1 0)) hC hM 1 (Nat.le_of_ble_eq_true rfl) (eC_1 V) inW4 rfl 0 (by decide) q_206 (fun _ h9 => h9) rfl dX11_isAct_6 ?_
  refine mw_cSi (As := [.int p1, .int 0, .int (M 1 0)]) (rest := []) hC hM (mcX11_isIn V l M p1 0 (M 1 0) _ rfl) (mw_kS hC q_468 q_469 q_107 q_470 ⟨rfl, rfl⟩ kS_X11_isIn ⟨Nat.le_of_ble_eq_true rfl, Nat.le_of_ble_eq_true rfl⟩) rfl rfl (Nat.le_of_ble_eq_true rfl) hl.1 dX11_isAct_9 (fun H locs hM hb1 => ?_)
  exact hret hf hb1 hM dX11_isAct_12
set_option maxHeartbeats 4000000 in
set_option maxRecDepth 100000 in
theorem mcX11_judge (V : mV) (l : Launch) (M : mM) (p1 : Int32) (r : Int32) (M' : mM) (hf : fX11_judge M p1 = some (r, M')) : IC V l yX11_judge cX11_judge 8 ({ frames := 4, cells := 0, slots := 0, locals := 103 } : Room) [.ref (mvA V 0), .int p1] M r M' := by
  unfold fX11_judge at hf
  refine mw_enterI RX11 rfl (by decide +kernel) (Nat.le_of_ble_eq_true rfl) (fun {p e s m args below meth c} ls A Q hC hret hM hl => ?_)
  have hl : lv_has ls 8 [(0, .ref (mvA V 0)), (1, .int p1)] := hl
  have hL28 : ∀ (n : Nat) (M : mM) (x1 : Int32) (x2 : Int32) (x3 : Int32) (x4 : Int32) (H : Heap) (locs : List Loc) (ls : Array Slot), fX11_judge_L28 n M x1 x2 x3 x4 = some (r, M') → PC V M A s H locs → lv_has ls 8 [(0, .ref (mvA V 0)), (1, .int x1), (2, .int x2), (3, .int x3), (4, .int x4)] → W p l e ({ frames := 4, cells := 0, slots := 0, locals := 103 } : Room) s m args below meth c H locs 0 0 Q (F0 m 28 ls []) := by
    intro n15
    induction n15 with
    | zero => intro M x1 x2 x3 x4 H locs ls hf; cases hf
    | succ n15 ih15 =>
      intro M x1 x2 x3 x4 H locs ls hf hM hl
      have hf : fX11_judge_L28_b (fX11_judge_L28 n15) M x1 x2 x3 x4 = some (r, M') := hf
      unfold fX11_judge_L28_b at hf
      have hL115 : ∀ (M : mM) (x1 : Int32) (x2 : Int32) (x3 : Int32) (x4 : Int32) (x5 : Int32) (x6 : Int32) (t0 : Int32) (H : Heap) (locs : List Loc) (ls : Array Slot), fX11_judge_L115 (fX11_judge_L28 n15) M x1 x2 x3 x4 x5 x6 t0 = some (r, M') → PC V M A s H locs → lv_has ls 8 [(0, .ref (mvA V 0)), (1, .int x1), (2, .int x2), (3, .int x3), (4, .int x4), (5, .int x5), (6, .int x6)] → W p l e ({ frames := 4, cells := 0, slots := 0, locals := 103 } : Room) s m args below meth c H locs 0 0 Q (F0 m 115 ls [.int t0]) := by
        intro M x1 x2 x3 x4 x5 x6 t0 H locs ls hf hM hl
        unfold fX11_judge_L115 at hf
        refine lv_istore (lv' := [(7, .int t0), (0, .ref (mvA V 0)), (1, .int x1), (2, .int x2), (3, .int x3), (4, .int x4), (5, .int x5), (6, .int x6)]) hC.1 hC.2.1 dX11_judge_115 hl (Nat.le_of_ble_eq_true rfl) rfl (fun ls hl => ?_)
        refine lv_aload_n hC.1 hC.2.1 dX11_judge_117 rfl (lv_at hl 1 rfl) ?_
        refine mw_get (v := .ref (mvA V 67)) hC hM 0 (Nat.le_of_ble_eq_true rfl) (eC_0 V) inW11 rfl 11 (by decide) q_435 (fun _ h9 => h9) rfl dX11_judge_118 ?_
        refine lv_iload hC.1 hC.2.1 dX11_judge_121 (lv_at hl 6 rfl) ?_
        refine lv_iconst hC.1 hC.2.1 dX11_judge_123 ci_1 ?_
        refine lv_iadd hC.1 hC.2.1 dX11_judge_124 ?_
        obtain ⟨hg14, hf⟩ := o_g hf
        refine mw_iald hC hM 67 0 (Nat.le_of_ble_eq_true rfl) (eC_67 V) rfl hg14 dX11_judge_125 ?_
        refine lv_iload hC.1 hC.2.1 dX11_judge_126 (lv_at hl 7 rfl) ?_
        refine lv_icmp_ne (tgt := 154) hC.1 hC.2.1 dX11_judge_128 (by decide) (fun hc19 => ?_) (fun hc19 => ?_)
        · have hf := o_f hc19 hf
          refine lv_iload hC.1 hC.2.1 dX11_judge_154 (lv_at hl 5 rfl) ?_
          refine lv_iconst hC.1 hC.2.1 dX11_judge_156 ci_1 ?_
          refine lv_iadd hC.1 hC.2.1 dX11_judge_157 ?_
          exact hret (o_r1 hf) (o_r2 hf hM) dX11_judge_158
        · have hf := o_t hc19 hf
          refine lv_aload_n hC.1 hC.2.1 dX11_judge_131 rfl (lv_at hl 1 rfl) ?_
          refine mw_get (v := .ref (mvA V 67)) hC hM 0 (Nat.le_of_ble_eq_true rfl) (eC_0 V) inW11 rfl 11 (by decide) q_435 (fun _ h9 => h9) rfl dX11_judge_132 ?_
          refine lv_iload hC.1 hC.2.1 dX11_judge_135 (lv_at hl 6 rfl) ?_
          refine lv_iconst hC.1 hC.2.1 dX11_judge_137 ci_2 ?_
          refine lv_iadd hC.1 hC.2.1 dX11_judge_138 ?_
          obtain ⟨hg15, hf⟩ := o_g hf
          refine mw_iald hC hM 67 0 (Nat.le_of_ble_eq_true rfl) (eC_67 V) rfl hg15 dX11_judge_139 ?_
          refine lv_iload_n hC.1 hC.2.1 dX11_judge_140 rfl (lv_at hl 3 rfl) ?_
          refine lv_icmp_ne (tgt := 154) hC.1 hC.2.1 dX11_judge_141 (by decide) (fun hc18 => ?_) (fun hc18 => ?_)
          · have hf := o_f hc18 hf
            refine lv_iload hC.1 hC.2.1 dX11_judge_154 (lv_at hl 5 rfl) ?_
            refine lv_iconst hC.1 hC.2.1 dX11_judge_156 ci_1 ?_
            refine lv_iadd hC.1 hC.2.1 dX11_judge_157 ?_
            exact hret (o_r1 hf) (o_r2 hf hM) dX11_judge_158
          · have hf := o_t hc18 hf
            refine lv_iload hC.1 hC.2.1 dX11_judge_144 (lv_at hl 0 rfl) ?_
            refine lv_if_eq (tgt := 159) hC.1 hC.2.1 dX11_judge_146 (by decide) (fun hc17 => ?_) (fun hc17 => ?_)
            · have hf := o_t hc17 hf
              refine lv_iinc (k := 5) (lv' := [(4, .int (x4 + 1)), (7, .int t0), (0, .ref (mvA V 0)), (1, .int x1), (2, .int x2), (3, .int x3), (5, .int x5), (6, .int x6)]) hC.1 hC.2.1 dX11_judge_159 hl rfl (inc_1 _) (Nat.le_of_ble_eq_true rfl) rfl (fun ls hl => ?_)
              refine lv_goto (tgt := 28) hC.1 hC.2.1 dX11_judge_162 (by decide) ?_
              exact ih15 _ _ _ _ _ _ _ _ hf hM (lv_sub hl [2, 3, 4, 5, 0] rfl)
            · have hf := o_f hc17 hf
              refine lv_iload_n hC.1 hC.2.1 dX11_judge_149 rfl (lv_at hl 3 rfl) ?_
              refine lv_iload_n hC.1 hC.2.1 dX11_judge_150 rfl (lv_at hl 2 rfl) ?_
              refine lv_icmp_eq (tgt := 159) hC.1 hC.2.1 dX11_judge_151 (by decide) (fun hc16 => ?_) (fun hc16 => ?_)
              · have hf := o_t hc16 hf
                refine lv_iinc (k := 5) (lv' := [(4, .int (x4 + 1)), (7, .int t0), (0, .ref (mvA V 0)), (1, .int x1), (2, .int x2), (3, .int x3), (5, .int x5), (6, .int x6)]) hC.1 hC.2.1 dX11_judge_159 hl rfl (inc_1 _) (Nat.le_of_ble_eq_true rfl) rfl (fun ls hl => ?_)
                refine lv_goto (tgt := 28) hC.1 hC.2.1 dX11_judge_162 (by decide) ?_
                exact ih15 _ _ _ _ _ _ _ _ hf hM (lv_sub hl [2, 3, 4, 5, 0] rfl)
              · have hf := o_f hc16 hf
                refine lv_iload hC.1 hC.2.1 dX11_judge_154 (lv_at hl 5 rfl) ?_
                refine lv_iconst hC.1 hC.2.1 dX11_judge_156 ci_1 ?_
                refine lv_iadd hC.1 hC.2.1 dX11_judge_157 ?_
                exact hret (o_r1 hf) (o_r2 hf hM) dX11_judge_158
      refine lv_iload hC.1 hC.2.1 dX11_judge_28 (lv_at hl 4 rfl) ?_
      refine lv_aload_n hC.1 hC.2.1 dX11_judge_30 rfl (lv_at hl 0 rfl) ?_
      refine mw_get (v := .int (M 0 12)) hC hM 0 (Nat.le_of_ble_eq_true rfl) (eC_0 V) inW11 rfl 12 (by decide) q_436 (fun _ h9 => h9) rfl dX11_judge_31 ?_
      refine lv_icmp_ge (tgt := 165) hC.1 hC.2.1 dX11_judge_34 (by decide) (fun hc13 => ?_) (fun hc13 => ?_)
      · have hf := o_t hc13 hf
        refine lv_iconst hC.1 hC.2.1 dX11_judge_165 ci_0 ?_
        exact hret (o_r1 hf) (o_r2 hf hM) dX11_judge_166
      · have hf := o_f hc13 hf
        refine lv_iload hC.1 hC.2.1 dX11_judge_37 (lv_at hl 4 rfl) ?_
        refine lv_iconst hC.1 hC.2.1 dX11_judge_39 ci_3 ?_
        refine lv_imul hC.1 hC.2.1 dX11_judge_40 ?_
        refine lv_istore (lv' := [(5, .int (x4 * 3)), (0, .ref (mvA V 0)), (1, .int x1), (2, .int x2), (3, .int x3), (4, .int x4)]) hC.1 hC.2.1 dX11_judge_41 hl (Nat.le_of_ble_eq_true rfl) rfl (fun ls hl => ?_)
        refine lv_aload_n hC.1 hC.2.1 dX11_judge_43 rfl (lv_at hl 1 rfl) ?_
        refine lv_aload_n hC.1 hC.2.1 dX11_judge_44 rfl (lv_at hl 1 rfl) ?_
        refine mw_get (v := .ref (mvA V 67)) hC hM 0 (Nat.le_of_ble_eq_true rfl) (eC_0 V) inW11 rfl 11 (by decide) q_435 (fun _ h9 => h9) rfl dX11_judge_45 ?_
        refine lv_iload hC.1 hC.2.1 dX11_judge_48 (lv_at hl 0 rfl) ?_
        obtain ⟨hg3, hf⟩ := o_g hf
        refine mw_iald hC hM 67 0 (Nat.le_of_ble_eq_true rfl) (eC_67 V) rfl hg3 dX11_judge_50 ?_
        refine mw_cVi (As := [.int (M 67 (Int32.toNatClampNeg (x4 * 3)))]) (rest := []) hC hM (mcX11_isAct V l M (M 67 (Int32.toNatClampNeg (x4 * 3))) _ rfl) (mw_kV hC q_956 q_958 q_41 q_107 q_959 ⟨rfl, rfl⟩ kV_X11_isAct ⟨Nat.le_of_ble_eq_true rfl, Nat.le_of_ble_eq_true rfl⟩) (Nat.le_of_ble_eq_true rfl) (eC_0 V) rfl rfl rfl (Nat.le_of_ble_eq_true rfl) hl.1 dX11_judge_51 (fun H locs hM hb4 => ?_)
        refine lv_if_ne (tgt := 62) hC.1 hC.2.1 dX11_judge_54 (by decide) (fun hc12 => ?_) (fun hc12 => ?_)
        · have hf := o_f hc12 hf
          refine lv_iload_n hC.1 hC.2.1 dX11_judge_62 rfl (lv_at hl 4 rfl) ?_
          refine lv_aload_n hC.1 hC.2.1 dX11_judge_63 rfl (lv_at hl 1 rfl) ?_
          refine mw_get (v := .ref (mvA V 67)) hC hM 0 (Nat.le_of_ble_eq_true rfl) (eC_0 V) inW11 rfl 11 (by decide) q_435 (fun _ h9 => h9) rfl dX11_judge_64 ?_
          refine lv_iload hC.1 hC.2.1 dX11_judge_67 (lv_at hl 0 rfl) ?_
          obtain ⟨hg5, hf⟩ := o_g hf
          refine mw_iald hC hM 67 0 (Nat.le_of_ble_eq_true rfl) (eC_67 V) rfl hg5 dX11_judge_69 ?_
          refine mw_cSi (As := [.int x3, .int (M 67 (Int32.toNatClampNeg (x4 * 3)))]) (rest := []) hC hM (mcX11_acted V l M x3 (M 67 (Int32.toNatClampNeg (x4 * 3))) _ rfl) (mw_kS hC q_840 q_841 q_107 q_842 ⟨rfl, rfl⟩ kS_X11_acted ⟨Nat.le_of_ble_eq_true rfl, Nat.le_of_ble_eq_true rfl⟩) rfl rfl (Nat.le_of_ble_eq_true rfl) hl.1 dX11_judge_70 (fun H locs hM _ => ?_)
          refine lv_istore_n (lv' := [(3, .int (fX11_acted x3 (M 67 (Int32.toNatClampNeg (x4 * 3))))), (5, .int (x4 * 3)), (0, .ref (mvA V 0)), (1, .int x1), (2, .int x2), (4, .int x4)]) hC.1 hC.2.1 dX11_judge_73 rfl hl (Nat.le_of_ble_eq_true rfl) rfl (fun ls hl => ?_)
          refine lv_aload_n hC.1 hC.2.1 dX11_judge_74 rfl (lv_at hl 2 rfl) ?_
          refine lv_iload_n hC.1 hC.2.1 dX11_judge_75 rfl (lv_at hl 4 rfl) ?_
          refine lv_iload_n hC.1 hC.2.1 dX11_judge_76 rfl (lv_at hl 0 rfl) ?_
          obtain ⟨r6, M8, hq7, hf⟩ := o_b2 hf
          refine mw_cVi (As := [.int x2, .int (fX11_acted x3 (M 67 (Int32.toNatClampNeg (x4 * 3))))]) (rest := []) hC hM (mcX11_sumAt V l M x2 (fX11_acted x3 (M 67 (Int32.toNatClampNeg (x4 * 3)))) r6 M8 hq7) (mw_kV hC q_728 q_730 q_17 q_107 q_731 ⟨rfl, rfl⟩ kV_X11_sumAt ⟨Nat.le_of_ble_eq_true rfl, Nat.le_of_ble_eq_true rfl⟩) (Nat.le_of_ble_eq_true rfl) (eC_0 V) rfl rfl rfl (Nat.le_of_ble_eq_true rfl) hl.1 dX11_judge_77 (fun H locs hM _ => ?_)
          refine lv_istore (lv' := [(6, .int r6), (3, .int (fX11_acted x3 (M 67 (Int32.toNatClampNeg (x4 * 3))))), (5, .int (x4 * 3)), (0, .ref (mvA V 0)), (1, .int x1), (2, .int x2), (4, .int x4)]) hC.1 hC.2.1 dX11_judge_80 hl (Nat.le_of_ble_eq_true rfl) rfl (fun ls hl => ?_)
          refine lv_iload_n hC.1 hC.2.1 dX11_judge_82 rfl (lv_at hl 5 rfl) ?_
          refine lv_iload hC.1 hC.2.1 dX11_judge_83 (lv_at hl 0 rfl) ?_
          refine lv_aload_n hC.1 hC.2.1 dX11_judge_85 rfl (lv_at hl 3 rfl) ?_
          refine mw_get (v := .ref (mvA V 1)) hC hM 0 (Nat.le_of_ble_eq_true rfl) (eC_0 V) inW11 rfl 0 (by decide) q_424 (fun _ h9 => h9) rfl dX11_judge_86 ?_
          refine mw_get (v := .int (M8 1 8)) hC hM 1 (Nat.le_of_ble_eq_true rfl) (eC_1 V) inW4 rfl 8 (by decide) q_223 (fun _ h9 => h9) rfl dX11_judge_89 ?_
          refine mw_cSi (As := [.int r6, .int (M8 1 8)]) (rest := [.int x2]) hC hM (mcX11_turnOf V l M8 r6 (M8 1 8) _ rfl) (mw_kS hC q_740 q_741 q_107 q_742 ⟨rfl, rfl⟩ kS_X11_turnOf ⟨Nat.le_of_ble_eq_true rfl, Nat.le_of_ble_eq_true rfl⟩) rfl rfl (Nat.le_of_ble_eq_true rfl) hl.1 dX11_judge_92 (fun H locs hM _ => ?_)
          obtain ⟨r9, hq10, hf⟩ := o_b hf
          refine mw_cSi (As := [.int x2, .int (fX11_turnOf r6 (M8 1 8))]) (rest := []) hC hM (mcX11_moved V l M8 x2 (fX11_turnOf r6 (M8 1 8)) r9 hq10) (mw_kS hC q_762 q_748 q_107 q_749 ⟨rfl, rfl⟩ kS_X11_moved ⟨Nat.le_of_ble_eq_true rfl, Nat.le_of_ble_eq_true rfl⟩) rfl rfl (Nat.le_of_ble_eq_true rfl) hl.1 dX11_judge_95 (fun H locs hM _ => ?_)
          refine lv_istore_n (lv' := [(2, .int r9), (6, .int r6), (3, .int (fX11_acted x3 (M 67 (Int32.toNatClampNeg (x4 * 3))))), (5, .int (x4 * 3)), (0, .ref (mvA V 0)), (1, .int x1), (4, .int x4)]) hC.1 hC.2.1 dX11_judge_98 rfl hl (Nat.le_of_ble_eq_true rfl) rfl (fun ls hl => ?_)
          refine lv_iload hC.1 hC.2.1 dX11_judge_99 (lv_at hl 6 rfl) ?_
          refine lv_aload_n hC.1 hC.2.1 dX11_judge_101 rfl (lv_at hl 4 rfl) ?_
          refine mw_get (v := .int (M8 0 12)) hC hM 0 (Nat.le_of_ble_eq_true rfl) (eC_0 V) inW11 rfl 12 (by decide) q_436 (fun _ h9 => h9) rfl dX11_judge_102 ?_
          refine lv_iconst hC.1 hC.2.1 dX11_judge_105 ci_1 ?_
          refine lv_isub hC.1 hC.2.1 dX11_judge_106 ?_
          refine lv_icmp_ne (tgt := 114) hC.1 hC.2.1 dX11_judge_107 (by decide) (fun hc11 => ?_) (fun hc11 => ?_)
          · have hf := o_f hc11 hf
            refine lv_iconst hC.1 hC.2.1 dX11_judge_114 ci_0 ?_
            exact hL115 _ _ _ _ _ _ _ _ _ _ _ hf hM (lv_sub hl [4, 5, 0, 2, 6, 3, 1] rfl)
          · have hf := o_t hc11 hf
            refine lv_iconst hC.1 hC.2.1 dX11_judge_110 ci_1 ?_
            refine lv_goto (tgt := 115) hC.1 hC.2.1 dX11_judge_111 (by decide) ?_
            exact hL115 _ _ _ _ _ _ _ _ _ _ _ hf hM (lv_sub hl [4, 5, 0, 2, 6, 3, 1] rfl)
        · have hf := o_t hc12 hf
          refine lv_iload hC.1 hC.2.1 dX11_judge_57 (lv_at hl 5 rfl) ?_
          refine lv_iconst hC.1 hC.2.1 dX11_judge_59 ci_1 ?_
          refine lv_iadd hC.1 hC.2.1 dX11_judge_60 ?_
          exact hret (o_r1 hf) (o_r2 hf hM) dX11_judge_61
  refine lv_iload_n hC.1 hC.2.1 dX11_judge_0 rfl (lv_at hl 1 rfl) ?_
  refine mw_cSi (As := [.int p1]) (rest := []) hC hM (mcX11_isHour V l M p1 _ rfl) (mw_kS hC q_474 q_475 q_107 q_476 ⟨rfl, rfl⟩ kS_X11_isHour ⟨Nat.le_of_ble_eq_true rfl, Nat.le_of_ble_eq_true rfl⟩) rfl rfl (Nat.le_of_ble_eq_true rfl) hl.1 dX11_judge_1 (fun H locs hM hb1 => ?_)
  refine lv_if_ne (tgt := 9) hC.1 hC.2.1 dX11_judge_4 (by decide) (fun hc2 => ?_) (fun hc2 => ?_)
  · have hf := o_f hc2 hf
    refine lv_aload_n hC.1 hC.2.1 dX11_judge_9 rfl (lv_at hl 0 rfl) ?_
    refine mw_get (v := .ref (mvA V 1)) hC hM 0 (Nat.le_of_ble_eq_true rfl) (eC_0 V) inW11 rfl 0 (by decide) q_424 (fun _ h9 => h9) rfl dX11_judge_10 ?_
    refine mw_get (v := .int (M 1 6)) hC hM 1 (Nat.le_of_ble_eq_true rfl) (eC_1 V) inW4 rfl 6 (by decide) q_219 (fun _ h9 => h9) rfl dX11_judge_13 ?_
    refine lv_istore_n (lv' := [(2, .int (M 1 6)), (0, .ref (mvA V 0)), (1, .int p1)]) hC.1 hC.2.1 dX11_judge_16 rfl hl (Nat.le_of_ble_eq_true rfl) rfl (fun ls hl => ?_)
    refine lv_aload_n hC.1 hC.2.1 dX11_judge_17 rfl (lv_at hl 1 rfl) ?_
    refine mw_get (v := .ref (mvA V 1)) hC hM 0 (Nat.le_of_ble_eq_true rfl) (eC_0 V) inW11 rfl 0 (by decide) q_424 (fun _ h9 => h9) rfl dX11_judge_18 ?_
    refine mw_get (v := .int (M 1 5)) hC hM 1 (Nat.le_of_ble_eq_true rfl) (eC_1 V) inW4 rfl 5 (by decide) q_216 (fun _ h9 => h9) rfl dX11_judge_21 ?_
    refine lv_istore_n (lv' := [(3, .int (M 1 5)), (2, .int (M 1 6)), (0, .ref (mvA V 0)), (1, .int p1)]) hC.1 hC.2.1 dX11_judge_24 rfl hl (Nat.le_of_ble_eq_true rfl) rfl (fun ls hl => ?_)
    refine lv_iconst hC.1 hC.2.1 dX11_judge_25 ci_0 ?_
    refine lv_istore (lv' := [(4, .int 0), (3, .int (M 1 5)), (2, .int (M 1 6)), (0, .ref (mvA V 0)), (1, .int p1)]) hC.1 hC.2.1 dX11_judge_26 hl (Nat.le_of_ble_eq_true rfl) rfl (fun ls hl => ?_)
    exact hL28 _ _ _ _ _ _ _ _ _ hf hM (lv_sub hl [3, 4, 2, 1, 0] rfl)
  · have hf := o_t hc2 hf
    refine lv_iconst hC.1 hC.2.1 dX11_judge_7 ci_m1 ?_
    exact hret (o_r1 hf) (o_r2 hf hM) dX11_judge_8
