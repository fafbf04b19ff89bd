set_option maxHeartbeats 4000000 in
set_option maxRecDepth 100000 in
theorem mcX11_hourBehind (V : mV) (l : Launch) (M : mM) (p1 : Int32) (p2 : Int32) (r : Int32) (M' : mM) (hf : fX11_hourBehind M p1 p2 = some (r, M')) : IC V l yX11_hourBehind cX11_hourBehind 3 ({ frames := 4, cells := 0, slots := 0, locals := 103 } : Room) [.ref (mvA V 0), .int p1, .int p2] M r M' := by
  unfold fX11_hourBehind at hf
  refine mw_enterI RX11 rfl (by decide +kernel) (Nat.le_of_ble_eq_true rfl) (fun {p e s m args below meth c} ls A Q hC hret hM hl => ?_)
  have hl : lv_has ls 3 [(0, .ref (mvA V 0)), (1, .int p1), (2, .int p2)] := hl
  refine lv_iload_n hC.1 hC.2.1 dX11_hourBehind_0 rfl (lv_at hl 1 rfl) ?_
  refine lv_aload_n hC.1 hC.2.1 dX11_hourBehind_1 rfl (lv_at hl 0 rfl) ?_
  refine lv_iload_n hC.1 hC.2.1 dX11_hourBehind_2 rfl (lv_at hl 1 rfl) ?_
  refine lv_iload_n hC.1 hC.2.1 dX11_hourBehind_3 rfl (lv_at hl 2 rfl) ?_
  obtain ⟨r1, M3, hq2, hf⟩ := o_b2 hf
  refine mw_cVi (As := [.int p1, .int p2]) (rest := [.int p1]) hC hM (mcX11_sumAt V l M p1 p2 r1 M3 hq2) (mw_kV hC q_728 q_730 q_17 q_107 q_731 ⟨rfl, rfl⟩ kV_X11_sumAt ⟨Nat.le_of_ble_eq_true rfl, Nat.le_of_ble_eq_true rfl⟩) (Nat.le_of_ble_eq_true rfl) (eC_0 V) rfl rfl rfl (Nat.le_of_ble_eq_true rfl) hl.1 dX11_hourBehind_4 (fun H locs hM _ => ?_)
  refine lv_aload_n hC.1 hC.2.1 dX11_hourBehind_7 rfl (lv_at hl 0 rfl) ?_
  refine mw_get (v := .ref (mvA V 1)) hC hM 0 (Nat.le_of_ble_eq_true rfl) (eC_0 V) inW11 rfl 0 (by decide) q_424 (fun _ h9 => h9) rfl dX11_hourBehind_8 ?_
  refine mw_get (v := .int (M3 1 8)) hC hM 1 (Nat.le_of_ble_eq_true rfl) (eC_1 V) inW4 rfl 8 (by decide) q_223 (fun _ h9 => h9) rfl dX11_hourBehind_11 ?_
  refine mw_cSi (As := [.int r1, .int (M3 1 8)]) (rest := [.int p1]) hC hM (mcX11_turnOf V l M3 r1 (M3 1 8) _ rfl) (mw_kS hC q_740 q_741 q_107 q_742 ⟨rfl, rfl⟩ kS_X11_turnOf ⟨Nat.le_of_ble_eq_true rfl, Nat.le_of_ble_eq_true rfl⟩) rfl rfl (Nat.le_of_ble_eq_true rfl) hl.1 dX11_hourBehind_14 (fun H locs hM _ => ?_)
  obtain ⟨r4, hq5, hf⟩ := o_b hf
  refine mw_cSi (As := [.int p1, .int (fX11_turnOf r1 (M3 1 8))]) (rest := []) hC hM (mcX11_moved V l M3 p1 (fX11_turnOf r1 (M3 1 8)) r4 hq5) (mw_kS hC q_762 q_748 q_107 q_749 ⟨rfl, rfl⟩ kS_X11_moved ⟨Nat.le_of_ble_eq_true rfl, Nat.le_of_ble_eq_true rfl⟩) rfl rfl (Nat.le_of_ble_eq_true rfl) hl.1 dX11_hourBehind_17 (fun H locs hM _ => ?_)
  exact hret (o_r1 hf) (o_r2 hf hM) dX11_hourBehind_20
set_option maxHeartbeats 4000000 in
set_option maxRecDepth 100000 in
theorem mcX11_hourAfter (V : mV) (l : Launch) (M : mM) (p1 : Int32) (p2 : Int32) (r : Int32) (M' : mM) (hf : fX11_hourAfter M p1 p2 = some (r, M')) : IC V l yX11_hourAfter cX11_hourAfter 5 ({ frames := 5, cells := 0, slots := 0, locals := 125 } : Room) [.ref (mvA V 0), .int p1, .int p2] M r M' := by
  unfold fX11_hourAfter at hf
  refine mw_enterI RX11 rfl (by decide +kernel) (Nat.le_of_ble_eq_true rfl) (fun {p e s m args below meth c} ls A Q hC hret hM hl => ?_)
  have hl : lv_has ls 5 [(0, .ref (mvA V 0)), (1, .int p1), (2, .int p2)] := hl
  have hL5 : ∀ (n : Nat) (M : mM) (x2 : Int32) (x3 : Int32) (x4 : Int32) (H : Heap) (locs : List Loc) (ls : Array Slot), fX11_hourAfter_L5 n M x2 x3 x4 = some (r, M') → PC V M A s H locs → lv_has ls 5 [(0, .ref (mvA V 0)), (2, .int x2), (3, .int x3), (4, .int x4)] → W p l e ({ frames := 5, cells := 0, slots := 0, locals := 125 } : Room) s m args below meth c H locs 0 0 Q (F0 m 5 ls []) := by
    intro n4
    induction n4 with
    | zero => intro M x2 x3 x4 H locs ls hf; cases hf
    | succ n4 ih4 =>
      intro M x2 x3 x4 H locs ls hf hM hl
      have hf : fX11_hourAfter_L5_b (fX11_hourAfter_L5 n4) M x2 x3 x4 = some (r, M') := hf
      unfold fX11_hourAfter_L5_b at hf
      refine lv_iload hC.1 hC.2.1 dX11_hourAfter_5 (lv_at hl 3 rfl) ?_
      refine lv_iload_n hC.1 hC.2.1 dX11_hourAfter_7 rfl (lv_at hl 1 rfl) ?_
      refine lv_icmp_ge (tgt := 30) hC.1 hC.2.1 dX11_hourAfter_8 (by decide) (fun hc4 => ?_) (fun hc4 => ?_)
      · have hf := o_t hc4 hf
        refine lv_iload_n hC.1 hC.2.1 dX11_hourAfter_30 rfl (lv_at hl 2 rfl) ?_
        exact hret (o_r1 hf) (o_r2 hf hM) dX11_hourAfter_31
      · have hf := o_f hc4 hf
        refine lv_aload_n hC.1 hC.2.1 dX11_hourAfter_11 rfl (lv_at hl 0 rfl) ?_
        refine lv_iload_n hC.1 hC.2.1 dX11_hourAfter_12 rfl (lv_at hl 2 rfl) ?_
        refine lv_aload_n hC.1 hC.2.1 dX11_hourAfter_13 rfl (lv_at hl 0 rfl) ?_
        refine mw_get (v := .ref (mvA V 1)) hC hM 0 (Nat.le_of_ble_eq_true rfl) (eC_0 V) inW11 rfl 0 (by decide) q_424 (fun _ h9 => h9) rfl dX11_hourAfter_14 ?_
        refine mw_get (v := .int (M 1 5)) hC hM 1 (Nat.le_of_ble_eq_true rfl) (eC_1 V) inW4 rfl 5 (by decide) q_216 (fun _ h9 => h9) rfl dX11_hourAfter_17 ?_
        obtain ⟨r1, M3, hq2, hf⟩ := o_b2 hf
        refine mw_cVi (As := [.int x3, .int (M 1 5)]) (rest := []) hC hM (mcX11_hourBehind V l M x3 (M 1 5) r1 M3 hq2) (mw_kV hC q_758 q_760 q_20 q_107 q_761 ⟨rfl, rfl⟩ kV_X11_hourBehind ⟨Nat.le_of_ble_eq_true rfl, Nat.le_of_ble_eq_true rfl⟩) (Nat.le_of_ble_eq_true rfl) (eC_0 V) rfl rfl rfl (Nat.le_of_ble_eq_true rfl) hl.1 dX11_hourAfter_20 (fun H locs hM _ => ?_)
        refine lv_istore_n (lv' := [(3, .int r1), (0, .ref (mvA V 0)), (2, .int x2), (4, .int x4)]) hC.1 hC.2.1 dX11_hourAfter_23 rfl hl (Nat.le_of_ble_eq_true rfl) rfl (fun ls hl => ?_)
        refine lv_iinc (k := 3) (lv' := [(4, .int (x4 + 1)), (3, .int r1), (0, .ref (mvA V 0)), (2, .int x2)]) hC.1 hC.2.1 dX11_hourAfter_24 hl rfl (inc_1 _) (Nat.le_of_ble_eq_true rfl) rfl (fun ls hl => ?_)
        refine lv_goto (tgt := 5) hC.1 hC.2.1 dX11_hourAfter_27 (by decide) ?_
        exact ih4 _ _ _ _ _ _ _ hf hM (lv_sub hl [2, 3, 1, 0] rfl)
  refine lv_iload_n hC.1 hC.2.1 dX11_hourAfter_0 rfl (lv_at hl 1 rfl) ?_
  refine lv_istore_n (lv' := [(3, .int p1), (0, .ref (mvA V 0)), (1, .int p1), (2, .int p2)]) hC.1 hC.2.1 dX11_hourAfter_1 rfl hl (Nat.le_of_ble_eq_true rfl) rfl (fun ls hl => ?_)
  refine lv_iconst hC.1 hC.2.1 dX11_hourAfter_2 ci_0 ?_
  refine lv_istore (lv' := [(4, .int 0), (3, .int p1), (0, .ref (mvA V 0)), (1, .int p1), (2, .int p2)]) hC.1 hC.2.1 dX11_hourAfter_3 hl (Nat.le_of_ble_eq_true rfl) rfl (fun ls hl => ?_)
  exact hL5 _ _ _ _ _ _ _ _ hf hM (lv_sub hl [2, 4, 1, 0] rfl)
set_option maxHeartbeats 4000000 in
set_option maxRecDepth 100000 in
theorem mcX11_on (V : mV) (l : Launch) (M : mM) (p1 : Int32) (r : Int32) (M' : mM) (hf : fX11_on M p1 = some (r, M')) : IC V l yX11_on cX11_on 2 ({ frames := 6, cells := 0, slots := 0, locals := 149 } : Room) [.ref (mvA V 0), .int p1] M r M' := by
  unfold fX11_on at hf
  refine mw_enterI RX11 rfl (by decide +kernel) (Nat.le_of_ble_eq_true rfl) (fun {p e s m args below meth c} ls A Q hC hret hM hl => ?_)
  have hl : lv_has ls 2 [(0, .ref (mvA V 0)), (1, .int p1)] := hl
  refine lv_iload_n hC.1 hC.2.1 dX11_on_0 rfl (lv_at hl 1 rfl) ?_
  refine lv_iconst hC.1 hC.2.1 dX11_on_1 ci_0 ?_
  refine lv_bipush hC.1 hC.2.1 dX11_on_2 cb_60 ?_
  refine mw_cSi (As := [.int p1, .int 0, .int 60]) (rest := []) hC hM (mcX11_isIn V l M p1 0 60 _ rfl) (mw_kS hC q_468 q_469 q_107 q_470 ⟨rfl, rfl⟩ kS_X11_isIn ⟨Nat.le_of_ble_eq_true rfl, Nat.le_of_ble_eq_true rfl⟩) rfl rfl (Nat.le_of_ble_eq_true rfl) hl.1 dX11_on_4 (fun H locs hM hb1 => ?_)
  refine lv_if_ne (tgt := 12) hC.1 hC.2.1 dX11_on_7 (by decide) (fun hc5 => ?_) (fun hc5 => ?_)
  · have hf := o_f hc5 hf
    refine lv_aload_n hC.1 hC.2.1 dX11_on_12 rfl (lv_at hl 0 rfl) ?_
    refine lv_aload_n hC.1 hC.2.1 dX11_on_13 rfl (lv_at hl 0 rfl) ?_
    refine mw_get (v := .ref (mvA V 1)) hC hM 0 (Nat.le_of_ble_eq_true rfl) (eC_0 V) inW11 rfl 0 (by decide) q_424 (fun _ h9 => h9) rfl dX11_on_14 ?_
    refine mw_get (v := .int (M 1 6)) hC hM 1 (Nat.le_of_ble_eq_true rfl) (eC_1 V) inW4 rfl 6 (by decide) q_219 (fun _ h9 => h9) rfl dX11_on_17 ?_
    refine lv_iload_n hC.1 hC.2.1 dX11_on_20 rfl (lv_at hl 1 rfl) ?_
    obtain ⟨r2, M4, hq3, hf⟩ := o_b2 hf
    refine mw_cVi (As := [.int (M 1 6), .int p1]) (rest := []) hC hM (mcX11_hourAfter V l M (M 1 6) p1 r2 M4 hq3) (mw_kV hC q_754 q_756 q_19 q_107 q_757 ⟨rfl, rfl⟩ kV_X11_hourAfter ⟨Nat.le_of_ble_eq_true rfl, Nat.le_of_ble_eq_true rfl⟩) (Nat.le_of_ble_eq_true rfl) (eC_0 V) rfl rfl rfl (Nat.le_of_ble_eq_true rfl) hl.1 dX11_on_21 (fun H locs hM _ => ?_)
    exact hret (o_r1 hf) (o_r2 hf hM) dX11_on_24
  · have hf := o_t hc5 hf
    refine lv_iconst hC.1 hC.2.1 dX11_on_10 ci_m1 ?_
    exact hret (o_r1 hf) (o_r2 hf hM) dX11_on_11
set_option maxHeartbeats 4000000 in
set_option maxRecDepth 100000 in
theorem mcX11_when (V : mV) (l : Launch) (M : mM) (p1 : Int32) (r : Int32) (M' : mM) (hf : fX11_when M p1 = some (r, M')) : IC V l yX11_when cX11_when 4 ({ frames := 6, cells := 0, slots := 0, locals := 149 } : Room) [.ref (mvA V 0), .int p1] M r M' := by
  unfold fX11_when at hf
  refine mw_enterI RX11 rfl (by decide +kernel) (Nat.le_of_ble_eq_true rfl) (fun {p e s m args below meth c} ls A Q hC hret hM hl => ?_)
  have hl : lv_has ls 4 [(0, .ref (mvA V 0)), (1, .int p1)] := hl
  have hL19 : ∀ (n : Nat) (M : mM) (x1 : Int32) (x2 : Int32) (x3 : Int32) (H : Heap) (locs : List Loc) (ls : Array Slot), fX11_when_L19 n M x1 x2 x3 = some (r, M') → PC V M A s H locs → lv_has ls 4 [(0, .ref (mvA V 0)), (1, .int x1), (2, .int x2), (3, .int x3)] → W p l e ({ frames := 6, cells := 0, slots := 0, locals := 149 } : Room) s m args below meth c H locs 0 0 Q (F0 m 19 ls []) := by
    intro n11
    induction n11 with
    | zero => intro M x1 x2 x3 H locs ls hf; cases hf
    | succ n11 ih11 =>
      intro M x1 x2 x3 H locs ls hf hM hl
      have hf : fX11_when_L19_b (fX11_when_L19 n11) M x1 x2 x3 = some (r, M') := hf
      unfold fX11_when_L19_b at hf
      refine lv_iload_n hC.1 hC.2.1 dX11_when_19 rfl (lv_at hl 3 rfl) ?_
      refine lv_bipush hC.1 hC.2.1 dX11_when_20 cb_60 ?_
      refine lv_icmp_gt (tgt := 45) hC.1 hC.2.1 dX11_when_22 (by decide) (fun hc7 => ?_) (fun hc7 => ?_)
      · have hf := o_t hc7 hf
        refine lv_bipush hC.1 hC.2.1 dX11_when_45 cb_m3 ?_
        exact hret (o_r1 hf) (o_r2 hf hM) dX11_when_47
      · have hf := o_f hc7 hf
        refine lv_iload_n hC.1 hC.2.1 dX11_when_25 rfl (lv_at hl 2 rfl) ?_
        refine lv_iload_n hC.1 hC.2.1 dX11_when_26 rfl (lv_at hl 1 rfl) ?_
        refine lv_icmp_ne (tgt := 32) hC.1 hC.2.1 dX11_when_27 (by decide) (fun hc6 => ?_) (fun hc6 => ?_)
        · have hf := o_f hc6 hf
          refine lv_aload_n hC.1 hC.2.1 dX11_when_32 rfl (lv_at hl 0 rfl) ?_
          refine lv_iload_n hC.1 hC.2.1 dX11_when_33 rfl (lv_at hl 2 rfl) ?_
          refine lv_iconst hC.1 hC.2.1 dX11_when_34 ci_1 ?_
          obtain ⟨r3, M5, hq4, hf⟩ := o_b2 hf
          refine mw_cVi (As := [.int x2, .int 1]) (rest := []) hC hM (mcX11_hourAfter V l M x2 1 r3 M5 hq4) (mw_kV hC q_754 q_756 q_19 q_107 q_757 ⟨rfl, rfl⟩ kV_X11_hourAfter ⟨Nat.le_of_ble_eq_true rfl, Nat.le_of_ble_eq_true rfl⟩) (Nat.le_of_ble_eq_true rfl) (eC_0 V) rfl rfl rfl (Nat.le_of_ble_eq_true rfl) hl.1 dX11_when_35 (fun H locs hM _ => ?_)
          refine lv_istore_n (lv' := [(2, .int r3), (0, .ref (mvA V 0)), (1, .int x1), (3, .int x3)]) hC.1 hC.2.1 dX11_when_38 rfl hl (Nat.le_of_ble_eq_true rfl) rfl (fun ls hl => ?_)
          refine lv_iinc (k := 3) (lv' := [(3, .int (x3 + 1)), (2, .int r3), (0, .ref (mvA V 0)), (1, .int x1)]) hC.1 hC.2.1 dX11_when_39 hl rfl (inc_1 _) (Nat.le_of_ble_eq_true rfl) rfl (fun ls hl => ?_)
          refine lv_goto (tgt := 19) hC.1 hC.2.1 dX11_when_42 (by decide) ?_
          exact ih11 _ _ _ _ _ _ _ hf hM (lv_sub hl [2, 3, 1, 0] rfl)
        · have hf := o_t hc6 hf
          refine lv_iload_n hC.1 hC.2.1 dX11_when_30 rfl (lv_at hl 3 rfl) ?_
          exact hret (o_r1 hf) (o_r2 hf hM) dX11_when_31
  refine lv_iload_n hC.1 hC.2.1 dX11_when_0 rfl (lv_at hl 1 rfl) ?_
  refine mw_cSi (As := [.int p1]) (rest := []) hC hM (mcX11_isHour V l M p1 _ rfl) (mw_kS hC q_474 q_475 q_107 q_476 ⟨rfl, rfl⟩ kS_X11_isHour ⟨Nat.le_of_ble_eq_true rfl, Nat.le_of_ble_eq_true rfl⟩) rfl rfl (Nat.le_of_ble_eq_true rfl) hl.1 dX11_when_1 (fun H locs hM hb1 => ?_)
  refine lv_if_ne (tgt := 9) hC.1 hC.2.1 dX11_when_4 (by decide) (fun hc2 => ?_) (fun hc2 => ?_)
  · have hf := o_f hc2 hf
    refine lv_aload_n hC.1 hC.2.1 dX11_when_9 rfl (lv_at hl 0 rfl) ?_
    refine mw_get (v := .ref (mvA V 1)) hC hM 0 (Nat.le_of_ble_eq_true rfl) (eC_0 V) inW11 rfl 0 (by decide) q_424 (fun _ h9 => h9) rfl dX11_when_10 ?_
    refine mw_get (v := .int (M 1 6)) hC hM 1 (Nat.le_of_ble_eq_true rfl) (eC_1 V) inW4 rfl 6 (by decide) q_219 (fun _ h9 => h9) rfl dX11_when_13 ?_
    refine lv_istore_n (lv' := [(2, .int (M 1 6)), (0, .ref (mvA V 0)), (1, .int p1)]) hC.1 hC.2.1 dX11_when_16 rfl hl (Nat.le_of_ble_eq_true rfl) rfl (fun ls hl => ?_)
    refine lv_iconst hC.1 hC.2.1 dX11_when_17 ci_0 ?_
    refine lv_istore_n (lv' := [(3, .int 0), (2, .int (M 1 6)), (0, .ref (mvA V 0)), (1, .int p1)]) hC.1 hC.2.1 dX11_when_18 rfl hl (Nat.le_of_ble_eq_true rfl) rfl (fun ls hl => ?_)
    exact hL19 _ _ _ _ _ _ _ _ hf hM (lv_sub hl [2, 3, 1, 0] rfl)
  · have hf := o_t hc2 hf
    refine lv_iconst hC.1 hC.2.1 dX11_when_7 ci_m1 ?_
    exact hret (o_r1 hf) (o_r2 hf hM) dX11_when_8
set_option maxHeartbeats 4000000 in
set_option maxRecDepth 100000 in
theorem mcX11_noonsUntilRound (V : mV) (l : Launch) (M : mM) (p1 : Int32) (r : Int32) (M' : mM) (hf : fX11_noonsUntilRound M p1 = some (r, M')) : IC V l yX11_noonsUntilRound cX11_noonsUntilRound 5 ({ frames := 6, cells := 0, slots := 0, locals := 149 } : Room) [.ref (mvA V 0), .int p1] M r M' := by
  unfold fX11_noonsUntilRound at hf
  refine mw_enterI RX11 rfl (by decide +kernel) (Nat.le_of_ble_eq_true rfl) (fun {p e s m args below meth c} ls A Q hC hret hM hl => ?_)
  have hl : lv_has ls 5 [(0, .ref (mvA V 0)), (1, .int p1)] := hl
  have hL24 : ∀ (n : Nat) (M : mM) (x2 : Int32) (x3 : Int32) (x4 : Int32) (H : Heap) (locs : List Loc) (ls : Array Slot), fX11_noonsUntilRound_L24 n M x2 x3 x4 = some (r, M') → PC V M A s H locs → lv_has ls 5 [(0, .ref (mvA V 0)), (2, .int x2), (3, .int x3), (4, .int x4)] → W p l e ({ frames := 6, cells := 0, slots := 0, locals := 149 } : Room) s m args below meth c H locs 0 0 Q (F0 m 24 ls []) := by
    intro n13
    induction n13 with
    | zero => intro M x2 x3 x4 H locs ls hf; cases hf
    | succ n13 ih13 =>
      intro M x2 x3 x4 H locs ls hf hM hl
      have hf : fX11_noonsUntilRound_L24_b (fX11_noonsUntilRound_L24 n13) M x2 x3 x4 = some (r, M') := hf
      unfold fX11_noonsUntilRound_L24_b at hf
      refine lv_iload_n hC.1 hC.2.1 dX11_noonsUntilRound_24 rfl (lv_at hl 1 rfl) ?_
      refine lv_iload_n hC.1 hC.2.1 dX11_noonsUntilRound_25 rfl (lv_at hl 2 rfl) ?_
      refine lv_icmp_eq (tgt := 56) hC.1 hC.2.1 dX11_noonsUntilRound_26 (by decide) (fun hc11 => ?_) (fun hc11 => ?_)
      · have hf := o_t hc11 hf
        refine lv_iload hC.1 hC.2.1 dX11_noonsUntilRound_56 (lv_at hl 3 rfl) ?_
        exact hret (o_r1 hf) (o_r2 hf hM) dX11_noonsUntilRound_58
      · have hf := o_f hc11 hf
        refine lv_iload hC.1 hC.2.1 dX11_noonsUntilRound_29 (lv_at hl 3 rfl) ?_
        refine lv_bipush hC.1 hC.2.1 dX11_noonsUntilRound_31 cb_24 ?_
        refine lv_icmp_ge (tgt := 56) hC.1 hC.2.1 dX11_noonsUntilRound_33 (by decide) (fun hc10 => ?_) (fun hc10 => ?_)
        · have hf := o_t hc10 hf
          refine lv_iload hC.1 hC.2.1 dX11_noonsUntilRound_56 (lv_at hl 3 rfl) ?_
          exact hret (o_r1 hf) (o_r2 hf hM) dX11_noonsUntilRound_58
        · have hf := o_f hc10 hf
          refine lv_aload_n hC.1 hC.2.1 dX11_noonsUntilRound_36 rfl (lv_at hl 0 rfl) ?_
          refine lv_iload_n hC.1 hC.2.1 dX11_noonsUntilRound_37 rfl (lv_at hl 1 rfl) ?_
          refine lv_iconst hC.1 hC.2.1 dX11_noonsUntilRound_38 ci_1 ?_
          obtain ⟨r4, M6, hq5, hf⟩ := o_b2 hf
          refine mw_cVi (As := [.int x2, .int 1]) (rest := []) hC hM (mcX11_hourAfter V l M x2 1 r4 M6 hq5) (mw_kV hC q_754 q_756 q_19 q_107 q_757 ⟨rfl, rfl⟩ kV_X11_hourAfter ⟨Nat.le_of_ble_eq_true rfl, Nat.le_of_ble_eq_true rfl⟩) (Nat.le_of_ble_eq_true rfl) (eC_0 V) rfl rfl rfl (Nat.le_of_ble_eq_true rfl) hl.1 dX11_noonsUntilRound_39 (fun H locs hM _ => ?_)
          refine lv_istore_n (lv' := [(2, .int r4), (0, .ref (mvA V 0)), (3, .int x3), (4, .int x4)]) hC.1 hC.2.1 dX11_noonsUntilRound_42 rfl hl (Nat.le_of_ble_eq_true rfl) rfl (fun ls hl => ?_)
          refine lv_aload_n hC.1 hC.2.1 dX11_noonsUntilRound_43 rfl (lv_at hl 1 rfl) ?_
          refine lv_iload_n hC.1 hC.2.1 dX11_noonsUntilRound_44 rfl (lv_at hl 2 rfl) ?_
          refine lv_iconst hC.1 hC.2.1 dX11_noonsUntilRound_45 ci_1 ?_
          obtain ⟨r7, M9, hq8, hf⟩ := o_b2 hf
          refine mw_cVi (As := [.int x3, .int 1]) (rest := []) hC hM (mcX11_hourAfter V l M6 x3 1 r7 M9 hq8) (mw_kV hC q_754 q_756 q_19 q_107 q_757 ⟨rfl, rfl⟩ kV_X11_hourAfter ⟨Nat.le_of_ble_eq_true rfl, Nat.le_of_ble_eq_true rfl⟩) (Nat.le_of_ble_eq_true rfl) (eC_0 V) rfl rfl rfl (Nat.le_of_ble_eq_true rfl) hl.1 dX11_noonsUntilRound_46 (fun H locs hM _ => ?_)
          refine lv_istore_n (lv' := [(3, .int r7), (2, .int r4), (0, .ref (mvA V 0)), (4, .int x4)]) hC.1 hC.2.1 dX11_noonsUntilRound_49 rfl hl (Nat.le_of_ble_eq_true rfl) rfl (fun ls hl => ?_)
          refine lv_iinc (k := 3) (lv' := [(4, .int (x4 + 1)), (3, .int r7), (2, .int r4), (0, .ref (mvA V 0))]) hC.1 hC.2.1 dX11_noonsUntilRound_50 hl rfl (inc_1 _) (Nat.le_of_ble_eq_true rfl) rfl (fun ls hl => ?_)
          refine lv_goto (tgt := 24) hC.1 hC.2.1 dX11_noonsUntilRound_53 (by decide) ?_
          exact ih13 _ _ _ _ _ _ _ hf hM (lv_sub hl [3, 2, 1, 0] rfl)
  refine lv_aload_n hC.1 hC.2.1 dX11_noonsUntilRound_0 rfl (lv_at hl 0 rfl) ?_
  refine mw_get (v := .ref (mvA V 1)) hC hM 0 (Nat.le_of_ble_eq_true rfl) (eC_0 V) inW11 rfl 0 (by decide) q_424 (fun _ h9 => h9) rfl dX11_noonsUntilRound_1 ?_
  refine mw_get (v := .int (M 1 6)) hC hM 1 (Nat.le_of_ble_eq_true rfl) (eC_1 V) inW4 rfl 6 (by decide) q_219 (fun _ h9 => h9) rfl dX11_noonsUntilRound_4 ?_
  refine lv_istore_n (lv' := [(2, .int (M 1 6)), (0, .ref (mvA V 0)), (1, .int p1)]) hC.1 hC.2.1 dX11_noonsUntilRound_7 rfl hl (Nat.le_of_ble_eq_true rfl) rfl (fun ls hl => ?_)
  refine lv_aload_n hC.1 hC.2.1 dX11_noonsUntilRound_8 rfl (lv_at hl 1 rfl) ?_
  refine lv_aload_n hC.1 hC.2.1 dX11_noonsUntilRound_9 rfl (lv_at hl 1 rfl) ?_
  refine mw_get (v := .ref (mvA V 1)) hC hM 0 (Nat.le_of_ble_eq_true rfl) (eC_0 V) inW11 rfl 0 (by decide) q_424 (fun _ h9 => h9) rfl dX11_noonsUntilRound_10 ?_
  refine mw_get (v := .int (M 1 6)) hC hM 1 (Nat.le_of_ble_eq_true rfl) (eC_1 V) inW4 rfl 6 (by decide) q_219 (fun _ h9 => h9) rfl dX11_noonsUntilRound_13 ?_
  refine lv_iload_n hC.1 hC.2.1 dX11_noonsUntilRound_16 rfl (lv_at hl 2 rfl) ?_
  obtain ⟨r1, M3, hq2, hf⟩ := o_b2 hf
  refine mw_cVi (As := [.int (M 1 6), .int p1]) (rest := []) hC hM (mcX11_hourAfter V l M (M 1 6) p1 r1 M3 hq2) (mw_kV hC q_754 q_756 q_19 q_107 q_757 ⟨rfl, rfl⟩ kV_X11_hourAfter ⟨Nat.le_of_ble_eq_true rfl, Nat.le_of_ble_eq_true rfl⟩) (Nat.le_of_ble_eq_true rfl) (eC_0 V) rfl rfl rfl (Nat.le_of_ble_eq_true rfl) hl.1 dX11_noonsUntilRound_17 (fun H locs hM _ => ?_)
  refine lv_istore_n (lv' := [(3, .int r1), (2, .int (M 1 6)), (0, .ref (mvA V 0)), (1, .int p1)]) hC.1 hC.2.1 dX11_noonsUntilRound_20 rfl hl (Nat.le_of_ble_eq_true rfl) rfl (fun ls hl => ?_)
  refine lv_iconst hC.1 hC.2.1 dX11_noonsUntilRound_21 ci_0 ?_
  refine lv_istore (lv' := [(4, .int 0), (3, .int r1), (2, .int (M 1 6)), (0, .ref (mvA V 0)), (1, .int p1)]) hC.1 hC.2.1 dX11_noonsUntilRound_22 hl (Nat.le_of_ble_eq_true rfl) rfl (fun ls hl => ?_)
  exact hL24 _ _ _ _ _ _ _ _ hf hM (lv_sub hl [3, 2, 1, 0] rfl)
set_option maxHeartbeats 4000000 in
set_option maxRecDepth 100000 in
theorem mcX11_cycle (V : mV) (l : Launch) (M : mM) (p1 : Int32) (r : Int32) (M' : mM) (hf : fX11_cycle M p1 = some (r, M')) : IC V l yX11_cycle cX11_cycle 5 ({ frames := 7, cells := 0, slots := 0, locals := 173 } : Room) [.ref (mvA V 0), .int p1] M r M' := by
  unfold fX11_cycle at hf
  refine mw_enterI RX11 rfl (by decide +kernel) (Nat.le_of_ble_eq_true rfl) (fun {p e s m args below meth c} ls A Q hC hret hM hl => ?_)
  have hl : lv_has ls 5 [(0, .ref (mvA V 0)), (1, .int p1)] := hl
  have hL62 : ∀ (M : mM) (x1 : Int32) (x3 : Int32) (H : Heap) (locs : List Loc) (ls : Array Slot), fX11_cycle_L62 M x1 x3 = some (r, M') → PC V M A s H locs → lv_has ls 5 [(0, .ref (mvA V 0)), (1, .int x1), (3, .int x3)] → W p l e ({ frames := 7, cells := 0, slots := 0, locals := 173 } : Room) s m args below meth c H locs 0 0 Q (F0 m 62 ls []) := by
    intro M x1 x3 H locs ls hf hM hl
    unfold fX11_cycle_L62 at hf
    refine lv_iload_n hC.1 hC.2.1 dX11_cycle_62 rfl (lv_at hl 1 rfl) ?_
    refine lv_iconst hC.1 hC.2.1 dX11_cycle_63 ci_1 ?_
    refine lv_icmp_ne (tgt := 71) hC.1 hC.2.1 dX11_cycle_64 (by decide) (fun hc17 => ?_) (fun hc17 => ?_)
    · have hf := o_f hc17 hf
      refine lv_aload_n hC.1 hC.2.1 dX11_cycle_71 rfl (lv_at hl 0 rfl) ?_
      refine lv_iload_n hC.1 hC.2.1 dX11_cycle_72 rfl (lv_at hl 2 rfl) ?_
      obtain ⟨r14, M16, hq15, hf⟩ := o_b2 hf
      refine mw_cVi (As := [.int x3]) (rest := []) hC hM (mcX11_noonsUntilRound V l M x3 r14 M16 hq15) (mw_kV hC q_771 q_773 q_21 q_107 q_774 ⟨rfl, rfl⟩ kV_X11_noonsUntilRound ⟨Nat.le_of_ble_eq_true rfl, Nat.le_of_ble_eq_true rfl⟩) (Nat.le_of_ble_eq_true rfl) (eC_0 V) rfl rfl rfl (Nat.le_of_ble_eq_true rfl) hl.1 dX11_cycle_73 (fun H locs hM _ => ?_)
      exact hret (o_r1 hf) (o_r2 hf hM) dX11_cycle_76
    · have hf := o_t hc17 hf
      refine lv_iload_n hC.1 hC.2.1 dX11_cycle_67 rfl (lv_at hl 2 rfl) ?_
      refine lv_goto (tgt := 76) hC.1 hC.2.1 dX11_cycle_68 (by decide) ?_
      exact hret (o_r1 hf) (o_r2 hf hM) dX11_cycle_76
  have hL35 : ∀ (n : Nat) (M : mM) (x1 : Int32) (x2 : Int32) (x3 : Int32) (x4 : Int32) (H : Heap) (locs : List Loc) (ls : Array Slot), fX11_cycle_L35 n M x1 x2 x3 x4 = some (r, M') → PC V M A s H locs → lv_has ls 5 [(0, .ref (mvA V 0)), (1, .int x1), (2, .int x2), (3, .int x3), (4, .int x4)] → W p l e ({ frames := 7, cells := 0, slots := 0, locals := 173 } : Room) s m args below meth c H locs 0 0 Q (F0 m 35 ls []) := by
    intro n21
    induction n21 with
    | zero => intro M x1 x2 x3 x4 H locs ls hf; cases hf
    | succ n21 ih21 =>
      intro M x1 x2 x3 x4 H locs ls hf hM hl
      have hf : fX11_cycle_L35_b (fX11_cycle_L35 n21) M x1 x2 x3 x4 = some (r, M') := hf
      unfold fX11_cycle_L35_b at hf
      refine lv_iload hC.1 hC.2.1 dX11_cycle_35 (lv_at hl 4 rfl) ?_
      refine lv_iload_n hC.1 hC.2.1 dX11_cycle_37 rfl (lv_at hl 2 rfl) ?_
      refine lv_icmp_eq (tgt := 62) hC.1 hC.2.1 dX11_cycle_38 (by decide) (fun hc13 => ?_) (fun hc13 => ?_)
      · have hf := o_t hc13 hf
        exact hL62 _ _ _ _ _ _ hf hM (lv_sub hl [0, 1, 3] rfl)
      · have hf := o_f hc13 hf
        refine lv_iload_n hC.1 hC.2.1 dX11_cycle_41 rfl (lv_at hl 3 rfl) ?_
        refine lv_bipush hC.1 hC.2.1 dX11_cycle_42 cb_24 ?_
        refine lv_icmp_ge (tgt := 62) hC.1 hC.2.1 dX11_cycle_44 (by decide) (fun hc12 => ?_) (fun hc12 => ?_)
        · have hf := o_t hc12 hf
          exact hL62 _ _ _ _ _ _ hf hM (lv_sub hl [0, 1, 3] rfl)
        · have hf := o_f hc12 hf
          refine lv_aload_n hC.1 hC.2.1 dX11_cycle_47 rfl (lv_at hl 0 rfl) ?_
          refine lv_iload hC.1 hC.2.1 dX11_cycle_48 (lv_at hl 4 rfl) ?_
          refine lv_iconst hC.1 hC.2.1 dX11_cycle_50 ci_1 ?_
          obtain ⟨r9, M11, hq10, hf⟩ := o_b2 hf
          refine mw_cVi (As := [.int x4, .int 1]) (rest := []) hC hM (mcX11_hourAfter V l M x4 1 r9 M11 hq10) (mw_kV hC q_754 q_756 q_19 q_107 q_757 ⟨rfl, rfl⟩ kV_X11_hourAfter ⟨Nat.le_of_ble_eq_true rfl, Nat.le_of_ble_eq_true rfl⟩) (Nat.le_of_ble_eq_true rfl) (eC_0 V) rfl rfl rfl (Nat.le_of_ble_eq_true rfl) hl.1 dX11_cycle_51 (fun H locs hM _ => ?_)
          refine lv_istore (lv' := [(4, .int r9), (0, .ref (mvA V 0)), (1, .int x1), (2, .int x2), (3, .int x3)]) hC.1 hC.2.1 dX11_cycle_54 hl (Nat.le_of_ble_eq_true rfl) rfl (fun ls hl => ?_)
          refine lv_iinc (k := 4) (lv' := [(3, .int (x3 + 1)), (4, .int r9), (0, .ref (mvA V 0)), (1, .int x1), (2, .int x2)]) hC.1 hC.2.1 dX11_cycle_56 hl rfl (inc_1 _) (Nat.le_of_ble_eq_true rfl) rfl (fun ls hl => ?_)
          refine lv_goto (tgt := 35) hC.1 hC.2.1 dX11_cycle_59 (by decide) ?_
          exact ih21 _ _ _ _ _ _ _ _ hf hM (lv_sub hl [2, 3, 4, 0, 1] rfl)
  refine lv_iload_n hC.1 hC.2.1 dX11_cycle_0 rfl (lv_at hl 1 rfl) ?_
  refine lv_iconst hC.1 hC.2.1 dX11_cycle_1 ci_0 ?_
  refine lv_iconst hC.1 hC.2.1 dX11_cycle_2 ci_1 ?_
  refine mw_cSi (As := [.int p1, .int 0, .int 1]) (rest := []) hC hM (mcX11_isIn V l M p1 0 1 _ rfl) (mw_kS hC q_468 q_469 q_107 q_470 ⟨rfl, rfl⟩ kS_X11_isIn ⟨Nat.le_of_ble_eq_true rfl, Nat.le_of_ble_eq_true rfl⟩) rfl rfl (Nat.le_of_ble_eq_true rfl) hl.1 dX11_cycle_3 (fun H locs hM hb1 => ?_)
  refine lv_if_ne (tgt := 11) hC.1 hC.2.1 dX11_cycle_6 (by decide) (fun hc8 => ?_) (fun hc8 => ?_)
  · have hf := o_f hc8 hf
    refine lv_aload_n hC.1 hC.2.1 dX11_cycle_11 rfl (lv_at hl 0 rfl) ?_
    refine lv_aload_n hC.1 hC.2.1 dX11_cycle_12 rfl (lv_at hl 0 rfl) ?_
    refine mw_get (v := .ref (mvA V 1)) hC hM 0 (Nat.le_of_ble_eq_true rfl) (eC_0 V) inW11 rfl 0 (by decide) q_424 (fun _ h9 => h9) rfl dX11_cycle_13 ?_
    refine mw_get (v := .int (M 1 6)) hC hM 1 (Nat.le_of_ble_eq_true rfl) (eC_1 V) inW4 rfl 6 (by decide) q_219 (fun _ h9 => h9) rfl dX11_cycle_16 ?_
    refine lv_bipush hC.1 hC.2.1 dX11_cycle_19 cb_24 ?_
    obtain ⟨r2, M4, hq3, hf⟩ := o_b2 hf
    refine mw_cVi (As := [.int (M 1 6), .int 24]) (rest := []) hC hM (mcX11_hourAfter V l M (M 1 6) 24 r2 M4 hq3) (mw_kV hC q_754 q_756 q_19 q_107 q_757 ⟨rfl, rfl⟩ kV_X11_hourAfter ⟨Nat.le_of_ble_eq_true rfl, Nat.le_of_ble_eq_true rfl⟩) (Nat.le_of_ble_eq_true rfl) (eC_0 V) rfl rfl rfl (Nat.le_of_ble_eq_true rfl) hl.1 dX11_cycle_21 (fun H locs hM _ => ?_)
    refine lv_istore_n (lv' := [(2, .int r2), (0, .ref (mvA V 0)), (1, .int p1)]) hC.1 hC.2.1 dX11_cycle_24 rfl hl (Nat.le_of_ble_eq_true rfl) rfl (fun ls hl => ?_)
    refine lv_iconst hC.1 hC.2.1 dX11_cycle_25 ci_1 ?_
    refine lv_istore_n (lv' := [(3, .int 1), (2, .int r2), (0, .ref (mvA V 0)), (1, .int p1)]) hC.1 hC.2.1 dX11_cycle_26 rfl hl (Nat.le_of_ble_eq_true rfl) rfl (fun ls hl => ?_)
    refine lv_aload_n hC.1 hC.2.1 dX11_cycle_27 rfl (lv_at hl 2 rfl) ?_
    refine lv_iload_n hC.1 hC.2.1 dX11_cycle_28 rfl (lv_at hl 1 rfl) ?_
    refine lv_iconst hC.1 hC.2.1 dX11_cycle_29 ci_1 ?_
    obtain ⟨r5, M7, hq6, hf⟩ := o_b2 hf
    refine mw_cVi (As := [.int r2, .int 1]) (rest := []) hC hM (mcX11_hourAfter V l M4 r2 1 r5 M7 hq6) (mw_kV hC q_754 q_756 q_19 q_107 q_757 ⟨rfl, rfl⟩ kV_X11_hourAfter ⟨Nat.le_of_ble_eq_true rfl, Nat.le_of_ble_eq_true rfl⟩) (Nat.le_of_ble_eq_true rfl) (eC_0 V) rfl rfl rfl (Nat.le_of_ble_eq_true rfl) hl.1 dX11_cycle_30 (fun H locs hM _ => ?_)
    refine lv_istore (lv' := [(4, .int r5), (3, .int 1), (2, .int r2), (0, .ref (mvA V 0)), (1, .int p1)]) hC.1 hC.2.1 dX11_cycle_33 hl (Nat.le_of_ble_eq_true rfl) rfl (fun ls hl => ?_)
    exact hL35 _ _ _ _ _ _ _ _ _ hf hM (lv_sub hl [3, 4, 2, 1, 0] rfl)
  · have hf := o_t hc8 hf
    refine lv_iconst hC.1 hC.2.1 dX11_cycle_9 ci_m1 ?_
    exact hret (o_r1 hf) (o_r2 hf hM) dX11_cycle_10
set_option maxHeartbeats 4000000 in
set_option maxRecDepth 100000 in
theorem mcX11_isWithin (V : mV) (l : Launch) (M : mM) (p0 : Int32) (p1 : Int32) (r : Int32) (hf : fX11_isWithin p0 p1 = r) : ZC V l yX11_isWithin cX11_isWithin 2 ({ frames := 0, cells := 0, slots := 0, locals := 0 } : Room) [.int p0, .int p1] M r M := by
  unfold fX11_isWithin at hf
  refine mw_enterZ RX11 rfl (by decide +kernel) (Nat.le_of_ble_eq_true rfl) (fun {p e s m args below meth c} ls A Q hC hret hM hl => ?_)
  have hl : lv_has ls 2 [(0, .int p0), (1, .int p1)] := hl
  refine lv_iload_n hC.1 hC.2.1 dX11_isWithin_0 rfl (lv_at hl 0 rfl) ?_
  refine lv_iload_n hC.1 hC.2.1 dX11_isWithin_1 rfl (lv_at hl 1 rfl) ?_
  refine lv_iconst hC.1 hC.2.1 dX11_isWithin_2 ci_m1 ?_
  refine lv_ixor hC.1 hC.2.1 dX11_isWithin_3 ?_
  refine lv_iand hC.1 hC.2.1 dX11_isWithin_4 ?_
  refine lv_if_ne (tgt := 12) hC.1 hC.2.1 dX11_isWithin_5 (by decide) (fun hc1 => ?_) (fun hc1 => ?_)
  · have hf := o_f hc1 hf
    refine lv_iconst hC.1 hC.2.1 dX11_isWithin_12 ci_0 ?_
    exact hret hf (Or.inl rfl) hM dX11_isWithin_13
  · have hf := o_t hc1 hf
    refine lv_iconst hC.1 hC.2.1 dX11_isWithin_8 ci_1 ?_
    refine lv_goto (tgt := 13) hC.1 hC.2.1 dX11_isWithin_9 (by decide) ?_
    exact hret hf (Or.inr rfl) hM dX11_isWithin_13
set_option maxHeartbeats 4000000 in
set_option maxRecDepth 100000 in
theorem mcX11_priceOf (V : mV) (l : Launch) (M : mM) (p1 : Int32) (r : Int32) (hf : fX11_priceOf M p1 = some r) : IC V l yX11_priceOf cX11_priceOf 4 ({ frames := 0, cells := 0, slots := 0, locals := 0 } : Room) [.ref (mvA V 0), .int p1] M r M := by
  unfold fX11_priceOf at hf
  refine mw_enterI RX11 rfl (by decide +kernel) (Nat.le_of_ble_eq_true rfl) (fun {p e s m args below meth c} ls A Q hC hret hM hl => ?_)
  have hl : lv_has ls 4 [(0, .ref (mvA V 0)), (1, .int p1)] := hl
  have hL4 : ∀ (n : Nat) (x1 : Int32) (x2 : Int32) (x3 : Int32) (H : Heap) (locs : List Loc) (ls : Array Slot), fX11_priceOf_L4 n M x1 x2 x3 = some r → PC V M A s H locs → lv_has ls 4 [(0, .ref (mvA V 0)), (1, .int x1), (2, .int x2), (3, .int x3)] → W p l e ({ frames := 0, cells := 0, slots := 0, locals := 0 } : Room) s m args below meth c H locs 0 0 Q (F0 m 4 ls []) := by
    intro n4
    induction n4 with
    | zero => intro x1 x2 x3 H locs ls hf; cases hf
    | succ n4 ih4 =>
      intro x1 x2 x3 H locs ls hf hM hl
      have hf : fX11_priceOf_L4_b (fX11_priceOf_L4 n4) M x1 x2 x3 = some r := hf
      unfold fX11_priceOf_L4_b at hf
      refine lv_iload_n hC.1 hC.2.1 dX11_priceOf_4 rfl (lv_at hl 3 rfl) ?_
      refine lv_aload_n hC.1 hC.2.1 dX11_priceOf_5 rfl (lv_at hl 0 rfl) ?_
      refine mw_get (v := .ref (mvA V 1)) hC hM 0 (Nat.le_of_ble_eq_true rfl) (eC_0 V) inW11 rfl 0 (by decide) q_424 (fun _ h9 => h9) rfl dX11_priceOf_6 ?_
      refine mw_get (v := .int (M 1 0)) hC hM 1 (Nat.le_of_ble_eq_true rfl) (eC_1 V) inW4 rfl 0 (by decide) q_206 (fun _ h9 => h9) rfl dX11_priceOf_9 ?_
      refine lv_icmp_ge (tgt := 42) hC.1 hC.2.1 dX11_priceOf_12 (by decide) (fun hc3 => ?_) (fun hc3 => ?_)
      · have hf := o_t hc3 hf
        refine lv_iload_n hC.1 hC.2.1 dX11_priceOf_42 rfl (lv_at hl 2 rfl) ?_
        exact hret (Option.some.inj hf) hM dX11_priceOf_43
      · have hf := o_f hc3 hf
        refine lv_iload_n hC.1 hC.2.1 dX11_priceOf_15 rfl (lv_at hl 1 rfl) ?_
        refine lv_iload_n hC.1 hC.2.1 dX11_priceOf_16 rfl (lv_at hl 3 rfl) ?_
        refine lv_ishr hC.1 hC.2.1 dX11_priceOf_17 ?_
        refine lv_iconst hC.1 hC.2.1 dX11_priceOf_18 ci_1 ?_
        refine lv_iand hC.1 hC.2.1 dX11_priceOf_19 ?_
        refine lv_iconst hC.1 hC.2.1 dX11_priceOf_20 ci_1 ?_
        refine lv_icmp_ne (tgt := 36) hC.1 hC.2.1 dX11_priceOf_21 (by decide) (fun hc2 => ?_) (fun hc2 => ?_)
        · have hf := o_f hc2 hf
          refine lv_iinc (k := 3) (lv' := [(3, .int (x3 + 1)), (0, .ref (mvA V 0)), (1, .int x1), (2, .int x2)]) hC.1 hC.2.1 dX11_priceOf_36 hl rfl (inc_1 _) (Nat.le_of_ble_eq_true rfl) rfl (fun ls hl => ?_)
          refine lv_goto (tgt := 4) hC.1 hC.2.1 dX11_priceOf_39 (by decide) ?_
          exact ih4 _ _ _ _ _ _ hf hM (lv_sub hl [1, 2, 3, 0] rfl)
        · have hf := o_t hc2 hf
          refine lv_iload_n hC.1 hC.2.1 dX11_priceOf_24 rfl (lv_at hl 2 rfl) ?_
          refine lv_aload_n hC.1 hC.2.1 dX11_priceOf_25 rfl (lv_at hl 0 rfl) ?_
          refine mw_get (v := .ref (mvA V 1)) hC hM 0 (Nat.le_of_ble_eq_true rfl) (eC_0 V) inW11 rfl 0 (by decide) q_424 (fun _ h9 => h9) rfl dX11_priceOf_26 ?_
          refine mw_get (v := .ref (mvA V 5)) hC hM 1 (Nat.le_of_ble_eq_true rfl) (eC_1 V) inW4 rfl 4 (by decide) q_215 (fun _ h9 => h9) rfl dX11_priceOf_29 ?_
          refine lv_iload_n hC.1 hC.2.1 dX11_priceOf_32 rfl (lv_at hl 3 rfl) ?_
          obtain ⟨hg1, hf⟩ := o_g hf
          refine mw_iald hC hM 5 0 (Nat.le_of_ble_eq_true rfl) (eC_5 V) rfl hg1 dX11_priceOf_33 ?_
          refine lv_iadd hC.1 hC.2.1 dX11_priceOf_34 ?_
          refine lv_istore_n (lv' := [(2, .int (x2 + (M 5 (Int32.toNatClampNeg x3)))), (0, .ref (mvA V 0)), (1, .int x1), (3, .int x3)]) hC.1 hC.2.1 dX11_priceOf_35 rfl hl (Nat.le_of_ble_eq_true rfl) rfl (fun ls hl => ?_)
          refine lv_iinc (k := 3) (lv' := [(3, .int (x3 + 1)), (2, .int (x2 + (M 5 (Int32.toNatClampNeg x3)))), (0, .ref (mvA V 0)), (1, .int x1)]) hC.1 hC.2.1 dX11_priceOf_36 hl rfl (inc_1 _) (Nat.le_of_ble_eq_true rfl) rfl (fun ls hl => ?_)
          refine lv_goto (tgt := 4) hC.1 hC.2.1 dX11_priceOf_39 (by decide) ?_
          exact ih4 _ _ _ _ _ _ hf hM (lv_sub hl [2, 3, 1, 0] rfl)
  refine lv_iconst hC.1 hC.2.1 dX11_priceOf_0 ci_0 ?_
  refine lv_istore_n (lv' := [(2, .int 0), (0, .ref (mvA V 0)), (1, .int p1)]) hC.1 hC.2.1 dX11_priceOf_1 rfl hl (Nat.le_of_ble_eq_true rfl) rfl (fun ls hl => ?_)
  refine lv_iconst hC.1 hC.2.1 dX11_priceOf_2 ci_0 ?_
  refine lv_istore_n (lv' := [(3, .int 0), (2, .int 0), (0, .ref (mvA V 0)), (1, .int p1)]) hC.1 hC.2.1 dX11_priceOf_3 rfl hl (Nat.le_of_ble_eq_true rfl) rfl (fun ls hl => ?_)
  exact hL4 _ _ _ _ _ _ _ hf hM (lv_sub hl [2, 3, 1, 0] rfl)
set_option maxHeartbeats 4000000 in
set_option maxRecDepth 100000 in
theorem mcX11_isBetter (V : mV) (l : Launch) (M : mM) (p1 : Int32) (p2 : Int32) (r : Int32) (hf : fX11_isBetter M p1 p2 = some r) : ZC V l yX11_isBetter cX11_isBetter 4 ({ frames := 1, cells := 0, slots := 0, locals := 23 } : Room) [.ref (mvA V 0), .int p1, .int p2] M r M := by
  unfold fX11_isBetter at hf
  refine mw_enterZ RX11 rfl (by decide +kernel) (Nat.le_of_ble_eq_true rfl) (fun {p e s m args below meth c} ls A Q hC hret hM hl => ?_)
  have hl : lv_has ls 4 [(0, .ref (mvA V 0)), (1, .int p1), (2, .int p2)] := hl
  refine lv_aload_n hC.1 hC.2.1 dX11_isBetter_0 rfl (lv_at hl 0 rfl) ?_
  refine lv_iload_n hC.1 hC.2.1 dX11_isBetter_1 rfl (lv_at hl 1 rfl) ?_
  obtain ⟨r1, hq2, hf⟩ := o_b hf
  refine mw_cVi (As := [.int p1]) (rest := []) hC hM (mcX11_priceOf V l M p1 r1 hq2) (mw_kV hC q_790 q_792 q_24 q_107 q_793 ⟨rfl, rfl⟩ kV_X11_priceOf ⟨Nat.le_of_ble_eq_true rfl, Nat.le_of_ble_eq_true rfl⟩) (Nat.le_of_ble_eq_true rfl) (eC_0 V) rfl rfl rfl (Nat.le_of_ble_eq_true rfl) hl.1 dX11_isBetter_2 (fun H locs hM _ => ?_)
  refine lv_aload_n hC.1 hC.2.1 dX11_isBetter_5 rfl (lv_at hl 0 rfl) ?_
  refine lv_iload_n hC.1 hC.2.1 dX11_isBetter_6 rfl (lv_at hl 2 rfl) ?_
  obtain ⟨r3, hq4, hf⟩ := o_b hf
  refine mw_cVi (As := [.int p2]) (rest := [.int r1]) hC hM (mcX11_priceOf V l M p2 r3 hq4) (mw_kV hC q_790 q_792 q_24 q_107 q_793 ⟨rfl, rfl⟩ kV_X11_priceOf ⟨Nat.le_of_ble_eq_true rfl, Nat.le_of_ble_eq_true rfl⟩) (Nat.le_of_ble_eq_true rfl) (eC_0 V) rfl rfl rfl (Nat.le_of_ble_eq_true rfl) hl.1 dX11_isBetter_7 (fun H locs hM _ => ?_)
  refine lv_isub hC.1 hC.2.1 dX11_isBetter_10 ?_
  refine lv_istore_n (lv' := [(3, .int (r1 - r3)), (0, .ref (mvA V 0)), (1, .int p1), (2, .int p2)]) hC.1 hC.2.1 dX11_isBetter_11 rfl hl (Nat.le_of_ble_eq_true rfl) rfl (fun ls hl => ?_)
  refine lv_iload_n hC.1 hC.2.1 dX11_isBetter_12 rfl (lv_at hl 0 rfl) ?_
  refine lv_if_lt (tgt := 31) hC.1 hC.2.1 dX11_isBetter_13 (by decide) (fun hc7 => ?_) (fun hc7 => ?_)
  · have hf := o_t hc7 hf
    refine lv_iconst hC.1 hC.2.1 dX11_isBetter_31 ci_1 ?_
    refine lv_goto (tgt := 36) hC.1 hC.2.1 dX11_isBetter_32 (by decide) ?_
    exact hret (Option.some.inj hf) (Or.inr rfl) hM dX11_isBetter_36
  · have hf := o_f hc7 hf
    refine lv_iload_n hC.1 hC.2.1 dX11_isBetter_16 rfl (lv_at hl 0 rfl) ?_
    refine lv_if_ne (tgt := 35) hC.1 hC.2.1 dX11_isBetter_17 (by decide) (fun hc6 => ?_) (fun hc6 => ?_)
    · have hf := o_f hc6 hf
      refine lv_iconst hC.1 hC.2.1 dX11_isBetter_35 ci_0 ?_
      exact hret (Option.some.inj hf) (Or.inl rfl) hM dX11_isBetter_36
    · have hf := o_t hc6 hf
      refine lv_iload_n hC.1 hC.2.1 dX11_isBetter_20 rfl (lv_at hl 2 rfl) ?_
      refine mw_cSi (As := [.int p1]) (rest := []) hC hM (mcJ6_bitCount_0f7a4C V l M p1 _ rfl) (mw_kS hC q_496 q_497 q_122 q_498 ⟨rfl, rfl⟩ kS_J6_bitCount_0f7a4 ⟨Nat.le_of_ble_eq_true rfl, Nat.le_of_ble_eq_true rfl⟩) rfl rfl (Nat.le_of_ble_eq_true rfl) hl.1 dX11_isBetter_21 (fun H locs hM _ => ?_)
      refine lv_iload_n hC.1 hC.2.1 dX11_isBetter_24 rfl (lv_at hl 3 rfl) ?_
      refine mw_cSi (As := [.int p2]) (rest := [.int (fJ6_bitCount_0f7a4C p1)]) hC hM (mcJ6_bitCount_0f7a4C V l M p2 _ rfl) (mw_kS hC q_496 q_497 q_122 q_498 ⟨rfl, rfl⟩ kS_J6_bitCount_0f7a4 ⟨Nat.le_of_ble_eq_true rfl, Nat.le_of_ble_eq_true rfl⟩) rfl rfl (Nat.le_of_ble_eq_true rfl) hl.1 dX11_isBetter_25 (fun H locs hM _ => ?_)
      refine lv_icmp_ge (tgt := 35) hC.1 hC.2.1 dX11_isBetter_28 (by decide) (fun hc5 => ?_) (fun hc5 => ?_)
      · have hf := o_t hc5 hf
        refine lv_iconst hC.1 hC.2.1 dX11_isBetter_35 ci_0 ?_
        exact hret (Option.some.inj hf) (Or.inl rfl) hM dX11_isBetter_36
      · have hf := o_f hc5 hf
        refine lv_iconst hC.1 hC.2.1 dX11_isBetter_31 ci_1 ?_
        refine lv_goto (tgt := 36) hC.1 hC.2.1 dX11_isBetter_32 (by decide) ?_
        exact hret (Option.some.inj hf) (Or.inr rfl) hM dX11_isBetter_36
set_option maxHeartbeats 4000000 in
set_option maxRecDepth 100000 in
theorem mcX11_bestLulled (V : mV) (l : Launch) (M : mM) (p1 : Int32) (r : Int32) (M' : mM) (hf : fX11_bestLulled M p1 = some (r, M')) : IC V l yX11_bestLulled cX11_bestLulled 4 ({ frames := 4, cells := 0, slots := 0, locals := 103 } : Room) [.ref (mvA V 0), .int p1] M r M' := by
  unfold fX11_bestLulled at hf
  refine mw_enterI RX11 rfl (by decide +kernel) (Nat.le_of_ble_eq_true rfl) (fun {p e s m args below meth c} ls A Q hC hret hM hl => ?_)
  have hl : lv_has ls 4 [(0, .ref (mvA V 0)), (1, .int p1)] := hl
  have hL5 : ∀ (n : Nat) (M : mM) (x1 : Int32) (x2 : Int32) (x3 : Int32) (H : Heap) (locs : List Loc) (ls : Array Slot), fX11_bestLulled_L5 n M x1 x2 x3 = some (r, M') → PC V M A s H locs → lv_has ls 4 [(0, .ref (mvA V 0)), (1, .int x1), (2, .int x2), (3, .int x3)] → W p l e ({ frames := 4, cells := 0, slots := 0, locals := 103 } : Room) s m args below meth c H locs 0 0 Q (F0 m 5 ls []) := by
    intro n4
    induction n4 with
    | zero => intro M x1 x2 x3 H locs ls hf; cases hf
    | succ n4 ih4 =>
      intro M x1 x2 x3 H locs ls hf hM hl
      have hf : fX11_bestLulled_L5_b (fX11_bestLulled_L5 n4) M x1 x2 x3 = some (r, M') := hf
      unfold fX11_bestLulled_L5_b at hf
      refine lv_iload_n hC.1 hC.2.1 dX11_bestLulled_5 rfl (lv_at hl 3 rfl) ?_
      refine lv_sipush hC.1 hC.2.1 dX11_bestLulled_6 cs_128 ?_
      refine lv_icmp_ge (tgt := 85) hC.1 hC.2.1 dX11_bestLulled_9 (by decide) (fun hc12 => ?_) (fun hc12 => ?_)
      · have hf := o_t hc12 hf
        refine lv_iload_n hC.1 hC.2.1 dX11_bestLulled_85 rfl (lv_at hl 2 rfl) ?_
        exact hret (o_r1 hf) (o_r2 hf hM) dX11_bestLulled_86
      · have hf := o_f hc12 hf
        refine lv_iload_n hC.1 hC.2.1 dX11_bestLulled_12 rfl (lv_at hl 3 rfl) ?_
        refine lv_aload_n hC.1 hC.2.1 dX11_bestLulled_13 rfl (lv_at hl 0 rfl) ?_
        refine mw_get (v := .ref (mvA V 1)) hC hM 0 (Nat.le_of_ble_eq_true rfl) (eC_0 V) inW11 rfl 0 (by decide) q_424 (fun _ h9 => h9) rfl dX11_bestLulled_14 ?_
        refine mw_get (v := .int (M 1 5)) hC hM 1 (Nat.le_of_ble_eq_true rfl) (eC_1 V) inW4 rfl 5 (by decide) q_216 (fun _ h9 => h9) rfl dX11_bestLulled_17 ?_
        refine mw_cSi (As := [.int x3, .int (M 1 5)]) (rest := []) hC hM (mcX11_isWithin V l M x3 (M 1 5) _ rfl) (mw_kS hC q_783 q_784 q_107 q_785 ⟨rfl, rfl⟩ kS_X11_isWithin ⟨Nat.le_of_ble_eq_true rfl, Nat.le_of_ble_eq_true rfl⟩) rfl rfl (Nat.le_of_ble_eq_true rfl) hl.1 dX11_bestLulled_20 (fun H locs hM hb1 => ?_)
        refine lv_if_eq (tgt := 79) hC.1 hC.2.1 dX11_bestLulled_23 (by decide) (fun hc11 => ?_) (fun hc11 => ?_)
        · have hf := o_t hc11 hf
          refine lv_iinc (k := 3) (lv' := [(3, .int (x3 + 1)), (0, .ref (mvA V 0)), (1, .int x1), (2, .int x2)]) hC.1 hC.2.1 dX11_bestLulled_79 hl rfl (inc_1 _) (Nat.le_of_ble_eq_true rfl) rfl (fun ls hl => ?_)
          refine lv_goto (tgt := 5) hC.1 hC.2.1 dX11_bestLulled_82 (by decide) ?_
          exact ih4 _ _ _ _ _ _ _ hf hM (lv_sub hl [1, 2, 3, 0] rfl)
        · have hf := o_f hc11 hf
          refine lv_aload_n hC.1 hC.2.1 dX11_bestLulled_26 rfl (lv_at hl 0 rfl) ?_
          refine lv_aload_n hC.1 hC.2.1 dX11_bestLulled_27 rfl (lv_at hl 0 rfl) ?_
          refine mw_get (v := .ref (mvA V 1)) hC hM 0 (Nat.le_of_ble_eq_true rfl) (eC_0 V) inW11 rfl 0 (by decide) q_424 (fun _ h9 => h9) rfl dX11_bestLulled_28 ?_
          refine mw_get (v := .int (M 1 6)) hC hM 1 (Nat.le_of_ble_eq_true rfl) (eC_1 V) inW4 rfl 6 (by decide) q_219 (fun _ h9 => h9) rfl dX11_bestLulled_31 ?_
          refine lv_aload_n hC.1 hC.2.1 dX11_bestLulled_34 rfl (lv_at hl 0 rfl) ?_
          refine mw_get (v := .ref (mvA V 1)) hC hM 0 (Nat.le_of_ble_eq_true rfl) (eC_0 V) inW11 rfl 0 (by decide) q_424 (fun _ h9 => h9) rfl dX11_bestLulled_35 ?_
          refine mw_get (v := .int (M 1 5)) hC hM 1 (Nat.le_of_ble_eq_true rfl) (eC_1 V) inW4 rfl 5 (by decide) q_216 (fun _ h9 => h9) rfl dX11_bestLulled_38 ?_
          refine lv_iload_n hC.1 hC.2.1 dX11_bestLulled_41 rfl (lv_at hl 3 rfl) ?_
          refine lv_iconst hC.1 hC.2.1 dX11_bestLulled_42 ci_m1 ?_
          refine lv_ixor hC.1 hC.2.1 dX11_bestLulled_43 ?_
          refine lv_iand hC.1 hC.2.1 dX11_bestLulled_44 ?_
          obtain ⟨r2, M4, hq3, hf⟩ := o_b2 hf
          refine mw_cVi (As := [.int (M 1 6), .int ((M 1 5) &&& (x3 ^^^ (-1)))]) (rest := []) hC hM (mcX11_sumAt V l M (M 1 6) ((M 1 5) &&& (x3 ^^^ (-1))) r2 M4 hq3) (mw_kV hC q_728 q_730 q_17 q_107 q_731 ⟨rfl, rfl⟩ kV_X11_sumAt ⟨Nat.le_of_ble_eq_true rfl, Nat.le_of_ble_eq_true rfl⟩) (Nat.le_of_ble_eq_true rfl) (eC_0 V) rfl rfl rfl (Nat.le_of_ble_eq_true rfl) hl.1 dX11_bestLulled_45 (fun H locs hM _ => ?_)
          refine lv_aload_n hC.1 hC.2.1 dX11_bestLulled_48 rfl (lv_at hl 0 rfl) ?_
          refine mw_get (v := .ref (mvA V 1)) hC hM 0 (Nat.le_of_ble_eq_true rfl) (eC_0 V) inW11 rfl 0 (by decide) q_424 (fun _ h9 => h9) rfl dX11_bestLulled_49 ?_
          refine mw_get (v := .int (M4 1 8)) hC hM 1 (Nat.le_of_ble_eq_true rfl) (eC_1 V) inW4 rfl 8 (by decide) q_223 (fun _ h9 => h9) rfl dX11_bestLulled_52 ?_
          refine mw_cSi (As := [.int r2, .int (M4 1 8)]) (rest := []) hC hM (mcX11_turnOf V l M4 r2 (M4 1 8) _ rfl) (mw_kS hC q_740 q_741 q_107 q_742 ⟨rfl, rfl⟩ kS_X11_turnOf ⟨Nat.le_of_ble_eq_true rfl, Nat.le_of_ble_eq_true rfl⟩) rfl rfl (Nat.le_of_ble_eq_true rfl) hl.1 dX11_bestLulled_55 (fun H locs hM _ => ?_)
          refine lv_iconst hC.1 hC.2.1 dX11_bestLulled_58 ci_1 ?_
          refine lv_iadd hC.1 hC.2.1 dX11_bestLulled_59 ?_
          refine lv_iload_n hC.1 hC.2.1 dX11_bestLulled_60 rfl (lv_at hl 1 rfl) ?_
          refine lv_icmp_ne (tgt := 79) hC.1 hC.2.1 dX11_bestLulled_61 (by decide) (fun hc10 => ?_) (fun hc10 => ?_)
          · have hf := o_f hc10 hf
            refine lv_iinc (k := 3) (lv' := [(3, .int (x3 + 1)), (0, .ref (mvA V 0)), (1, .int x1), (2, .int x2)]) hC.1 hC.2.1 dX11_bestLulled_79 hl rfl (inc_1 _) (Nat.le_of_ble_eq_true rfl) rfl (fun ls hl => ?_)
            refine lv_goto (tgt := 5) hC.1 hC.2.1 dX11_bestLulled_82 (by decide) ?_
            exact ih4 _ _ _ _ _ _ _ hf hM (lv_sub hl [1, 2, 3, 0] rfl)
          · have hf := o_t hc10 hf
            refine lv_iload_n hC.1 hC.2.1 dX11_bestLulled_64 rfl (lv_at hl 2 rfl) ?_
            refine lv_if_lt (tgt := 77) hC.1 hC.2.1 dX11_bestLulled_65 (by decide) (fun hc9 => ?_) (fun hc9 => ?_)
            · have hf := o_t hc9 hf
              refine lv_iload_n hC.1 hC.2.1 dX11_bestLulled_77 rfl (lv_at hl 3 rfl) ?_
              refine lv_istore_n (lv' := [(2, .int x3), (0, .ref (mvA V 0)), (1, .int x1), (3, .int x3)]) hC.1 hC.2.1 dX11_bestLulled_78 rfl hl (Nat.le_of_ble_eq_true rfl) rfl (fun ls hl => ?_)
              refine lv_iinc (k := 3) (lv' := [(3, .int (x3 + 1)), (2, .int x3), (0, .ref (mvA V 0)), (1, .int x1)]) hC.1 hC.2.1 dX11_bestLulled_79 hl rfl (inc_1 _) (Nat.le_of_ble_eq_true rfl) rfl (fun ls hl => ?_)
              refine lv_goto (tgt := 5) hC.1 hC.2.1 dX11_bestLulled_82 (by decide) ?_
              exact ih4 _ _ _ _ _ _ _ hf hM (lv_sub hl [2, 3, 1, 0] rfl)
            · have hf := o_f hc9 hf
              refine lv_aload_n hC.1 hC.2.1 dX11_bestLulled_68 rfl (lv_at hl 0 rfl) ?_
              refine lv_iload_n hC.1 hC.2.1 dX11_bestLulled_69 rfl (lv_at hl 3 rfl) ?_
              refine lv_iload_n hC.1 hC.2.1 dX11_bestLulled_70 rfl (lv_at hl 2 rfl) ?_
              obtain ⟨r5, hq6, hf⟩ := o_b hf
              refine mw_cVi (As := [.int x3, .int x2]) (rest := []) hC hM (mcX11_isBetter V l M4 x3 x2 r5 hq6) (mw_kV hC q_786 q_788 q_23 q_107 q_789 ⟨rfl, rfl⟩ kV_X11_isBetter ⟨Nat.le_of_ble_eq_true rfl, Nat.le_of_ble_eq_true rfl⟩) (Nat.le_of_ble_eq_true rfl) (eC_0 V) rfl rfl rfl (Nat.le_of_ble_eq_true rfl) hl.1 dX11_bestLulled_71 (fun H locs hM hb7 => ?_)
              refine lv_if_eq (tgt := 79) hC.1 hC.2.1 dX11_bestLulled_74 (by decide) (fun hc8 => ?_) (fun hc8 => ?_)
              · have hf := o_t hc8 hf
                refine lv_iinc (k := 3) (lv' := [(3, .int (x3 + 1)), (0, .ref (mvA V 0)), (1, .int x1), (2, .int x2)]) hC.1 hC.2.1 dX11_bestLulled_79 hl rfl (inc_1 _) (Nat.le_of_ble_eq_true rfl) rfl (fun ls hl => ?_)
                refine lv_goto (tgt := 5) hC.1 hC.2.1 dX11_bestLulled_82 (by decide) ?_
                exact ih4 _ _ _ _ _ _ _ hf hM (lv_sub hl [1, 2, 3, 0] rfl)
              · have hf := o_f hc8 hf
                refine lv_iload_n hC.1 hC.2.1 dX11_bestLulled_77 rfl (lv_at hl 3 rfl) ?_
                refine lv_istore_n (lv' := [(2, .int x3), (0, .ref (mvA V 0)), (1, .int x1), (3, .int x3)]) hC.1 hC.2.1 dX11_bestLulled_78 rfl hl (Nat.le_of_ble_eq_true rfl) rfl (fun ls hl => ?_)
                refine lv_iinc (k := 3) (lv' := [(3, .int (x3 + 1)), (2, .int x3), (0, .ref (mvA V 0)), (1, .int x1)]) hC.1 hC.2.1 dX11_bestLulled_79 hl rfl (inc_1 _) (Nat.le_of_ble_eq_true rfl) rfl (fun ls hl => ?_)
                refine lv_goto (tgt := 5) hC.1 hC.2.1 dX11_bestLulled_82 (by decide) ?_
                exact ih4 _ _ _ _ _ _ _ hf hM (lv_sub hl [2, 3, 1, 0] rfl)
  refine lv_bipush hC.1 hC.2.1 dX11_bestLulled_0 cb_m3 ?_
  refine lv_istore_n (lv' := [(2, .int (-3)), (0, .ref (mvA V 0)), (1, .int p1)]) hC.1 hC.2.1 dX11_bestLulled_2 rfl hl (Nat.le_of_ble_eq_true rfl) rfl (fun ls hl => ?_)
  refine lv_iconst hC.1 hC.2.1 dX11_bestLulled_3 ci_0 ?_
  refine lv_istore_n (lv' := [(3, .int 0), (2, .int (-3)), (0, .ref (mvA V 0)), (1, .int p1)]) hC.1 hC.2.1 dX11_bestLulled_4 rfl hl (Nat.le_of_ble_eq_true rfl) rfl (fun ls hl => ?_)
  exact hL5 _ _ _ _ _ _ _ _ hf hM (lv_sub hl [2, 3, 1, 0] rfl)
set_option maxHeartbeats 4000000 in
set_option maxRecDepth 100000 in
theorem mcX11_buys (V : mV) (l : Launch) (M : mM) (p1 : Int32) (r : Int32) (M' : mM) (hf : fX11_buys M p1 = some (r, M')) : IC V l yX11_buys cX11_buys 3 ({ frames := 5, cells := 0, slots := 0, locals := 126 } : Room) [.ref (mvA V 0), .int p1] M r M' := by
  unfold fX11_buys at hf
  refine mw_enterI RX11 rfl (by decide +kernel) (Nat.le_of_ble_eq_true rfl) (fun {p e s m args below meth c} ls A Q hC hret hM hl => ?_)
  have hl : lv_has ls 3 [(0, .ref (mvA V 0)), (1, .int p1)] := hl
  refine lv_iload_n hC.1 hC.2.1 dX11_buys_0 rfl (lv_at hl 1 rfl) ?_
  refine lv_iconst hC.1 hC.2.1 dX11_buys_1 ci_0 ?_
  refine lv_iconst hC.1 hC.2.1 dX11_buys_2 ci_2 ?_
  refine mw_cSi (As := [.int p1, .int 0, .int 2]) (rest := []) hC hM (mcX11_isIn V l M p1 0 2 _ rfl) (mw_kS hC q_468 q_469 q_107 q_470 ⟨rfl, rfl⟩ kS_X11_isIn ⟨Nat.le_of_ble_eq_true rfl, Nat.le_of_ble_eq_true rfl⟩) rfl rfl (Nat.le_of_ble_eq_true rfl) hl.1 dX11_buys_3 (fun H locs hM hb1 => ?_)
  refine lv_if_ne (tgt := 11) hC.1 hC.2.1 dX11_buys_6 (by decide) (fun hc8 => ?_) (fun hc8 => ?_)
  · have hf := o_f hc8 hf
    refine lv_aload_n hC.1 hC.2.1 dX11_buys_11 rfl (lv_at hl 0 rfl) ?_
    refine lv_iload_n hC.1 hC.2.1 dX11_buys_12 rfl (lv_at hl 1 rfl) ?_
    obtain ⟨r2, M4, hq3, hf⟩ := o_b2 hf
    refine mw_cVi (As := [.int p1]) (rest := []) hC hM (mcX11_bestLulled V l M p1 r2 M4 hq3) (mw_kV hC q_779 q_781 q_22 q_107 q_782 ⟨rfl, rfl⟩ kV_X11_bestLulled ⟨Nat.le_of_ble_eq_true rfl, Nat.le_of_ble_eq_true rfl⟩) (Nat.le_of_ble_eq_true rfl) (eC_0 V) rfl rfl rfl (Nat.le_of_ble_eq_true rfl) hl.1 dX11_buys_13 (fun H locs hM _ => ?_)
    refine lv_istore_n (lv' := [(2, .int r2), (0, .ref (mvA V 0)), (1, .int p1)]) hC.1 hC.2.1 dX11_buys_16 rfl hl (Nat.le_of_ble_eq_true rfl) rfl (fun ls hl => ?_)
    refine lv_iload_n hC.1 hC.2.1 dX11_buys_17 rfl (lv_at hl 0 rfl) ?_
    refine lv_if_ge (tgt := 26) hC.1 hC.2.1 dX11_buys_18 (by decide) (fun hc7 => ?_) (fun hc7 => ?_)
    · have hf := o_t hc7 hf
      refine lv_aload_n hC.1 hC.2.1 dX11_buys_26 rfl (lv_at hl 1 rfl) ?_
      refine lv_iload_n hC.1 hC.2.1 dX11_buys_27 rfl (lv_at hl 0 rfl) ?_
      obtain ⟨r5, hq6, hf⟩ := o_b hf
      refine mw_cVi (As := [.int r2]) (rest := []) hC hM (mcX11_priceOf V l M4 r2 r5 hq6) (mw_kV hC q_790 q_792 q_24 q_107 q_793 ⟨rfl, rfl⟩ kV_X11_priceOf ⟨Nat.le_of_ble_eq_true rfl, Nat.le_of_ble_eq_true rfl⟩) (Nat.le_of_ble_eq_true rfl) (eC_0 V) rfl rfl rfl (Nat.le_of_ble_eq_true rfl) hl.1 dX11_buys_28 (fun H locs hM _ => ?_)
      exact hret (o_r1 hf) (o_r2 hf hM) dX11_buys_31
    · have hf := o_f hc7 hf
      refine lv_bipush hC.1 hC.2.1 dX11_buys_21 cb_m3 ?_
      refine lv_goto (tgt := 31) hC.1 hC.2.1 dX11_buys_23 (by decide) ?_
      exact hret (o_r1 hf) (o_r2 hf hM) dX11_buys_31
  · have hf := o_t hc8 hf
    refine lv_iconst hC.1 hC.2.1 dX11_buys_9 ci_m1 ?_
    exact hret (o_r1 hf) (o_r2 hf hM) dX11_buys_10
set_option maxHeartbeats 4000000 in
set_option maxRecDepth 100000 in
theorem mcX11_whom (V : mV) (l : Launch) (M : mM) (p1 : Int32) (r : Int32) (M' : mM) (hf : fX11_whom M p1 = some (r, M')) : IC V l yX11_whom cX11_whom 2 ({ frames := 5, cells := 0, slots := 0, locals := 126 } : Room) [.ref (mvA V 0), .int p1] M r M' := by
  unfold fX11_whom at hf
  refine mw_enterI RX11 rfl (by decide +kernel) (Nat.le_of_ble_eq_true rfl) (fun {p e s m args below meth c} ls A Q hC hret hM hl => ?_)
  have hl : lv_has ls 2 [(0, .ref (mvA V 0)), (1, .int p1)] := hl
  refine lv_iload_n hC.1 hC.2.1 dX11_whom_0 rfl (lv_at hl 1 rfl) ?_
  refine lv_iconst hC.1 hC.2.1 dX11_whom_1 ci_0 ?_
  refine lv_iconst hC.1 hC.2.1 dX11_whom_2 ci_2 ?_
  refine mw_cSi (As := [.int p1, .int 0, .int 2]) (rest := []) hC hM (mcX11_isIn V l M p1 0 2 _ rfl) (mw_kS hC q_468 q_469 q_107 q_470 ⟨rfl, rfl⟩ kS_X11_isIn ⟨Nat.le_of_ble_eq_true rfl, Nat.le_of_ble_eq_true rfl⟩) rfl rfl (Nat.le_of_ble_eq_true rfl) hl.1 dX11_whom_3 (fun H locs hM hb1 => ?_)
  refine lv_if_eq (tgt := 17) hC.1 hC.2.1 dX11_whom_6 (by decide) (fun hc5 => ?_) (fun hc5 => ?_)
  · have hf := o_t hc5 hf
    refine lv_iconst hC.1 hC.2.1 dX11_whom_17 ci_m1 ?_
    exact hret (o_r1 hf) (o_r2 hf hM) dX11_whom_18
  · have hf := o_f hc5 hf
    refine lv_aload_n hC.1 hC.2.1 dX11_whom_9 rfl (lv_at hl 0 rfl) ?_
    refine lv_iload_n hC.1 hC.2.1 dX11_whom_10 rfl (lv_at hl 1 rfl) ?_
    obtain ⟨r2, M4, hq3, hf⟩ := o_b2 hf
    refine mw_cVi (As := [.int p1]) (rest := []) hC hM (mcX11_bestLulled V l M p1 r2 M4 hq3) (mw_kV hC q_779 q_781 q_22 q_107 q_782 ⟨rfl, rfl⟩ kV_X11_bestLulled ⟨Nat.le_of_ble_eq_true rfl, Nat.le_of_ble_eq_true rfl⟩) (Nat.le_of_ble_eq_true rfl) (eC_0 V) rfl rfl rfl (Nat.le_of_ble_eq_true rfl) hl.1 dX11_whom_11 (fun H locs hM _ => ?_)
    refine lv_goto (tgt := 18) hC.1 hC.2.1 dX11_whom_14 (by decide) ?_
    exact hret (o_r1 hf) (o_r2 hf hM) dX11_whom_18
set_option maxHeartbeats 4000000 in
set_option maxRecDepth 100000 in
theorem mcX11_apart (V : mV) (l : Launch) (M : mM) (p0 : Int32) (p1 : Int32) (r : Int32) (hf : fX11_apart M p0 p1 = some r) : IC V l yX11_apart cX11_apart 3 ({ frames := 1, cells := 0, slots := 0, locals := 30 } : Room) [.int p0, .int p1] M r M := by
  unfold fX11_apart at hf
  refine mw_enterI RX11 rfl (by decide +kernel) (Nat.le_of_ble_eq_true rfl) (fun {p e s m args below meth c} ls A Q hC hret hM hl => ?_)
  have hl : lv_has ls 3 [(0, .int p0), (1, .int p1)] := hl
  refine lv_iload_n hC.1 hC.2.1 dX11_apart_0 rfl (lv_at hl 1 rfl) ?_
  refine lv_iload_n hC.1 hC.2.1 dX11_apart_1 rfl (lv_at hl 0 rfl) ?_
  refine lv_isub hC.1 hC.2.1 dX11_apart_2 ?_
  refine lv_bipush hC.1 hC.2.1 dX11_apart_3 cb_24 ?_
  obtain ⟨r1, hq2, hf⟩ := o_b hf
  refine mw_cSi (As := [.int (p1 - p0), .int 24]) (rest := []) hC hM (mcJ9_floorMod_7cf53C V l M (p1 - p0) 24 r1 hq2) (mw_kS hC q_493 q_494 q_121 q_495 ⟨rfl, rfl⟩ kS_J9_floorMod_7cf53 ⟨Nat.le_of_ble_eq_true rfl, Nat.le_of_ble_eq_true rfl⟩) rfl rfl (Nat.le_of_ble_eq_true rfl) hl.1 dX11_apart_5 (fun H locs hM _ => ?_)
  refine lv_istore_n (lv' := [(2, .int r1), (0, .int p0), (1, .int p1)]) hC.1 hC.2.1 dX11_apart_8 rfl hl (Nat.le_of_ble_eq_true rfl) rfl (fun ls hl => ?_)
  refine lv_iload_n hC.1 hC.2.1 dX11_apart_9 rfl (lv_at hl 0 rfl) ?_
  refine lv_bipush hC.1 hC.2.1 dX11_apart_10 cb_24 ?_
  refine lv_iload_n hC.1 hC.2.1 dX11_apart_12 rfl (lv_at hl 0 rfl) ?_
  refine lv_isub hC.1 hC.2.1 dX11_apart_13 ?_
  refine mw_min hC hl.1 q_813 q_814 q_121 q_815 (Nat.le_of_ble_eq_true rfl) (Nat.le_of_ble_eq_true rfl) dX11_apart_14 ?_
  exact hret (Option.some.inj hf) hM dX11_apart_17
set_option maxHeartbeats 4000000 in
set_option maxRecDepth 100000 in
theorem mcX11_missBehind (V : mV) (l : Launch) (M : mM) (p1 : Int32) (p2 : Int32) (r : Int32) (hf : fX11_missBehind M p1 p2 = some r) : IC V l yX11_missBehind cX11_missBehind 3 ({ frames := 2, cells := 0, slots := 0, locals := 52 } : Room) [.ref (mvA V 0), .int p1, .int p2] M r M := by
  unfold fX11_missBehind at hf
  refine mw_enterI RX11 rfl (by decide +kernel) (Nat.le_of_ble_eq_true rfl) (fun {p e s m args below meth c} ls A Q hC hret hM hl => ?_)
  have hl : lv_has ls 3 [(0, .ref (mvA V 0)), (1, .int p1), (2, .int p2)] := hl
  refine lv_aload_n hC.1 hC.2.1 dX11_missBehind_0 rfl (lv_at hl 0 rfl) ?_
  refine mw_get (v := .ref (mvA V 1)) hC hM 0 (Nat.le_of_ble_eq_true rfl) (eC_0 V) inW11 rfl 0 (by decide) q_424 (fun _ h9 => h9) rfl dX11_missBehind_1 ?_
  refine mw_get (v := .int (M 1 6)) hC hM 1 (Nat.le_of_ble_eq_true rfl) (eC_1 V) inW4 rfl 6 (by decide) q_219 (fun _ h9 => h9) rfl dX11_missBehind_4 ?_
  refine lv_iload_n hC.1 hC.2.1 dX11_missBehind_7 rfl (lv_at hl 2 rfl) ?_
  refine lv_aload_n hC.1 hC.2.1 dX11_missBehind_8 rfl (lv_at hl 0 rfl) ?_
  refine mw_get (v := .ref (mvA V 1)) hC hM 0 (Nat.le_of_ble_eq_true rfl) (eC_0 V) inW11 rfl 0 (by decide) q_424 (fun _ h9 => h9) rfl dX11_missBehind_9 ?_
  refine mw_get (v := .int (M 1 8)) hC hM 1 (Nat.le_of_ble_eq_true rfl) (eC_1 V) inW4 rfl 8 (by decide) q_223 (fun _ h9 => h9) rfl dX11_missBehind_12 ?_
  refine mw_cSi (As := [.int p2, .int (M 1 8)]) (rest := [.int (M 1 6)]) hC hM (mcX11_turnOf V l M p2 (M 1 8) _ rfl) (mw_kS hC q_740 q_741 q_107 q_742 ⟨rfl, rfl⟩ kS_X11_turnOf ⟨Nat.le_of_ble_eq_true rfl, Nat.le_of_ble_eq_true rfl⟩) rfl rfl (Nat.le_of_ble_eq_true rfl) hl.1 dX11_missBehind_15 (fun H locs hM _ => ?_)
  obtain ⟨r1, hq2, hf⟩ := o_b hf
  refine mw_cSi (As := [.int (M 1 6), .int (fX11_turnOf p2 (M 1 8))]) (rest := []) hC hM (mcX11_moved V l M (M 1 6) (fX11_turnOf p2 (M 1 8)) r1 hq2) (mw_kS hC q_762 q_748 q_107 q_749 ⟨rfl, rfl⟩ kS_X11_moved ⟨Nat.le_of_ble_eq_true rfl, Nat.le_of_ble_eq_true rfl⟩) rfl rfl (Nat.le_of_ble_eq_true rfl) hl.1 dX11_missBehind_18 (fun H locs hM _ => ?_)
  refine lv_aload_n hC.1 hC.2.1 dX11_missBehind_21 rfl (lv_at hl 0 rfl) ?_
  refine mw_get (v := .ref (mvA V 1)) hC hM 0 (Nat.le_of_ble_eq_true rfl) (eC_0 V) inW11 rfl 0 (by decide) q_424 (fun _ h9 => h9) rfl dX11_missBehind_22 ?_
  refine mw_get (v := .ref (mvA V 3)) hC hM 1 (Nat.le_of_ble_eq_true rfl) (eC_1 V) inW4 rfl 2 (by decide) q_211 (fun _ h9 => h9) rfl dX11_missBehind_25 ?_
  refine lv_iload_n hC.1 hC.2.1 dX11_missBehind_28 rfl (lv_at hl 1 rfl) ?_
  obtain ⟨hg3, hf⟩ := o_g hf
  refine mw_iald hC hM 3 0 (Nat.le_of_ble_eq_true rfl) (eC_3 V) rfl hg3 dX11_missBehind_29 ?_
  obtain ⟨r4, hq5, hf⟩ := o_b hf
  refine mw_cSi (As := [.int r1, .int (M 3 (Int32.toNatClampNeg p1))]) (rest := []) hC hM (mcX11_apart V l M r1 (M 3 (Int32.toNatClampNeg p1)) r4 hq5) (mw_kS hC q_810 q_811 q_107 q_812 ⟨rfl, rfl⟩ kS_X11_apart ⟨Nat.le_of_ble_eq_true rfl, Nat.le_of_ble_eq_true rfl⟩) rfl rfl (Nat.le_of_ble_eq_true rfl) hl.1 dX11_missBehind_30 (fun H locs hM _ => ?_)
  exact hret (Option.some.inj hf) hM dX11_missBehind_33
set_option maxHeartbeats 4000000 in
set_option maxRecDepth 100000 in
theorem mcX11_gainsByLying (V : mV) (l : Launch) (M : mM) (p1 : Int32) (r : Int32) (M' : mM) (hf : fX11_gainsByLying M p1 = some (r, M')) : ZC V l yX11_gainsByLying cX11_gainsByLying 6 ({ frames := 4, cells := 0, slots := 0, locals := 103 } : Room) [.ref (mvA V 0), .int p1] M r M' := by
  unfold fX11_gainsByLying at hf
  refine mw_enterZ RX11 rfl (by decide +kernel) (Nat.le_of_ble_eq_true rfl) (fun {p e s m args below meth c} ls A Q hC hret hM hl => ?_)
  have hl : lv_has ls 6 [(0, .ref (mvA V 0)), (1, .int p1)] := hl
  have hL63 : ∀ (n : Nat) (M : mM) (x1 : Int32) (x2 : Int32) (x3 : Int32) (x4 : Int32) (x5 : Int32) (H : Heap) (locs : List Loc) (ls : Array Slot), fX11_gainsByLying_L63 n M x1 x2 x3 x4 x5 = some (r, M') → PC V M A s H locs → lv_has ls 6 [(0, .ref (mvA V 0)), (1, .int x1), (2, .int x2), (3, .int x3), (4, .int x4), (5, .int x5)] → W p l e ({ frames := 4, cells := 0, slots := 0, locals := 103 } : Room) s m args below meth c H locs 0 0 Q (F0 m 63 ls []) := by
    intro n33
    induction n33 with
    | zero => intro M x1 x2 x3 x4 x5 H locs ls hf; cases hf
    | succ n33 ih33 =>
      intro M x1 x2 x3 x4 x5 H locs ls hf hM hl
      have hf : fX11_gainsByLying_L63_b (fX11_gainsByLying_L63 n33) M x1 x2 x3 x4 x5 = some (r, M') := hf
      unfold fX11_gainsByLying_L63_b at hf
      refine lv_iload hC.1 hC.2.1 dX11_gainsByLying_63 (lv_at hl 5 rfl) ?_
      refine lv_iconst hC.1 hC.2.1 dX11_gainsByLying_65 ci_1 ?_
      refine lv_icmp_gt (tgt := 98) hC.1 hC.2.1 dX11_gainsByLying_66 (by decide) (fun hc14 => ?_) (fun hc14 => ?_)
      · have hf := o_t hc14 hf
        refine lv_iconst hC.1 hC.2.1 dX11_gainsByLying_98 ci_0 ?_
        exact hret (o_r1 hf) (Or.inl rfl) (o_r2 hf hM) dX11_gainsByLying_99
      · have hf := o_f hc14 hf
        refine lv_aload_n hC.1 hC.2.1 dX11_gainsByLying_69 rfl (lv_at hl 0 rfl) ?_
        refine lv_iload_n hC.1 hC.2.1 dX11_gainsByLying_70 rfl (lv_at hl 1 rfl) ?_
        refine lv_iload hC.1 hC.2.1 dX11_gainsByLying_71 (lv_at hl 4 rfl) ?_
        refine lv_iload hC.1 hC.2.1 dX11_gainsByLying_73 (lv_at hl 5 rfl) ?_
        refine lv_iload_n hC.1 hC.2.1 dX11_gainsByLying_75 rfl (lv_at hl 2 rfl) ?_
        refine lv_imul hC.1 hC.2.1 dX11_gainsByLying_76 ?_
        refine lv_iadd hC.1 hC.2.1 dX11_gainsByLying_77 ?_
        obtain ⟨r9, hq10, hf⟩ := o_b hf
        refine mw_cVi (As := [.int x1, .int (x4 + (x5 * x2))]) (rest := []) hC hM (mcX11_missBehind V l M x1 (x4 + (x5 * x2)) r9 hq10) (mw_kV hC q_806 q_808 q_26 q_107 q_809 ⟨rfl, rfl⟩ kV_X11_missBehind ⟨Nat.le_of_ble_eq_true rfl, Nat.le_of_ble_eq_true rfl⟩) (Nat.le_of_ble_eq_true rfl) (eC_0 V) rfl rfl rfl (Nat.le_of_ble_eq_true rfl) hl.1 dX11_gainsByLying_78 (fun H locs hM _ => ?_)
        refine lv_aload_n hC.1 hC.2.1 dX11_gainsByLying_81 rfl (lv_at hl 0 rfl) ?_
        refine lv_iload_n hC.1 hC.2.1 dX11_gainsByLying_82 rfl (lv_at hl 1 rfl) ?_
        refine lv_iload_n hC.1 hC.2.1 dX11_gainsByLying_83 rfl (lv_at hl 3 rfl) ?_
        obtain ⟨r11, hq12, hf⟩ := o_b hf
        refine mw_cVi (As := [.int x1, .int x3]) (rest := [.int r9]) hC hM (mcX11_missBehind V l M x1 x3 r11 hq12) (mw_kV hC q_806 q_808 q_26 q_107 q_809 ⟨rfl, rfl⟩ kV_X11_missBehind ⟨Nat.le_of_ble_eq_true rfl, Nat.le_of_ble_eq_true rfl⟩) (Nat.le_of_ble_eq_true rfl) (eC_0 V) rfl rfl rfl (Nat.le_of_ble_eq_true rfl) hl.1 dX11_gainsByLying_84 (fun H locs hM _ => ?_)
        refine lv_icmp_ge (tgt := 92) hC.1 hC.2.1 dX11_gainsByLying_87 (by decide) (fun hc13 => ?_) (fun hc13 => ?_)
        · have hf := o_t hc13 hf
          refine lv_iinc (k := 5) (lv' := [(5, .int (x5 + 1)), (0, .ref (mvA V 0)), (1, .int x1), (2, .int x2), (3, .int x3), (4, .int x4)]) hC.1 hC.2.1 dX11_gainsByLying_92 hl rfl (inc_1 _) (Nat.le_of_ble_eq_true rfl) rfl (fun ls hl => ?_)
          refine lv_goto (tgt := 63) hC.1 hC.2.1 dX11_gainsByLying_95 (by decide) ?_
          exact ih33 _ _ _ _ _ _ _ _ _ hf hM (lv_sub hl [1, 2, 3, 4, 5, 0] rfl)
        · have hf := o_f hc13 hf
          refine lv_iconst hC.1 hC.2.1 dX11_gainsByLying_90 ci_1 ?_
          exact hret (o_r1 hf) (Or.inr rfl) (o_r2 hf hM) dX11_gainsByLying_91
  refine lv_aload_n hC.1 hC.2.1 dX11_gainsByLying_0 rfl (lv_at hl 0 rfl) ?_
  refine lv_iload_n hC.1 hC.2.1 dX11_gainsByLying_1 rfl (lv_at hl 1 rfl) ?_
  refine lv_aload_n hC.1 hC.2.1 dX11_gainsByLying_2 rfl (lv_at hl 0 rfl) ?_
  refine mw_get (v := .ref (mvA V 1)) hC hM 0 (Nat.le_of_ble_eq_true rfl) (eC_0 V) inW11 rfl 0 (by decide) q_424 (fun _ h9 => h9) rfl dX11_gainsByLying_3 ?_
  refine mw_get (v := .int (M 1 6)) hC hM 1 (Nat.le_of_ble_eq_true rfl) (eC_1 V) inW4 rfl 6 (by decide) q_219 (fun _ h9 => h9) rfl dX11_gainsByLying_6 ?_
  refine lv_aload_n hC.1 hC.2.1 dX11_gainsByLying_9 rfl (lv_at hl 0 rfl) ?_
  refine mw_get (v := .ref (mvA V 1)) hC hM 0 (Nat.le_of_ble_eq_true rfl) (eC_0 V) inW11 rfl 0 (by decide) q_424 (fun _ h9 => h9) rfl dX11_gainsByLying_10 ?_
  refine mw_get (v := .int (M 1 5)) hC hM 1 (Nat.le_of_ble_eq_true rfl) (eC_1 V) inW4 rfl 5 (by decide) q_216 (fun _ h9 => h9) rfl dX11_gainsByLying_13 ?_
  refine mw_cSi (As := [.int (M 1 5)]) (rest := [.int (M 1 6), .int p1, .ref (mvA V 0)]) hC hM (mcJ6_bitCount_0f7a4C V l M (M 1 5) _ rfl) (mw_kS hC q_496 q_497 q_122 q_498 ⟨rfl, rfl⟩ kS_J6_bitCount_0f7a4 ⟨Nat.le_of_ble_eq_true rfl, Nat.le_of_ble_eq_true rfl⟩) rfl rfl (Nat.le_of_ble_eq_true rfl) hl.1 dX11_gainsByLying_16 (fun H locs hM _ => ?_)
  obtain ⟨r1, M3, hq2, hf⟩ := o_b2 hf
  refine mw_cVi (As := [.int p1, .int (M 1 6), .int (fJ6_bitCount_0f7a4C (M 1 5))]) (rest := []) hC hM (mcX11_powerAt V l M p1 (M 1 6) (fJ6_bitCount_0f7a4C (M 1 5)) r1 M3 hq2) (mw_kV hC q_502 q_504 q_4 q_107 q_505 ⟨rfl, rfl⟩ kV_X11_powerAt ⟨Nat.le_of_ble_eq_true rfl, Nat.le_of_ble_eq_true rfl⟩) (Nat.le_of_ble_eq_true rfl) (eC_0 V) rfl rfl rfl (Nat.le_of_ble_eq_true rfl) hl.1 dX11_gainsByLying_19 (fun H locs hM _ => ?_)
  refine lv_istore_n (lv' := [(2, .int r1), (0, .ref (mvA V 0)), (1, .int p1)]) hC.1 hC.2.1 dX11_gainsByLying_22 rfl hl (Nat.le_of_ble_eq_true rfl) rfl (fun ls hl => ?_)
  refine lv_aload_n hC.1 hC.2.1 dX11_gainsByLying_23 rfl (lv_at hl 1 rfl) ?_
  refine lv_aload_n hC.1 hC.2.1 dX11_gainsByLying_24 rfl (lv_at hl 1 rfl) ?_
  refine mw_get (v := .ref (mvA V 1)) hC hM 0 (Nat.le_of_ble_eq_true rfl) (eC_0 V) inW11 rfl 0 (by decide) q_424 (fun _ h9 => h9) rfl dX11_gainsByLying_25 ?_
  refine mw_get (v := .int (M3 1 6)) hC hM 1 (Nat.le_of_ble_eq_true rfl) (eC_1 V) inW4 rfl 6 (by decide) q_219 (fun _ h9 => h9) rfl dX11_gainsByLying_28 ?_
  refine lv_aload_n hC.1 hC.2.1 dX11_gainsByLying_31 rfl (lv_at hl 1 rfl) ?_
  refine mw_get (v := .ref (mvA V 1)) hC hM 0 (Nat.le_of_ble_eq_true rfl) (eC_0 V) inW11 rfl 0 (by decide) q_424 (fun _ h9 => h9) rfl dX11_gainsByLying_32 ?_
  refine mw_get (v := .int (M3 1 5)) hC hM 1 (Nat.le_of_ble_eq_true rfl) (eC_1 V) inW4 rfl 5 (by decide) q_216 (fun _ h9 => h9) rfl dX11_gainsByLying_35 ?_
  obtain ⟨r4, M6, hq5, hf⟩ := o_b2 hf
  refine mw_cVi (As := [.int (M3 1 6), .int (M3 1 5)]) (rest := []) hC hM (mcX11_sumAt V l M3 (M3 1 6) (M3 1 5) r4 M6 hq5) (mw_kV hC q_728 q_730 q_17 q_107 q_731 ⟨rfl, rfl⟩ kV_X11_sumAt ⟨Nat.le_of_ble_eq_true rfl, Nat.le_of_ble_eq_true rfl⟩) (Nat.le_of_ble_eq_true rfl) (eC_0 V) rfl rfl rfl (Nat.le_of_ble_eq_true rfl) hl.1 dX11_gainsByLying_38 (fun H locs hM _ => ?_)
  refine lv_istore_n (lv' := [(3, .int r4), (2, .int r1), (0, .ref (mvA V 0)), (1, .int p1)]) hC.1 hC.2.1 dX11_gainsByLying_41 rfl hl (Nat.le_of_ble_eq_true rfl) rfl (fun ls hl => ?_)
  refine lv_iload_n hC.1 hC.2.1 dX11_gainsByLying_42 rfl (lv_at hl 0 rfl) ?_
  refine lv_aload_n hC.1 hC.2.1 dX11_gainsByLying_43 rfl (lv_at hl 2 rfl) ?_
  refine lv_iload_n hC.1 hC.2.1 dX11_gainsByLying_44 rfl (lv_at hl 3 rfl) ?_
  refine lv_aload_n hC.1 hC.2.1 dX11_gainsByLying_45 rfl (lv_at hl 2 rfl) ?_
  refine mw_get (v := .ref (mvA V 1)) hC hM 0 (Nat.le_of_ble_eq_true rfl) (eC_0 V) inW11 rfl 0 (by decide) q_424 (fun _ h9 => h9) rfl dX11_gainsByLying_46 ?_
  refine mw_get (v := .int (M6 1 6)) hC hM 1 (Nat.le_of_ble_eq_true rfl) (eC_1 V) inW4 rfl 6 (by decide) q_219 (fun _ h9 => h9) rfl dX11_gainsByLying_49 ?_
  obtain ⟨r7, hq8, hf⟩ := o_b hf
  refine mw_cVi (As := [.int p1, .int (M6 1 6)]) (rest := [.int r4]) hC hM (mcX11_voteAt V l M6 p1 (M6 1 6) r7 hq8) (mw_kV hC q_489 q_491 q_3 q_107 q_492 ⟨rfl, rfl⟩ kV_X11_voteAt ⟨Nat.le_of_ble_eq_true rfl, Nat.le_of_ble_eq_true rfl⟩) (Nat.le_of_ble_eq_true rfl) (eC_0 V) rfl rfl rfl (Nat.le_of_ble_eq_true rfl) hl.1 dX11_gainsByLying_52 (fun H locs hM _ => ?_)
  refine lv_iload_n hC.1 hC.2.1 dX11_gainsByLying_55 rfl (lv_at hl 1 rfl) ?_
  refine lv_imul hC.1 hC.2.1 dX11_gainsByLying_56 ?_
  refine lv_isub hC.1 hC.2.1 dX11_gainsByLying_57 ?_
  refine lv_istore (lv' := [(4, .int (r4 - (r7 * r1))), (3, .int r4), (2, .int r1), (0, .ref (mvA V 0)), (1, .int p1)]) hC.1 hC.2.1 dX11_gainsByLying_58 hl (Nat.le_of_ble_eq_true rfl) rfl (fun ls hl => ?_)
  refine lv_iconst hC.1 hC.2.1 dX11_gainsByLying_60 ci_m1 ?_
  refine lv_istore (lv' := [(5, .int (-1)), (4, .int (r4 - (r7 * r1))), (3, .int r4), (2, .int r1), (0, .ref (mvA V 0)), (1, .int p1)]) hC.1 hC.2.1 dX11_gainsByLying_61 hl (Nat.le_of_ble_eq_true rfl) rfl (fun ls hl => ?_)
  exact hL63 _ _ _ _ _ _ _ _ _ _ hf hM (lv_sub hl [4, 5, 3, 2, 1, 0] rfl)
set_option maxHeartbeats 4000000 in
set_option maxRecDepth 100000 in
theorem mcX11_liars (V : mV) (l : Launch) (M : mM) (r : Int32) (M' : mM) (hf : fX11_liars M = some (r, M')) : IC V l yX11_liars cX11_liars 3 ({ frames := 5, cells := 0, slots := 0, locals := 128 } : Room) [.ref (mvA V 0)] M r M' := by
  unfold fX11_liars at hf
  refine mw_enterI RX11 rfl (by decide +kernel) (Nat.le_of_ble_eq_true rfl) (fun {p e s m args below meth c} ls A Q hC hret hM hl => ?_)
  have hl : lv_has ls 3 [(0, .ref (mvA V 0))] := hl
  have hL4 : ∀ (n : Nat) (M : mM) (x1 : Int32) (x2 : Int32) (H : Heap) (locs : List Loc) (ls : Array Slot), fX11_liars_L4 n M x1 x2 = some (r, M') → PC V M A s H locs → lv_has ls 3 [(0, .ref (mvA V 0)), (1, .int x1), (2, .int x2)] → W p l e ({ frames := 5, cells := 0, slots := 0, locals := 128 } : Room) s m args below meth c H locs 0 0 Q (F0 m 4 ls []) := by
    intro n4
    induction n4 with
    | zero => intro M x1 x2 H locs ls hf; cases hf
    | succ n4 ih4 =>
      intro M x1 x2 H locs ls hf hM hl
      have hf : fX11_liars_L4_b (fX11_liars_L4 n4) M x1 x2 = some (r, M') := hf
      unfold fX11_liars_L4_b at hf
      refine lv_iload_n hC.1 hC.2.1 dX11_liars_4 rfl (lv_at hl 2 rfl) ?_
      refine lv_aload_n hC.1 hC.2.1 dX11_liars_5 rfl (lv_at hl 0 rfl) ?_
      refine mw_get (v := .ref (mvA V 1)) hC hM 0 (Nat.le_of_ble_eq_true rfl) (eC_0 V) inW11 rfl 0 (by decide) q_424 (fun _ h9 => h9) rfl dX11_liars_6 ?_
      refine mw_get (v := .int (M 1 0)) hC hM 1 (Nat.le_of_ble_eq_true rfl) (eC_1 V) inW4 rfl 0 (by decide) q_206 (fun _ h9 => h9) rfl dX11_liars_9 ?_
      refine lv_icmp_ge (tgt := 43) hC.1 hC.2.1 dX11_liars_12 (by decide) (fun hc8 => ?_) (fun hc8 => ?_)
      · have hf := o_t hc8 hf
        refine lv_iload_n hC.1 hC.2.1 dX11_liars_43 rfl (lv_at hl 1 rfl) ?_
        exact hret (o_r1 hf) (o_r2 hf hM) dX11_liars_44
      · have hf := o_f hc8 hf
        refine lv_aload_n hC.1 hC.2.1 dX11_liars_15 rfl (lv_at hl 0 rfl) ?_
        refine lv_iload_n hC.1 hC.2.1 dX11_liars_16 rfl (lv_at hl 2 rfl) ?_
        refine mw_cVi (As := [.int x2]) (rest := []) hC hM (mcX11_isAwake V l M x2 _ rfl) (mw_kV hC q_485 q_487 q_2 q_107 q_488 ⟨rfl, rfl⟩ kV_X11_isAwake ⟨Nat.le_of_ble_eq_true rfl, Nat.le_of_ble_eq_true rfl⟩) (Nat.le_of_ble_eq_true rfl) (eC_0 V) rfl rfl rfl (Nat.le_of_ble_eq_true rfl) hl.1 dX11_liars_17 (fun H locs hM hb1 => ?_)
        refine lv_if_eq (tgt := 37) hC.1 hC.2.1 dX11_liars_20 (by decide) (fun hc7 => ?_) (fun hc7 => ?_)
        · have hf := o_t hc7 hf
          refine lv_iinc (k := 2) (lv' := [(2, .int (x2 + 1)), (0, .ref (mvA V 0)), (1, .int x1)]) hC.1 hC.2.1 dX11_liars_37 hl rfl (inc_1 _) (Nat.le_of_ble_eq_true rfl) rfl (fun ls hl => ?_)
          refine lv_goto (tgt := 4) hC.1 hC.2.1 dX11_liars_40 (by decide) ?_
          exact ih4 _ _ _ _ _ _ hf hM (lv_sub hl [1, 2, 0] rfl)
        · have hf := o_f hc7 hf
          refine lv_aload_n hC.1 hC.2.1 dX11_liars_23 rfl (lv_at hl 0 rfl) ?_
          refine lv_iload_n hC.1 hC.2.1 dX11_liars_24 rfl (lv_at hl 2 rfl) ?_
          obtain ⟨r2, M4, hq3, hf⟩ := o_b2 hf
          refine mw_cVi (As := [.int x2]) (rest := []) hC hM (mcX11_gainsByLying V l M x2 r2 M4 hq3) (mw_kV hC q_802 q_804 q_25 q_107 q_805 ⟨rfl, rfl⟩ kV_X11_gainsByLying ⟨Nat.le_of_ble_eq_true rfl, Nat.le_of_ble_eq_true rfl⟩) (Nat.le_of_ble_eq_true rfl) (eC_0 V) rfl rfl rfl (Nat.le_of_ble_eq_true rfl) hl.1 dX11_liars_25 (fun H locs hM hb5 => ?_)
          refine lv_if_eq (tgt := 37) hC.1 hC.2.1 dX11_liars_28 (by decide) (fun hc6 => ?_) (fun hc6 => ?_)
          · have hf := o_t hc6 hf
            refine lv_iinc (k := 2) (lv' := [(2, .int (x2 + 1)), (0, .ref (mvA V 0)), (1, .int x1)]) hC.1 hC.2.1 dX11_liars_37 hl rfl (inc_1 _) (Nat.le_of_ble_eq_true rfl) rfl (fun ls hl => ?_)
            refine lv_goto (tgt := 4) hC.1 hC.2.1 dX11_liars_40 (by decide) ?_
            exact ih4 _ _ _ _ _ _ hf hM (lv_sub hl [1, 2, 0] rfl)
          · have hf := o_f hc6 hf
            refine lv_iload_n hC.1 hC.2.1 dX11_liars_31 rfl (lv_at hl 1 rfl) ?_
            refine lv_iconst hC.1 hC.2.1 dX11_liars_32 ci_1 ?_
            refine lv_iload_n hC.1 hC.2.1 dX11_liars_33 rfl (lv_at hl 2 rfl) ?_
            refine lv_ishl hC.1 hC.2.1 dX11_liars_34 ?_
            refine lv_ior hC.1 hC.2.1 dX11_liars_35 ?_
            refine lv_istore_n (lv' := [(1, .int (x1 ||| (1 <<< (x2 &&& 31)))), (0, .ref (mvA V 0)), (2, .int x2)]) hC.1 hC.2.1 dX11_liars_36 rfl hl (Nat.le_of_ble_eq_true rfl) rfl (fun ls hl => ?_)
            refine lv_iinc (k := 2) (lv' := [(2, .int (x2 + 1)), (1, .int (x1 ||| (1 <<< (x2 &&& 31)))), (0, .ref (mvA V 0))]) hC.1 hC.2.1 dX11_liars_37 hl rfl (inc_1 _) (Nat.le_of_ble_eq_true rfl) rfl (fun ls hl => ?_)
            refine lv_goto (tgt := 4) hC.1 hC.2.1 dX11_liars_40 (by decide) ?_
            exact ih4 _ _ _ _ _ _ hf hM (lv_sub hl [2, 1, 0] rfl)
  refine lv_iconst hC.1 hC.2.1 dX11_liars_0 ci_0 ?_
  refine lv_istore_n (lv' := [(1, .int 0), (0, .ref (mvA V 0))]) hC.1 hC.2.1 dX11_liars_1 rfl hl (Nat.le_of_ble_eq_true rfl) rfl (fun ls hl => ?_)
  refine lv_iconst hC.1 hC.2.1 dX11_liars_2 ci_0 ?_
  refine lv_istore_n (lv' := [(2, .int 0), (1, .int 0), (0, .ref (mvA V 0))]) hC.1 hC.2.1 dX11_liars_3 rfl hl (Nat.le_of_ble_eq_true rfl) rfl (fun ls hl => ?_)
  exact hL4 _ _ _ _ _ _ _ hf hM (lv_sub hl [2, 1, 0] rfl)
set_option maxHeartbeats 4000000 in
set_option maxRecDepth 100000 in
theorem mcX11_findPulls (V : mV) (l : Launch) (M : mM) (r : Int32) (M' : mM) (hf : fX11_findPulls M = some (r, M')) : UC V l yX11_findPulls cX11_findPulls 3 ({ frames := 3, cells := 0, slots := 0, locals := 78 } : Room) [.ref (mvA V 0)] M M' := by
  unfold fX11_findPulls at hf
  refine mw_enterV RX11 rfl (by decide +kernel) (Nat.le_of_ble_eq_true rfl) (fun {p e s m args below meth c} ls A Q hC hret hM hl => ?_)
  have hl : lv_has ls 3 [(0, .ref (mvA V 0))] := hl
  have hL13 : ∀ (n : Nat) (M : mM) (x1 : Int32) (x2 : Int32) (H : Heap) (locs : List Loc) (ls : Array Slot), fX11_findPulls_L13 n M x1 x2 = some (r, M') → PC V M A s H locs → lv_has ls 3 [(0, .ref (mvA V 0)), (1, .int x1), (2, .int x2)] → W p l e ({ frames := 3, cells := 0, slots := 0, locals := 78 } : Room) s m args below meth c H locs 0 0 Q (F0 m 13 ls []) := by
    intro n7
    induction n7 with
    | zero => intro M x1 x2 H locs ls hf; cases hf
    | succ n7 ih7 =>
      intro M x1 x2 H locs ls hf hM hl
      have hf : fX11_findPulls_L13_b (fX11_findPulls_L13 n7) M x1 x2 = some (r, M') := hf
      unfold fX11_findPulls_L13_b at hf
      refine lv_iload_n hC.1 hC.2.1 dX11_findPulls_13 rfl (lv_at hl 2 rfl) ?_
      refine lv_aload_n hC.1 hC.2.1 dX11_findPulls_14 rfl (lv_at hl 0 rfl) ?_
      refine mw_get (v := .ref (mvA V 1)) hC hM 0 (Nat.le_of_ble_eq_true rfl) (eC_0 V) inW11 rfl 0 (by decide) q_424 (fun _ h9 => h9) rfl dX11_findPulls_15 ?_
      refine mw_get (v := .int (M 1 0)) hC hM 1 (Nat.le_of_ble_eq_true rfl) (eC_1 V) inW4 rfl 0 (by decide) q_206 (fun _ h9 => h9) rfl dX11_findPulls_18 ?_
      refine lv_icmp_ge (tgt := 62) hC.1 hC.2.1 dX11_findPulls_21 (by decide) (fun hc7 => ?_) (fun hc7 => ?_)
      · have hf := o_t hc7 hf
        exact hret (o_r2 hf hM) dX11_findPulls_62
      · have hf := o_f hc7 hf
        refine lv_aload_n hC.1 hC.2.1 dX11_findPulls_24 rfl (lv_at hl 0 rfl) ?_
        refine mw_get (v := .ref (mvA V 64)) hC hM 0 (Nat.le_of_ble_eq_true rfl) (eC_0 V) inW11 rfl 8 (by decide) q_432 (fun _ h9 => h9) rfl dX11_findPulls_25 ?_
        refine lv_iload_n hC.1 hC.2.1 dX11_findPulls_28 rfl (lv_at hl 2 rfl) ?_
        refine lv_aload_n hC.1 hC.2.1 dX11_findPulls_29 rfl (lv_at hl 0 rfl) ?_
        refine lv_iload_n hC.1 hC.2.1 dX11_findPulls_30 rfl (lv_at hl 2 rfl) ?_
        refine lv_aload_n hC.1 hC.2.1 dX11_findPulls_31 rfl (lv_at hl 0 rfl) ?_
        refine mw_get (v := .ref (mvA V 1)) hC hM 0 (Nat.le_of_ble_eq_true rfl) (eC_0 V) inW11 rfl 0 (by decide) q_424 (fun _ h9 => h9) rfl dX11_findPulls_32 ?_
        refine mw_get (v := .int (M 1 6)) hC hM 1 (Nat.le_of_ble_eq_true rfl) (eC_1 V) inW4 rfl 6 (by decide) q_219 (fun _ h9 => h9) rfl dX11_findPulls_35 ?_
        obtain ⟨r1, hq2, hf⟩ := o_b hf
        refine mw_cVi (As := [.int x2, .int (M 1 6)]) (rest := [.int x2, .ref (mvA V 64)]) hC hM (mcX11_voteAt V l M x2 (M 1 6) r1 hq2) (mw_kV hC q_489 q_491 q_3 q_107 q_492 ⟨rfl, rfl⟩ kV_X11_voteAt ⟨Nat.le_of_ble_eq_true rfl, Nat.le_of_ble_eq_true rfl⟩) (Nat.le_of_ble_eq_true rfl) (eC_0 V) rfl rfl rfl (Nat.le_of_ble_eq_true rfl) hl.1 dX11_findPulls_38 (fun H locs hM _ => ?_)
        refine lv_aload_n hC.1 hC.2.1 dX11_findPulls_41 rfl (lv_at hl 0 rfl) ?_
        refine lv_iload_n hC.1 hC.2.1 dX11_findPulls_42 rfl (lv_at hl 2 rfl) ?_
        refine lv_aload_n hC.1 hC.2.1 dX11_findPulls_43 rfl (lv_at hl 0 rfl) ?_
        refine mw_get (v := .ref (mvA V 1)) hC hM 0 (Nat.le_of_ble_eq_true rfl) (eC_0 V) inW11 rfl 0 (by decide) q_424 (fun _ h9 => h9) rfl dX11_findPulls_44 ?_
        refine mw_get (v := .int (M 1 6)) hC hM 1 (Nat.le_of_ble_eq_true rfl) (eC_1 V) inW4 rfl 6 (by decide) q_219 (fun _ h9 => h9) rfl dX11_findPulls_47 ?_
        refine lv_iload_n hC.1 hC.2.1 dX11_findPulls_50 rfl (lv_at hl 1 rfl) ?_
        obtain ⟨r3, M5, hq4, hf⟩ := o_b2 hf
        refine mw_cVi (As := [.int x2, .int (M 1 6), .int x1]) (rest := [.int r1, .int x2, .ref (mvA V 64)]) hC hM (mcX11_powerAt V l M x2 (M 1 6) x1 r3 M5 hq4) (mw_kV hC q_502 q_504 q_4 q_107 q_505 ⟨rfl, rfl⟩ kV_X11_powerAt ⟨Nat.le_of_ble_eq_true rfl, Nat.le_of_ble_eq_true rfl⟩) (Nat.le_of_ble_eq_true rfl) (eC_0 V) rfl rfl rfl (Nat.le_of_ble_eq_true rfl) hl.1 dX11_findPulls_51 (fun H locs hM _ => ?_)
        refine lv_imul hC.1 hC.2.1 dX11_findPulls_54 ?_
        obtain ⟨hg6, hf⟩ := o_g hf
        refine mw_iast hC hM 64 0 (Nat.le_of_ble_eq_true rfl) (eC_64 V) rfl hg6 dX11_findPulls_55 (fun H locs hM => ?_)
        refine lv_iinc (k := 2) (lv' := [(2, .int (x2 + 1)), (0, .ref (mvA V 0)), (1, .int x1)]) hC.1 hC.2.1 dX11_findPulls_56 hl rfl (inc_1 _) (Nat.le_of_ble_eq_true rfl) rfl (fun ls hl => ?_)
        refine lv_goto (tgt := 13) hC.1 hC.2.1 dX11_findPulls_59 (by decide) ?_
        exact ih7 _ _ _ _ _ _ hf hM (lv_sub hl [1, 2, 0] rfl)
  refine lv_aload_n hC.1 hC.2.1 dX11_findPulls_0 rfl (lv_at hl 0 rfl) ?_
  refine mw_get (v := .ref (mvA V 1)) hC hM 0 (Nat.le_of_ble_eq_true rfl) (eC_0 V) inW11 rfl 0 (by decide) q_424 (fun _ h9 => h9) rfl dX11_findPulls_1 ?_
  refine mw_get (v := .int (M 1 5)) hC hM 1 (Nat.le_of_ble_eq_true rfl) (eC_1 V) inW4 rfl 5 (by decide) q_216 (fun _ h9 => h9) rfl dX11_findPulls_4 ?_
  refine mw_cSi (As := [.int (M 1 5)]) (rest := []) hC hM (mcJ6_bitCount_0f7a4C V l M (M 1 5) _ rfl) (mw_kS hC q_496 q_497 q_122 q_498 ⟨rfl, rfl⟩ kS_J6_bitCount_0f7a4 ⟨Nat.le_of_ble_eq_true rfl, Nat.le_of_ble_eq_true rfl⟩) rfl rfl (Nat.le_of_ble_eq_true rfl) hl.1 dX11_findPulls_7 (fun H locs hM _ => ?_)
  refine lv_istore_n (lv' := [(1, .int (fJ6_bitCount_0f7a4C (M 1 5))), (0, .ref (mvA V 0))]) hC.1 hC.2.1 dX11_findPulls_10 rfl hl (Nat.le_of_ble_eq_true rfl) rfl (fun ls hl => ?_)
  refine lv_iconst hC.1 hC.2.1 dX11_findPulls_11 ci_0 ?_
  refine lv_istore_n (lv' := [(2, .int 0), (1, .int (fJ6_bitCount_0f7a4C (M 1 5))), (0, .ref (mvA V 0))]) hC.1 hC.2.1 dX11_findPulls_12 rfl hl (Nat.le_of_ble_eq_true rfl) rfl (fun ls hl => ?_)
  exact hL13 _ _ _ _ _ _ _ hf hM (lv_sub hl [2, 1, 0] rfl)
set_option maxHeartbeats 4000000 in
set_option maxRecDepth 100000 in
theorem mcX11_decides (V : mV) (l : Launch) (M : mM) (p1 : Int32) (p2 : Int32) (r : Int32) (hf : fX11_decides M p1 p2 = some r) : ZC V l yX11_decides cX11_decides 5 ({ frames := 1, cells := 0, slots := 0, locals := 21 } : Room) [.ref (mvA V 0), .int p1, .int p2] M r M := by
  unfold fX11_decides at hf
  refine mw_enterZ RX11 rfl (by decide +kernel) (Nat.le_of_ble_eq_true rfl) (fun {p e s m args below meth c} ls A Q hC hret hM hl => ?_)
  have hl : lv_has ls 5 [(0, .ref (mvA V 0)), (1, .int p1), (2, .int p2)] := hl
  have hL5 : ∀ (n : Nat) (x1 : Int32) (x2 : Int32) (x3 : Int32) (x4 : Int32) (H : Heap) (locs : List Loc) (ls : Array Slot), fX11_decides_L5 n M x1 x2 x3 x4 = some r → PC V M A s H locs → lv_has ls 5 [(0, .ref (mvA V 0)), (1, .int x1), (2, .int x2), (3, .int x3), (4, .int x4)] → W p l e ({ frames := 1, cells := 0, slots := 0, locals := 21 } : Room) s m args below meth c H locs 0 0 Q (F0 m 5 ls []) := by
    intro n4
    induction n4 with
    | zero => intro x1 x2 x3 x4 H locs ls hf; cases hf
    | succ n4 ih4 =>
      intro x1 x2 x3 x4 H locs ls hf hM hl
      have hf : fX11_decides_L5_b (fX11_decides_L5 n4) M x1 x2 x3 x4 = some r := hf
      unfold fX11_decides_L5_b at hf
      refine lv_iload hC.1 hC.2.1 dX11_decides_5 (lv_at hl 4 rfl) ?_
      refine lv_aload_n hC.1 hC.2.1 dX11_decides_7 rfl (lv_at hl 0 rfl) ?_
      refine mw_get (v := .ref (mvA V 1)) hC hM 0 (Nat.le_of_ble_eq_true rfl) (eC_0 V) inW11 rfl 0 (by decide) q_424 (fun _ h9 => h9) rfl dX11_decides_8 ?_
      refine mw_get (v := .int (M 1 0)) hC hM 1 (Nat.le_of_ble_eq_true rfl) (eC_1 V) inW4 rfl 0 (by decide) q_206 (fun _ h9 => h9) rfl dX11_decides_11 ?_
      refine lv_icmp_ge (tgt := 43) hC.1 hC.2.1 dX11_decides_14 (by decide) (fun hc5 => ?_) (fun hc5 => ?_)
      · have hf := o_t hc5 hf
        refine lv_iload_n hC.1 hC.2.1 dX11_decides_43 rfl (lv_at hl 3 rfl) ?_
        refine lv_aload_n hC.1 hC.2.1 dX11_decides_44 rfl (lv_at hl 0 rfl) ?_
        refine mw_get (v := .ref (mvA V 1)) hC hM 0 (Nat.le_of_ble_eq_true rfl) (eC_0 V) inW11 rfl 0 (by decide) q_424 (fun _ h9 => h9) rfl dX11_decides_45 ?_
        refine mw_get (v := .int (M 1 8)) hC hM 1 (Nat.le_of_ble_eq_true rfl) (eC_1 V) inW4 rfl 8 (by decide) q_223 (fun _ h9 => h9) rfl dX11_decides_48 ?_
        refine mw_cSi (As := [.int x3, .int (M 1 8)]) (rest := []) hC hM (mcX11_turnOf V l M x3 (M 1 8) _ rfl) (mw_kS hC q_740 q_741 q_107 q_742 ⟨rfl, rfl⟩ kS_X11_turnOf ⟨Nat.le_of_ble_eq_true rfl, Nat.le_of_ble_eq_true rfl⟩) rfl rfl (Nat.le_of_ble_eq_true rfl) hl.1 dX11_decides_51 (fun H locs hM _ => ?_)
        refine lv_iload_n hC.1 hC.2.1 dX11_decides_54 rfl (lv_at hl 3 rfl) ?_
        refine lv_aload_n hC.1 hC.2.1 dX11_decides_55 rfl (lv_at hl 0 rfl) ?_
        refine mw_get (v := .ref (mvA V 64)) hC hM 0 (Nat.le_of_ble_eq_true rfl) (eC_0 V) inW11 rfl 8 (by decide) q_432 (fun _ h9 => h9) rfl dX11_decides_56 ?_
        refine lv_iload_n hC.1 hC.2.1 dX11_decides_59 rfl (lv_at hl 1 rfl) ?_
        obtain ⟨hg1, hf⟩ := o_g hf
        refine mw_iald hC hM 64 0 (Nat.le_of_ble_eq_true rfl) (eC_64 V) rfl hg1 dX11_decides_60 ?_
        refine lv_iadd hC.1 hC.2.1 dX11_decides_61 ?_
        refine lv_aload_n hC.1 hC.2.1 dX11_decides_62 rfl (lv_at hl 0 rfl) ?_
        refine mw_get (v := .ref (mvA V 1)) hC hM 0 (Nat.le_of_ble_eq_true rfl) (eC_0 V) inW11 rfl 0 (by decide) q_424 (fun _ h9 => h9) rfl dX11_decides_63 ?_
        refine mw_get (v := .int (M 1 8)) hC hM 1 (Nat.le_of_ble_eq_true rfl) (eC_1 V) inW4 rfl 8 (by decide) q_223 (fun _ h9 => h9) rfl dX11_decides_66 ?_
        refine mw_cSi (As := [.int (x3 + (M 64 (Int32.toNatClampNeg x1))), .int (M 1 8)]) (rest := [.int (fX11_turnOf x3 (M 1 8))]) hC hM (mcX11_turnOf V l M (x3 + (M 64 (Int32.toNatClampNeg x1))) (M 1 8) _ rfl) (mw_kS hC q_740 q_741 q_107 q_742 ⟨rfl, rfl⟩ kS_X11_turnOf ⟨Nat.le_of_ble_eq_true rfl, Nat.le_of_ble_eq_true rfl⟩) rfl rfl (Nat.le_of_ble_eq_true rfl) hl.1 dX11_decides_69 (fun H locs hM _ => ?_)
        refine lv_icmp_eq (tgt := 79) hC.1 hC.2.1 dX11_decides_72 (by decide) (fun hc2 => ?_) (fun hc2 => ?_)
        · have hf := o_t hc2 hf
          refine lv_iconst hC.1 hC.2.1 dX11_decides_79 ci_0 ?_
          exact hret (Option.some.inj hf) (Or.inl rfl) hM dX11_decides_80
        · have hf := o_f hc2 hf
          refine lv_iconst hC.1 hC.2.1 dX11_decides_75 ci_1 ?_
          refine lv_goto (tgt := 80) hC.1 hC.2.1 dX11_decides_76 (by decide) ?_
          exact hret (Option.some.inj hf) (Or.inr rfl) hM dX11_decides_80
      · have hf := o_f hc5 hf
        refine lv_iload_n hC.1 hC.2.1 dX11_decides_17 rfl (lv_at hl 2 rfl) ?_
        refine lv_iload hC.1 hC.2.1 dX11_decides_18 (lv_at hl 4 rfl) ?_
        refine lv_ishr hC.1 hC.2.1 dX11_decides_20 ?_
        refine lv_iconst hC.1 hC.2.1 dX11_decides_21 ci_1 ?_
        refine lv_iand hC.1 hC.2.1 dX11_decides_22 ?_
        refine lv_iconst hC.1 hC.2.1 dX11_decides_23 ci_1 ?_
        refine lv_icmp_ne (tgt := 37) hC.1 hC.2.1 dX11_decides_24 (by decide) (fun hc4 => ?_) (fun hc4 => ?_)
        · have hf := o_f hc4 hf
          refine lv_iinc (k := 4) (lv' := [(4, .int (x4 + 1)), (0, .ref (mvA V 0)), (1, .int x1), (2, .int x2), (3, .int x3)]) hC.1 hC.2.1 dX11_decides_37 hl rfl (inc_1 _) (Nat.le_of_ble_eq_true rfl) rfl (fun ls hl => ?_)
          refine lv_goto (tgt := 5) hC.1 hC.2.1 dX11_decides_40 (by decide) ?_
          exact ih4 _ _ _ _ _ _ _ hf hM (lv_sub hl [1, 2, 3, 4, 0] rfl)
        · have hf := o_t hc4 hf
          refine lv_iload_n hC.1 hC.2.1 dX11_decides_27 rfl (lv_at hl 3 rfl) ?_
          refine lv_aload_n hC.1 hC.2.1 dX11_decides_28 rfl (lv_at hl 0 rfl) ?_
          refine mw_get (v := .ref (mvA V 64)) hC hM 0 (Nat.le_of_ble_eq_true rfl) (eC_0 V) inW11 rfl 8 (by decide) q_432 (fun _ h9 => h9) rfl dX11_decides_29 ?_
          refine lv_iload hC.1 hC.2.1 dX11_decides_32 (lv_at hl 4 rfl) ?_
          obtain ⟨hg3, hf⟩ := o_g hf
          refine mw_iald hC hM 64 0 (Nat.le_of_ble_eq_true rfl) (eC_64 V) rfl hg3 dX11_decides_34 ?_
          refine lv_iadd hC.1 hC.2.1 dX11_decides_35 ?_
          refine lv_istore_n (lv' := [(3, .int (x3 + (M 64 (Int32.toNatClampNeg x4)))), (0, .ref (mvA V 0)), (1, .int x1), (2, .int x2), (4, .int x4)]) hC.1 hC.2.1 dX11_decides_36 rfl hl (Nat.le_of_ble_eq_true rfl) rfl (fun ls hl => ?_)
          refine lv_iinc (k := 4) (lv' := [(4, .int (x4 + 1)), (3, .int (x3 + (M 64 (Int32.toNatClampNeg x4)))), (0, .ref (mvA V 0)), (1, .int x1), (2, .int x2)]) hC.1 hC.2.1 dX11_decides_37 hl rfl (inc_1 _) (Nat.le_of_ble_eq_true rfl) rfl (fun ls hl => ?_)
          refine lv_goto (tgt := 5) hC.1 hC.2.1 dX11_decides_40 (by decide) ?_
          exact ih4 _ _ _ _ _ _ _ hf hM (lv_sub hl [2, 3, 4, 1, 0] rfl)
  refine lv_iconst hC.1 hC.2.1 dX11_decides_0 ci_0 ?_
  refine lv_istore_n (lv' := [(3, .int 0), (0, .ref (mvA V 0)), (1, .int p1), (2, .int p2)]) hC.1 hC.2.1 dX11_decides_1 rfl hl (Nat.le_of_ble_eq_true rfl) rfl (fun ls hl => ?_)
  refine lv_iconst hC.1 hC.2.1 dX11_decides_2 ci_0 ?_
  refine lv_istore (lv' := [(4, .int 0), (3, .int 0), (0, .ref (mvA V 0)), (1, .int p1), (2, .int p2)]) hC.1 hC.2.1 dX11_decides_3 hl (Nat.le_of_ble_eq_true rfl) rfl (fun ls hl => ?_)
  exact hL5 _ _ _ _ _ _ _ _ hf hM (lv_sub hl [2, 3, 4, 1, 0] rfl)
set_option maxHeartbeats 4000000 in
set_option maxRecDepth 100000 in
theorem mcX11_power (V : mV) (l : Launch) (M : mM) (p1 : Int32) (r : Int32) (M' : mM) (hf : fX11_power M p1 = some (r, M')) : IC V l yX11_power cX11_power 4 ({ frames := 4, cells := 0, slots := 0, locals := 100 } : Room) [.ref (mvA V 0), .int p1] M r M' := by
  unfold fX11_power at hf
  refine mw_enterI RX11 rfl (by decide +kernel) (Nat.le_of_ble_eq_true rfl) (fun {p e s m args below meth c} ls A Q hC hret hM hl => ?_)
  have hl : lv_has ls 4 [(0, .ref (mvA V 0)), (1, .int p1)] := hl
  have hL28 : ∀ (n : Nat) (M : mM) (x1 : Int32) (x2 : Int32) (x3 : Int32) (H : Heap) (locs : List Loc) (ls : Array Slot), fX11_power_L28 n M x1 x2 x3 = some (r, M') → PC V M A s H locs → lv_has ls 4 [(0, .ref (mvA V 0)), (1, .int x1), (2, .int x2), (3, .int x3)] → W p l e ({ frames := 4, cells := 0, slots := 0, locals := 100 } : Room) s m args below meth c H locs 0 0 Q (F0 m 28 ls []) := by
    intro n18
    induction n18 with
    | zero => intro M x1 x2 x3 H locs ls hf; cases hf
    | succ n18 ih18 =>
      intro M x1 x2 x3 H locs ls hf hM hl
      have hf : fX11_power_L28_b (fX11_power_L28 n18) M x1 x2 x3 = some (r, M') := hf
      unfold fX11_power_L28_b at hf
      refine lv_iload_n hC.1 hC.2.1 dX11_power_28 rfl (lv_at hl 3 rfl) ?_
      refine lv_sipush hC.1 hC.2.1 dX11_power_29 cs_128 ?_
      refine lv_icmp_ge (tgt := 73) hC.1 hC.2.1 dX11_power_32 (by decide) (fun hc14 => ?_) (fun hc14 => ?_)
      · have hf := o_t hc14 hf
        refine lv_iload_n hC.1 hC.2.1 dX11_power_73 rfl (lv_at hl 2 rfl) ?_
        exact hret (o_r1 hf) (o_r2 hf hM) dX11_power_74
      · have hf := o_f hc14 hf
        refine lv_iload_n hC.1 hC.2.1 dX11_power_35 rfl (lv_at hl 3 rfl) ?_
        refine lv_aload_n hC.1 hC.2.1 dX11_power_36 rfl (lv_at hl 0 rfl) ?_
        refine mw_get (v := .ref (mvA V 1)) hC hM 0 (Nat.le_of_ble_eq_true rfl) (eC_0 V) inW11 rfl 0 (by decide) q_424 (fun _ h9 => h9) rfl dX11_power_37 ?_
        refine mw_get (v := .int (M 1 5)) hC hM 1 (Nat.le_of_ble_eq_true rfl) (eC_1 V) inW4 rfl 5 (by decide) q_216 (fun _ h9 => h9) rfl dX11_power_40 ?_
        refine lv_iconst hC.1 hC.2.1 dX11_power_43 ci_1 ?_
        refine lv_iload_n hC.1 hC.2.1 dX11_power_44 rfl (lv_at hl 1 rfl) ?_
        refine lv_ishl hC.1 hC.2.1 dX11_power_45 ?_
        refine lv_iconst hC.1 hC.2.1 dX11_power_46 ci_m1 ?_
        refine lv_ixor hC.1 hC.2.1 dX11_power_47 ?_
        refine lv_iand hC.1 hC.2.1 dX11_power_48 ?_
        refine mw_cSi (As := [.int x3, .int ((M 1 5) &&& ((1 <<< (x1 &&& 31)) ^^^ (-1)))]) (rest := []) hC hM (mcX11_isWithin V l M x3 ((M 1 5) &&& ((1 <<< (x1 &&& 31)) ^^^ (-1))) _ rfl) (mw_kS hC q_783 q_784 q_107 q_785 ⟨rfl, rfl⟩ kS_X11_isWithin ⟨Nat.le_of_ble_eq_true rfl, Nat.le_of_ble_eq_true rfl⟩) rfl rfl (Nat.le_of_ble_eq_true rfl) hl.1 dX11_power_49 (fun H locs hM hb8 => ?_)
        refine lv_if_eq (tgt := 67) hC.1 hC.2.1 dX11_power_52 (by decide) (fun hc13 => ?_) (fun hc13 => ?_)
        · have hf := o_t hc13 hf
          refine lv_iinc (k := 3) (lv' := [(3, .int (x3 + 1)), (0, .ref (mvA V 0)), (1, .int x1), (2, .int x2)]) hC.1 hC.2.1 dX11_power_67 hl rfl (inc_1 _) (Nat.le_of_ble_eq_true rfl) rfl (fun ls hl => ?_)
          refine lv_goto (tgt := 28) hC.1 hC.2.1 dX11_power_70 (by decide) ?_
          exact ih18 _ _ _ _ _ _ _ hf hM (lv_sub hl [1, 2, 3, 0] rfl)
        · have hf := o_f hc13 hf
          refine lv_aload_n hC.1 hC.2.1 dX11_power_55 rfl (lv_at hl 0 rfl) ?_
          refine lv_iload_n hC.1 hC.2.1 dX11_power_56 rfl (lv_at hl 1 rfl) ?_
          refine lv_iload_n hC.1 hC.2.1 dX11_power_57 rfl (lv_at hl 3 rfl) ?_
          obtain ⟨r9, hq10, hf⟩ := o_b hf
          refine mw_cVi (As := [.int x1, .int x3]) (rest := []) hC hM (mcX11_decides V l M x1 x3 r9 hq10) (mw_kV hC q_824 q_826 q_28 q_107 q_827 ⟨rfl, rfl⟩ kV_X11_decides ⟨Nat.le_of_ble_eq_true rfl, Nat.le_of_ble_eq_true rfl⟩) (Nat.le_of_ble_eq_true rfl) (eC_0 V) rfl rfl rfl (Nat.le_of_ble_eq_true rfl) hl.1 dX11_power_58 (fun H locs hM hb11 => ?_)
          refine lv_if_eq (tgt := 67) hC.1 hC.2.1 dX11_power_61 (by decide) (fun hc12 => ?_) (fun hc12 => ?_)
          · have hf := o_t hc12 hf
            refine lv_iinc (k := 3) (lv' := [(3, .int (x3 + 1)), (0, .ref (mvA V 0)), (1, .int x1), (2, .int x2)]) hC.1 hC.2.1 dX11_power_67 hl rfl (inc_1 _) (Nat.le_of_ble_eq_true rfl) rfl (fun ls hl => ?_)
            refine lv_goto (tgt := 28) hC.1 hC.2.1 dX11_power_70 (by decide) ?_
            exact ih18 _ _ _ _ _ _ _ hf hM (lv_sub hl [1, 2, 3, 0] rfl)
          · have hf := o_f hc12 hf
            refine lv_iinc (k := 2) (lv' := [(2, .int (x2 + 1)), (0, .ref (mvA V 0)), (1, .int x1), (3, .int x3)]) hC.1 hC.2.1 dX11_power_64 hl rfl (inc_1 _) (Nat.le_of_ble_eq_true rfl) rfl (fun ls hl => ?_)
            refine lv_iinc (k := 3) (lv' := [(3, .int (x3 + 1)), (2, .int (x2 + 1)), (0, .ref (mvA V 0)), (1, .int x1)]) hC.1 hC.2.1 dX11_power_67 hl rfl (inc_1 _) (Nat.le_of_ble_eq_true rfl) rfl (fun ls hl => ?_)
            refine lv_goto (tgt := 28) hC.1 hC.2.1 dX11_power_70 (by decide) ?_
            exact ih18 _ _ _ _ _ _ _ hf hM (lv_sub hl [2, 3, 1, 0] rfl)
  refine lv_aload_n hC.1 hC.2.1 dX11_power_0 rfl (lv_at hl 0 rfl) ?_
  refine lv_iload_n hC.1 hC.2.1 dX11_power_1 rfl (lv_at hl 1 rfl) ?_
  refine mw_cVi (As := [.int p1]) (rest := []) hC hM (mcX11_isVoter V l M p1 _ rfl) (mw_kV hC q_481 q_483 q_1 q_107 q_484 ⟨rfl, rfl⟩ kV_X11_isVoter ⟨Nat.le_of_ble_eq_true rfl, Nat.le_of_ble_eq_true rfl⟩) (Nat.le_of_ble_eq_true rfl) (eC_0 V) rfl rfl rfl (Nat.le_of_ble_eq_true rfl) hl.1 dX11_power_2 (fun H locs hM hb1 => ?_)
  refine lv_if_ne (tgt := 10) hC.1 hC.2.1 dX11_power_5 (by decide) (fun hc7 => ?_) (fun hc7 => ?_)
  · have hf := o_f hc7 hf
    refine lv_aload_n hC.1 hC.2.1 dX11_power_10 rfl (lv_at hl 0 rfl) ?_
    refine lv_iload_n hC.1 hC.2.1 dX11_power_11 rfl (lv_at hl 1 rfl) ?_
    refine mw_cVi (As := [.int p1]) (rest := []) hC hM (mcX11_isAwake V l M p1 _ rfl) (mw_kV hC q_485 q_487 q_2 q_107 q_488 ⟨rfl, rfl⟩ kV_X11_isAwake ⟨Nat.le_of_ble_eq_true rfl, Nat.le_of_ble_eq_true rfl⟩) (Nat.le_of_ble_eq_true rfl) (eC_0 V) rfl rfl rfl (Nat.le_of_ble_eq_true rfl) hl.1 dX11_power_12 (fun H locs hM hb2 => ?_)
    refine lv_if_ne (tgt := 20) hC.1 hC.2.1 dX11_power_15 (by decide) (fun hc6 => ?_) (fun hc6 => ?_)
    · have hf := o_f hc6 hf
      refine lv_aload_n hC.1 hC.2.1 dX11_power_20 rfl (lv_at hl 0 rfl) ?_
      obtain ⟨r3, M5, hq4, hf⟩ := o_b2 hf
      refine mw_cVv (As := []) (rest := []) hC hM (mcX11_findPulls V l M r3 M5 hq4) (mw_kV hC q_820 q_822 q_27 q_107 q_823 ⟨rfl, rfl⟩ kV_X11_findPulls ⟨Nat.le_of_ble_eq_true rfl, Nat.le_of_ble_eq_true rfl⟩) (Nat.le_of_ble_eq_true rfl) (eC_0 V) rfl rfl rfl (Nat.le_of_ble_eq_true rfl) hl.1 dX11_power_21 (fun H locs hM => ?_)
      refine lv_iconst hC.1 hC.2.1 dX11_power_24 ci_0 ?_
      refine lv_istore_n (lv' := [(2, .int 0), (0, .ref (mvA V 0)), (1, .int p1)]) hC.1 hC.2.1 dX11_power_25 rfl hl (Nat.le_of_ble_eq_true rfl) rfl (fun ls hl => ?_)
      refine lv_iconst hC.1 hC.2.1 dX11_power_26 ci_0 ?_
      refine lv_istore_n (lv' := [(3, .int 0), (2, .int 0), (0, .ref (mvA V 0)), (1, .int p1)]) hC.1 hC.2.1 dX11_power_27 rfl hl (Nat.le_of_ble_eq_true rfl) rfl (fun ls hl => ?_)
      exact hL28 _ _ _ _ _ _ _ _ hf hM (lv_sub hl [2, 3, 1, 0] rfl)
    · have hf := o_t hc6 hf
      refine lv_iconst hC.1 hC.2.1 dX11_power_18 ci_0 ?_
      exact hret (o_r1 hf) (o_r2 hf hM) dX11_power_19
  · have hf := o_t hc7 hf
    refine lv_iconst hC.1 hC.2.1 dX11_power_8 ci_m1 ?_
    exact hret (o_r1 hf) (o_r2 hf hM) dX11_power_9
set_option maxHeartbeats 4000000 in
set_option maxRecDepth 100000 in
theorem mcX11_acted (V : mV) (l : Launch) (M : mM) (p0 : Int32) (p1 : Int32) (r : Int32) (hf : fX11_acted p0 p1 = r) : IC V l yX11_acted cX11_acted 2 ({ frames := 0, cells := 0, slots := 0, locals := 0 } : Room) [.int p0, .int p1] M r M := by
  unfold fX11_acted at hf
  refine mw_enterI RX11 rfl (by decide +kernel) (Nat.le_of_ble_eq_true rfl) (fun {p e s m args below meth c} ls A Q hC hret hM hl => ?_)
  have hl : lv_has ls 2 [(0, .int p0), (1, .int p1)] := hl
  refine lv_iload_n hC.1 hC.2.1 dX11_acted_0 rfl (lv_at hl 1 rfl) ?_
  refine lv_if_ne (tgt := 8) hC.1 hC.2.1 dX11_acted_1 (by decide) (fun hc1 => ?_) (fun hc1 => ?_)
  · have hf := o_f hc1 hf
    refine lv_iload_n hC.1 hC.2.1 dX11_acted_8 rfl (lv_at hl 0 rfl) ?_
    refine lv_iconst hC.1 hC.2.1 dX11_acted_9 ci_1 ?_
    refine lv_iload_n hC.1 hC.2.1 dX11_acted_10 rfl (lv_at hl 1 rfl) ?_
    refine lv_iconst hC.1 hC.2.1 dX11_acted_11 ci_1 ?_
    refine lv_isub hC.1 hC.2.1 dX11_acted_12 ?_
    refine lv_ishl hC.1 hC.2.1 dX11_acted_13 ?_
    refine lv_ixor hC.1 hC.2.1 dX11_acted_14 ?_
    exact hret hf hM dX11_acted_15
  · have hf := o_t hc1 hf
    refine lv_iload_n hC.1 hC.2.1 dX11_acted_4 rfl (lv_at hl 0 rfl) ?_
    refine lv_goto (tgt := 15) hC.1 hC.2.1 dX11_acted_5 (by decide) ?_
    exact hret hf hM dX11_acted_15
set_option maxHeartbeats 4000000 in
set_option maxRecDepth 100000 in
theorem mcX11_goesOnTo (V : mV) (l : Launch) (rec : mM → Int32 → Int32 → Int32 → Int32 → Int32 → Int32 → Option (Int32 × mM)) (d : Nat) (hrec : ∀ (M : mM) (p1 : Int32) (p2 : Int32) (p3 : Int32) (p4 : Int32) (p5 : Int32) (p6 : Int32) (r : Int32) (M' : mM), rec M p1 p2 p3 p4 p5 p6 = some (r, M') → ZC V l yX11_plansTo cX11_plansTo 8 ({ frames := 4 + 2 * d, cells := 0, slots := 0, locals := 103 + 53 * d } : Room) [.ref (mvA V 0), .int p1, .int p2, .int p3, .int p4, .int p5, .int p6] M r M') (M : mM) (p1 : Int32) (p2 : Int32) (p3 : Int32) (p4 : Int32) (p5 : Int32) (p6 : Int32) (r : Int32) (M' : mM) (hf : fX11_goesOnTo rec M p1 p2 p3 p4 p5 p6 = some (r, M')) : ZC V l yX11_goesOnTo cX11_goesOnTo 7 ({ frames := 5 + 2 * d, cells := 0, slots := 0, locals := 130 + 53 * d } : Room) [.ref (mvA V 0), .int p1, .int p2, .int p3, .int p4, .int p5, .int p6] M r M' := by
  unfold fX11_goesOnTo at hf
  refine mw_enterZ RX11 rfl (by decide +kernel) (Nat.le_of_ble_eq_true rfl) (fun {p e s m args below meth c} ls A Q hC hret hM hl => ?_)
  have hl : lv_has ls 7 [(0, .ref (mvA V 0)), (1, .int p1), (2, .int p2), (3, .int p3), (4, .int p4), (5, .int p5), (6, .int p6)] := hl
  refine lv_aload_n hC.1 hC.2.1 dX11_goesOnTo_0 rfl (lv_at hl 0 rfl) ?_
  refine lv_iload_n hC.1 hC.2.1 dX11_goesOnTo_1 rfl (lv_at hl 1 rfl) ?_
  refine lv_iload_n hC.1 hC.2.1 dX11_goesOnTo_2 rfl (lv_at hl 2 rfl) ?_
  refine lv_aload_n hC.1 hC.2.1 dX11_goesOnTo_3 rfl (lv_at hl 0 rfl) ?_
  refine lv_iload_n hC.1 hC.2.1 dX11_goesOnTo_4 rfl (lv_at hl 2 rfl) ?_
  refine lv_iload_n hC.1 hC.2.1 dX11_goesOnTo_5 rfl (lv_at hl 3 rfl) ?_
  obtain ⟨r1, M3, hq2, hf⟩ := o_b2 hf
  refine mw_cVi (As := [.int p2, .int p3]) (rest := [.int p2, .int p1, .ref (mvA V 0)]) hC hM (mcX11_sumAt V l M p2 p3 r1 M3 hq2) (mw_kV hC q_728 q_730 q_17 q_107 q_731 ⟨rfl, rfl⟩ kV_X11_sumAt ⟨by dsimp only; omega, by dsimp only; omega⟩) (Nat.le_of_ble_eq_true rfl) (eC_0 V) rfl rfl rfl (Nat.le_of_ble_eq_true rfl) hl.1 dX11_goesOnTo_6 (fun H locs hM _ => ?_)
  refine lv_iload hC.1 hC.2.1 dX11_goesOnTo_9 (lv_at hl 4 rfl) ?_
  refine mw_cSi (As := [.int r1, .int p4]) (rest := [.int p2, .int p1, .ref (mvA V 0)]) hC hM (mcX11_turnOf V l M3 r1 p4 _ rfl) (mw_kS hC q_740 q_741 q_107 q_742 ⟨rfl, rfl⟩ kS_X11_turnOf ⟨by dsimp only; omega, by dsimp only; omega⟩) rfl rfl (Nat.le_of_ble_eq_true rfl) hl.1 dX11_goesOnTo_11 (fun H locs hM _ => ?_)
  obtain ⟨r4, hq5, hf⟩ := o_b hf
  refine mw_cSi (As := [.int p2, .int (fX11_turnOf r1 p4)]) (rest := [.int p1, .ref (mvA V 0)]) hC hM (mcX11_moved V l M3 p2 (fX11_turnOf r1 p4) r4 hq5) (mw_kS hC q_762 q_748 q_107 q_749 ⟨rfl, rfl⟩ kS_X11_moved ⟨by dsimp only; omega, by dsimp only; omega⟩) rfl rfl (Nat.le_of_ble_eq_true rfl) hl.1 dX11_goesOnTo_14 (fun H locs hM _ => ?_)
  refine lv_iload_n hC.1 hC.2.1 dX11_goesOnTo_17 rfl (lv_at hl 3 rfl) ?_
  refine lv_iload hC.1 hC.2.1 dX11_goesOnTo_18 (lv_at hl 4 rfl) ?_
  refine lv_iload hC.1 hC.2.1 dX11_goesOnTo_20 (lv_at hl 5 rfl) ?_
  refine lv_iconst hC.1 hC.2.1 dX11_goesOnTo_22 ci_1 ?_
  refine lv_iadd hC.1 hC.2.1 dX11_goesOnTo_23 ?_
  refine lv_iload hC.1 hC.2.1 dX11_goesOnTo_24 (lv_at hl 6 rfl) ?_
  obtain ⟨r6, M8, hq7, hf⟩ := o_b2 hf
  refine mw_cVi (As := [.int p1, .int r4, .int p3, .int p4, .int (p5 + 1), .int p6]) (rest := []) hC hM (hrec M3 p1 r4 p3 p4 (p5 + 1) p6 r6 M8 hq7) (mw_kV hC q_836 q_838 q_30 q_107 q_839 ⟨rfl, rfl⟩ kV_X11_plansTo ⟨by dsimp only; omega, by dsimp only; omega⟩) (Nat.le_of_ble_eq_true rfl) (eC_0 V) rfl rfl rfl (Nat.le_of_ble_eq_true rfl) hl.1 dX11_goesOnTo_26 (fun H locs hM hb9 => ?_)
  exact hret (o_r1 hf) hb9 (o_r2 hf hM) dX11_goesOnTo_29
set_option maxHeartbeats 4000000 in
set_option maxRecDepth 100000 in
theorem mcX11_plansTo (V : mV) (l : Launch) : ∀ (d : Nat) (M : mM) (p1 : Int32) (p2 : Int32) (p3 : Int32) (p4 : Int32) (p5 : Int32) (p6 : Int32) (r : Int32) (M' : mM), fX11_plansTo d M p1 p2 p3 p4 p5 p6 = some (r, M') → ZC V l yX11_plansTo cX11_plansTo 8 ({ frames := 4 + 2 * d, cells := 0, slots := 0, locals := 103 + 53 * d } : Room) [.ref (mvA V 0), .int p1, .int p2, .int p3, .int p4, .int p5, .int p6] M r M' := by
  intro d
  induction d with
  | zero => intro M p1 p2 p3 p4 p5 p6 r M' hf; cases hf
  | succ d ih =>
    intro M p1 p2 p3 p4 p5 p6 r M' hf
    have hf : fX11_plansTo_b (fX11_plansTo d) M p1 p2 p3 p4 p5 p6 = some (r, M') := hf
    unfold fX11_plansTo_b at hf
    refine mw_enterZ RX11 rfl (by decide +kernel) (Nat.le_of_ble_eq_true rfl) (fun {p e s m args below meth c} ls A Q hC hret hM hl => ?_)
    have hl : lv_has ls 8 [(0, .ref (mvA V 0)), (1, .int p1), (2, .int p2), (3, .int p3), (4, .int p4), (5, .int p5), (6, .int p6)] := hl
    have hL27 : ∀ (n : Nat) (M : mM) (x1 : Int32) (x2 : Int32) (x3 : Int32) (x4 : Int32) (x5 : Int32) (x6 : Int32) (x7 : Int32) (H : Heap) (locs : List Loc) (ls : Array Slot), fX11_plansTo_L27 (fX11_plansTo d) n M x1 x2 x3 x4 x5 x6 x7 = some (r, M') → PC V M A s H locs → lv_has ls 8 [(0, .ref (mvA V 0)), (1, .int x1), (2, .int x2), (3, .int x3), (4, .int x4), (5, .int x5), (6, .int x6), (7, .int x7)] → W p l e ({ frames := 4 + 2 * (d + 1), cells := 0, slots := 0, locals := 103 + 53 * (d + 1) } : Room) s m args below meth c H locs 0 0 Q (F0 m 27 ls []) := by
      intro n16
      induction n16 with
      | zero => intro M x1 x2 x3 x4 x5 x6 x7 H locs ls hf; cases hf
      | succ n16 ih16 =>
        intro M x1 x2 x3 x4 x5 x6 x7 H locs ls hf hM hl
        have hf : fX11_plansTo_L27_b (fX11_plansTo d) (fX11_plansTo_L27 (fX11_plansTo d) n16) M x1 x2 x3 x4 x5 x6 x7 = some (r, M') := hf
        unfold fX11_plansTo_L27_b at hf
        refine lv_iload hC.1 hC.2.1 dX11_plansTo_27 (lv_at hl 7 rfl) ?_
        refine lv_aload_n hC.1 hC.2.1 dX11_plansTo_29 rfl (lv_at hl 0 rfl) ?_
        refine mw_get (v := .ref (mvA V 1)) hC hM 0 (Nat.le_of_ble_eq_true rfl) (eC_0 V) inW11 rfl 0 (by decide) q_424 (fun _ h9 => h9) rfl dX11_plansTo_30 ?_
        refine mw_get (v := .int (M 1 0)) hC hM 1 (Nat.le_of_ble_eq_true rfl) (eC_1 V) inW4 rfl 0 (by decide) q_206 (fun _ h9 => h9) rfl dX11_plansTo_33 ?_
        refine lv_icmp_gt (tgt := 77) hC.1 hC.2.1 dX11_plansTo_36 (by decide) (fun hc11 => ?_) (fun hc11 => ?_)
        · have hf := o_t hc11 hf
          refine lv_iconst hC.1 hC.2.1 dX11_plansTo_77 ci_0 ?_
          exact hret (o_r1 hf) (Or.inl rfl) (o_r2 hf hM) dX11_plansTo_78
        · have hf := o_f hc11 hf
          refine lv_aload_n hC.1 hC.2.1 dX11_plansTo_39 rfl (lv_at hl 0 rfl) ?_
          refine mw_get (v := .ref (mvA V 66)) hC hM 0 (Nat.le_of_ble_eq_true rfl) (eC_0 V) inW11 rfl 10 (by decide) q_434 (fun _ h9 => h9) rfl dX11_plansTo_40 ?_
          refine lv_iload hC.1 hC.2.1 dX11_plansTo_43 (lv_at hl 5 rfl) ?_
          refine lv_iload hC.1 hC.2.1 dX11_plansTo_45 (lv_at hl 7 rfl) ?_
          obtain ⟨hg5, hf⟩ := o_g hf
          refine mw_iast hC hM 66 0 (Nat.le_of_ble_eq_true rfl) (eC_66 V) rfl hg5 dX11_plansTo_47 (fun H locs hM => ?_)
          refine lv_aload_n hC.1 hC.2.1 dX11_plansTo_48 rfl (lv_at hl 0 rfl) ?_
          refine lv_iload_n hC.1 hC.2.1 dX11_plansTo_49 rfl (lv_at hl 1 rfl) ?_
          refine lv_iload_n hC.1 hC.2.1 dX11_plansTo_50 rfl (lv_at hl 2 rfl) ?_
          refine lv_iload_n hC.1 hC.2.1 dX11_plansTo_51 rfl (lv_at hl 3 rfl) ?_
          refine lv_iload hC.1 hC.2.1 dX11_plansTo_52 (lv_at hl 7 rfl) ?_
          refine mw_cSi (As := [.int x3, .int x7]) (rest := [.int x2, .int x1, .ref (mvA V 0)]) hC hM (mcX11_acted V l (wr M 66 (Int32.toNatClampNeg x5) x7) x3 x7 _ rfl) (mw_kS hC q_840 q_841 q_107 q_842 ⟨rfl, rfl⟩ kS_X11_acted ⟨by dsimp only; omega, by dsimp only; omega⟩) rfl rfl (Nat.le_of_ble_eq_true rfl) hl.1 dX11_plansTo_54 (fun H locs hM _ => ?_)
          refine lv_iload hC.1 hC.2.1 dX11_plansTo_57 (lv_at hl 4 rfl) ?_
          refine lv_iload hC.1 hC.2.1 dX11_plansTo_59 (lv_at hl 5 rfl) ?_
          refine lv_iload hC.1 hC.2.1 dX11_plansTo_61 (lv_at hl 6 rfl) ?_
          obtain ⟨r6, M8, hq7, hf⟩ := o_b2 hf
          refine mw_cVi (As := [.int x1, .int x2, .int (fX11_acted x3 x7), .int x4, .int x5, .int x6]) (rest := []) hC hM (mcX11_goesOnTo V l (fX11_plansTo d) d ih (wr M 66 (Int32.toNatClampNeg x5) x7) x1 x2 (fX11_acted x3 x7) x4 x5 x6 r6 M8 hq7) (mw_kV hC q_843 q_845 q_31 q_107 q_846 ⟨rfl, rfl⟩ kV_X11_goesOnTo ⟨by dsimp only; omega, by dsimp only; omega⟩) (Nat.le_of_ble_eq_true rfl) (eC_0 V) rfl rfl rfl (Nat.le_of_ble_eq_true rfl) hl.1 dX11_plansTo_63 (fun H locs hM hb9 => ?_)
          refine lv_if_eq (tgt := 71) hC.1 hC.2.1 dX11_plansTo_66 (by decide) (fun hc10 => ?_) (fun hc10 => ?_)
          · have hf := o_t hc10 hf
            refine lv_iinc (k := 7) (lv' := [(7, .int (x7 + 1)), (0, .ref (mvA V 0)), (1, .int x1), (2, .int x2), (3, .int x3), (4, .int x4), (5, .int x5), (6, .int x6)]) hC.1 hC.2.1 dX11_plansTo_71 hl rfl (inc_1 _) (Nat.le_of_ble_eq_true rfl) rfl (fun ls hl => ?_)
            refine lv_goto (tgt := 27) hC.1 hC.2.1 dX11_plansTo_74 (by decide) ?_
            exact ih16 _ _ _ _ _ _ _ _ _ _ _ hf hM (lv_sub hl [1, 2, 3, 4, 5, 6, 7, 0] rfl)
          · have hf := o_f hc10 hf
            refine lv_iconst hC.1 hC.2.1 dX11_plansTo_69 ci_1 ?_
            exact hret (o_r1 hf) (Or.inr rfl) (o_r2 hf hM) dX11_plansTo_70
    refine lv_iload_n hC.1 hC.2.1 dX11_plansTo_0 rfl (lv_at hl 2 rfl) ?_
    refine lv_iload_n hC.1 hC.2.1 dX11_plansTo_1 rfl (lv_at hl 1 rfl) ?_
    obtain ⟨r1, hq2, hf⟩ := o_b hf
    refine mw_cSi (As := [.int p2, .int p1]) (rest := []) hC hM (mcX11_apart V l M p2 p1 r1 hq2) (mw_kS hC q_810 q_811 q_107 q_812 ⟨rfl, rfl⟩ kS_X11_apart ⟨by dsimp only; omega, by dsimp only; omega⟩) rfl rfl (Nat.le_of_ble_eq_true rfl) hl.1 dX11_plansTo_2 (fun H locs hM _ => ?_)
    refine lv_iload hC.1 hC.2.1 dX11_plansTo_5 (lv_at hl 6 rfl) ?_
    refine lv_iload hC.1 hC.2.1 dX11_plansTo_7 (lv_at hl 5 rfl) ?_
    refine lv_isub hC.1 hC.2.1 dX11_plansTo_9 ?_
    refine lv_icmp_le (tgt := 15) hC.1 hC.2.1 dX11_plansTo_10 (by decide) (fun hc4 => ?_) (fun hc4 => ?_)
    · have hf := o_t hc4 hf
      refine lv_iload hC.1 hC.2.1 dX11_plansTo_15 (lv_at hl 5 rfl) ?_
      refine lv_iload hC.1 hC.2.1 dX11_plansTo_17 (lv_at hl 6 rfl) ?_
      refine lv_icmp_lt (tgt := 24) hC.1 hC.2.1 dX11_plansTo_19 (by decide) (fun hc3 => ?_) (fun hc3 => ?_)
      · have hf := o_t hc3 hf
        refine lv_iconst hC.1 hC.2.1 dX11_plansTo_24 ci_0 ?_
        refine lv_istore (lv' := [(7, .int 0), (0, .ref (mvA V 0)), (1, .int p1), (2, .int p2), (3, .int p3), (4, .int p4), (5, .int p5), (6, .int p6)]) hC.1 hC.2.1 dX11_plansTo_25 hl (Nat.le_of_ble_eq_true rfl) rfl (fun ls hl => ?_)
        exact hL27 _ _ _ _ _ _ _ _ _ _ _ _ hf hM (lv_sub hl [1, 2, 3, 4, 5, 6, 7, 0] rfl)
      · have hf := o_f hc3 hf
        refine lv_iconst hC.1 hC.2.1 dX11_plansTo_22 ci_1 ?_
        exact hret (o_r1 hf) (Or.inr rfl) (o_r2 hf hM) dX11_plansTo_23
    · have hf := o_f hc4 hf
      refine lv_iconst hC.1 hC.2.1 dX11_plansTo_13 ci_0 ?_
      exact hret (o_r1 hf) (Or.inl rfl) (o_r2 hf hM) dX11_plansTo_14
set_option maxHeartbeats 4000000 in
set_option maxRecDepth 100000 in
theorem mcX11_firstPlan (V : mV) (l : Launch) (M : mM) (p1 : Int32) (p2 : Int32) (p3 : Int32) (r : Int32) (M' : mM) (hf : fX11_firstPlan M p1 p2 p3 = some (r, M')) : IC V l yX11_firstPlan cX11_firstPlan 5 ({ frames := 17, cells := 0, slots := 0, locals := 448 } : Room) [.ref (mvA V 0), .int p1, .int p2, .int p3] M r M' := by
  unfold fX11_firstPlan at hf
  refine mw_enterI RX11 rfl (by decide +kernel) (Nat.le_of_ble_eq_true rfl) (fun {p e s m args below meth c} ls A Q hC hret hM hl => ?_)
  have hl : lv_has ls 5 [(0, .ref (mvA V 0)), (1, .int p1), (2, .int p2), (3, .int p3)] := hl
  have hL3 : ∀ (n : Nat) (M : mM) (x1 : Int32) (x2 : Int32) (x3 : Int32) (x4 : Int32) (H : Heap) (locs : List Loc) (ls : Array Slot), fX11_firstPlan_L3 n M x1 x2 x3 x4 = some (r, M') → PC V M A s H locs → lv_has ls 5 [(0, .ref (mvA V 0)), (1, .int x1), (2, .int x2), (3, .int x3), (4, .int x4)] → W p l e ({ frames := 17, cells := 0, slots := 0, locals := 448 } : Room) s m args below meth c H locs 0 0 Q (F0 m 3 ls []) := by
    intro n2
    induction n2 with
    | zero => intro M x1 x2 x3 x4 H locs ls hf; cases hf
    | succ n2 ih2 =>
      intro M x1 x2 x3 x4 H locs ls hf hM hl
      have hf : fX11_firstPlan_L3_b (fX11_firstPlan_L3 n2) M x1 x2 x3 x4 = some (r, M') := hf
      unfold fX11_firstPlan_L3_b at hf
      refine lv_iload hC.1 hC.2.1 dX11_firstPlan_3 (lv_at hl 4 rfl) ?_
      refine lv_iload_n hC.1 hC.2.1 dX11_firstPlan_5 rfl (lv_at hl 3 rfl) ?_
      refine lv_icmp_gt (tgt := 44) hC.1 hC.2.1 dX11_firstPlan_6 (by decide) (fun hc6 => ?_) (fun hc6 => ?_)
      · have hf := o_t hc6 hf
        refine lv_bipush hC.1 hC.2.1 dX11_firstPlan_44 cb_m3 ?_
        exact hret (o_r1 hf) (o_r2 hf hM) dX11_firstPlan_46
      · have hf := o_f hc6 hf
        refine lv_aload_n hC.1 hC.2.1 dX11_firstPlan_9 rfl (lv_at hl 0 rfl) ?_
        refine lv_iload_n hC.1 hC.2.1 dX11_firstPlan_10 rfl (lv_at hl 1 rfl) ?_
        refine lv_aload_n hC.1 hC.2.1 dX11_firstPlan_11 rfl (lv_at hl 0 rfl) ?_
        refine mw_get (v := .ref (mvA V 1)) hC hM 0 (Nat.le_of_ble_eq_true rfl) (eC_0 V) inW11 rfl 0 (by decide) q_424 (fun _ h9 => h9) rfl dX11_firstPlan_12 ?_
        refine mw_get (v := .int (M 1 6)) hC hM 1 (Nat.le_of_ble_eq_true rfl) (eC_1 V) inW4 rfl 6 (by decide) q_219 (fun _ h9 => h9) rfl dX11_firstPlan_15 ?_
        refine lv_aload_n hC.1 hC.2.1 dX11_firstPlan_18 rfl (lv_at hl 0 rfl) ?_
        refine mw_get (v := .ref (mvA V 1)) hC hM 0 (Nat.le_of_ble_eq_true rfl) (eC_0 V) inW11 rfl 0 (by decide) q_424 (fun _ h9 => h9) rfl dX11_firstPlan_19 ?_
        refine mw_get (v := .int (M 1 5)) hC hM 1 (Nat.le_of_ble_eq_true rfl) (eC_1 V) inW4 rfl 5 (by decide) q_216 (fun _ h9 => h9) rfl dX11_firstPlan_22 ?_
        refine lv_iload_n hC.1 hC.2.1 dX11_firstPlan_25 rfl (lv_at hl 2 rfl) ?_
        refine lv_iconst hC.1 hC.2.1 dX11_firstPlan_26 ci_0 ?_
        refine lv_iload hC.1 hC.2.1 dX11_firstPlan_27 (lv_at hl 4 rfl) ?_
        obtain ⟨r1, M3, hq2, hf⟩ := o_b2 hf
        refine mw_cVi (As := [.int x1, .int (M 1 6), .int (M 1 5), .int x2, .int 0, .int x4]) (rest := []) hC hM (mcX11_plansTo V l 6 M x1 (M 1 6) (M 1 5) x2 0 x4 r1 M3 hq2) (mw_kV hC q_836 q_838 q_30 q_107 q_839 ⟨rfl, rfl⟩ kV_X11_plansTo ⟨Nat.le_of_ble_eq_true rfl, Nat.le_of_ble_eq_true rfl⟩) (Nat.le_of_ble_eq_true rfl) (eC_0 V) rfl rfl rfl (Nat.le_of_ble_eq_true rfl) hl.1 dX11_firstPlan_29 (fun H locs hM hb4 => ?_)
        refine lv_if_eq (tgt := 38) hC.1 hC.2.1 dX11_firstPlan_32 (by decide) (fun hc5 => ?_) (fun hc5 => ?_)
        · have hf := o_t hc5 hf
          refine lv_iinc (k := 4) (lv' := [(4, .int (x4 + 1)), (0, .ref (mvA V 0)), (1, .int x1), (2, .int x2), (3, .int x3)]) hC.1 hC.2.1 dX11_firstPlan_38 hl rfl (inc_1 _) (Nat.le_of_ble_eq_true rfl) rfl (fun ls hl => ?_)
          refine lv_goto (tgt := 3) hC.1 hC.2.1 dX11_firstPlan_41 (by decide) ?_
          exact ih2 _ _ _ _ _ _ _ _ hf hM (lv_sub hl [1, 2, 3, 4, 0] rfl)
        · have hf := o_f hc5 hf
          refine lv_iload hC.1 hC.2.1 dX11_firstPlan_35 (lv_at hl 4 rfl) ?_
          exact hret (o_r1 hf) (o_r2 hf hM) dX11_firstPlan_37
  refine lv_iconst hC.1 hC.2.1 dX11_firstPlan_0 ci_0 ?_
  refine lv_istore (lv' := [(4, .int 0), (0, .ref (mvA V 0)), (1, .int p1), (2, .int p2), (3, .int p3)]) hC.1 hC.2.1 dX11_firstPlan_1 hl (Nat.le_of_ble_eq_true rfl) rfl (fun ls hl => ?_)
  exact hL3 _ _ _ _ _ _ _ _ _ hf hM (lv_sub hl [1, 2, 3, 4, 0] rfl)
set_option maxHeartbeats 4000000 in
set_option maxRecDepth 100000 in
theorem mcX11_fewest (V : mV) (l : Launch) (M : mM) (p1 : Int32) (r : Int32) (M' : mM) (hf : fX11_fewest M p1 = some (r, M')) : IC V l yX11_fewest cX11_fewest 2 ({ frames := 18, cells := 0, slots := 0, locals := 472 } : Room) [.ref (mvA V 0), .int p1] M r M' := by
  unfold fX11_fewest at hf
  refine mw_enterI RX11 rfl (by decide +kernel) (Nat.le_of_ble_eq_true rfl) (fun {p e s m args below meth c} ls A Q hC hret hM hl => ?_)
  have hl : lv_has ls 2 [(0, .ref (mvA V 0)), (1, .int p1)] := hl
  refine lv_iload_n hC.1 hC.2.1 dX11_fewest_0 rfl (lv_at hl 1 rfl) ?_
  refine mw_cSi (As := [.int p1]) (rest := []) hC hM (mcX11_isHour V l M p1 _ rfl) (mw_kS hC q_474 q_475 q_107 q_476 ⟨rfl, rfl⟩ kS_X11_isHour ⟨Nat.le_of_ble_eq_true rfl, Nat.le_of_ble_eq_true rfl⟩) rfl rfl (Nat.le_of_ble_eq_true rfl) hl.1 dX11_fewest_1 (fun H locs hM hb1 => ?_)
  refine lv_if_eq (tgt := 23) hC.1 hC.2.1 dX11_fewest_4 (by decide) (fun hc5 => ?_) (fun hc5 => ?_)
  · have hf := o_t hc5 hf
    refine lv_iconst hC.1 hC.2.1 dX11_fewest_23 ci_m1 ?_
    exact hret (o_r1 hf) (o_r2 hf hM) dX11_fewest_24
  · have hf := o_f hc5 hf
    refine lv_aload_n hC.1 hC.2.1 dX11_fewest_7 rfl (lv_at hl 0 rfl) ?_
    refine lv_iload_n hC.1 hC.2.1 dX11_fewest_8 rfl (lv_at hl 1 rfl) ?_
    refine lv_aload_n hC.1 hC.2.1 dX11_fewest_9 rfl (lv_at hl 0 rfl) ?_
    refine mw_get (v := .ref (mvA V 1)) hC hM 0 (Nat.le_of_ble_eq_true rfl) (eC_0 V) inW11 rfl 0 (by decide) q_424 (fun _ h9 => h9) rfl dX11_fewest_10 ?_
    refine mw_get (v := .int (M 1 8)) hC hM 1 (Nat.le_of_ble_eq_true rfl) (eC_1 V) inW4 rfl 8 (by decide) q_223 (fun _ h9 => h9) rfl dX11_fewest_13 ?_
    refine lv_iconst hC.1 hC.2.1 dX11_fewest_16 ci_4 ?_
    obtain ⟨r2, M4, hq3, hf⟩ := o_b2 hf
    refine mw_cVi (As := [.int p1, .int (M 1 8), .int 4]) (rest := []) hC hM (mcX11_firstPlan V l M p1 (M 1 8) 4 r2 M4 hq3) (mw_kV hC q_832 q_834 q_29 q_107 q_835 ⟨rfl, rfl⟩ kV_X11_firstPlan ⟨Nat.le_of_ble_eq_true rfl, Nat.le_of_ble_eq_true rfl⟩) (Nat.le_of_ble_eq_true rfl) (eC_0 V) rfl rfl rfl (Nat.le_of_ble_eq_true rfl) hl.1 dX11_fewest_17 (fun H locs hM _ => ?_)
    refine lv_goto (tgt := 24) hC.1 hC.2.1 dX11_fewest_20 (by decide) ?_
    exact hret (o_r1 hf) (o_r2 hf hM) dX11_fewest_24
set_option maxHeartbeats 4000000 in
set_option maxRecDepth 100000 in
theorem mcX11_ith (V : mV) (l : Launch) (M : mM) (p1 : Int32) (p2 : Int32) (r : Int32) (M' : mM) (hf : fX11_ith M p1 p2 = some (r, M')) : IC V l yX11_ith cX11_ith 3 ({ frames := 18, cells := 0, slots := 0, locals := 472 } : Room) [.ref (mvA V 0), .int p1, .int p2] M r M' := by
  unfold fX11_ith at hf
  refine mw_enterI RX11 rfl (by decide +kernel) (Nat.le_of_ble_eq_true rfl) (fun {p e s m args below meth c} ls A Q hC hret hM hl => ?_)
  have hl : lv_has ls 3 [(0, .ref (mvA V 0)), (1, .int p1), (2, .int p2)] := hl
  refine lv_iload_n hC.1 hC.2.1 dX11_ith_0 rfl (lv_at hl 1 rfl) ?_
  refine mw_cSi (As := [.int p1]) (rest := []) hC hM (mcX11_isHour V l M p1 _ rfl) (mw_kS hC q_474 q_475 q_107 q_476 ⟨rfl, rfl⟩ kS_X11_isHour ⟨Nat.le_of_ble_eq_true rfl, Nat.le_of_ble_eq_true rfl⟩) rfl rfl (Nat.le_of_ble_eq_true rfl) hl.1 dX11_ith_1 (fun H locs hM hb1 => ?_)
  refine lv_if_eq (tgt := 16) hC.1 hC.2.1 dX11_ith_4 (by decide) (fun hc9 => ?_) (fun hc9 => ?_)
  · have hf := o_t hc9 hf
    refine lv_iconst hC.1 hC.2.1 dX11_ith_16 ci_m1 ?_
    exact hret (o_r1 hf) (o_r2 hf hM) dX11_ith_17
  · have hf := o_f hc9 hf
    refine lv_iload_n hC.1 hC.2.1 dX11_ith_7 rfl (lv_at hl 2 rfl) ?_
    refine lv_iconst hC.1 hC.2.1 dX11_ith_8 ci_0 ?_
    refine lv_iconst hC.1 hC.2.1 dX11_ith_9 ci_3 ?_
    refine mw_cSi (As := [.int p2, .int 0, .int 3]) (rest := []) hC hM (mcX11_isIn V l M p2 0 3 _ rfl) (mw_kS hC q_468 q_469 q_107 q_470 ⟨rfl, rfl⟩ kS_X11_isIn ⟨Nat.le_of_ble_eq_true rfl, Nat.le_of_ble_eq_true rfl⟩) rfl rfl (Nat.le_of_ble_eq_true rfl) hl.1 dX11_ith_10 (fun H locs hM hb2 => ?_)
    refine lv_if_ne (tgt := 18) hC.1 hC.2.1 dX11_ith_13 (by decide) (fun hc8 => ?_) (fun hc8 => ?_)
    · have hf := o_f hc8 hf
      refine lv_iload_n hC.1 hC.2.1 dX11_ith_18 rfl (lv_at hl 2 rfl) ?_
      refine lv_aload_n hC.1 hC.2.1 dX11_ith_19 rfl (lv_at hl 0 rfl) ?_
      refine lv_iload_n hC.1 hC.2.1 dX11_ith_20 rfl (lv_at hl 1 rfl) ?_
      refine lv_aload_n hC.1 hC.2.1 dX11_ith_21 rfl (lv_at hl 0 rfl) ?_
      refine mw_get (v := .ref (mvA V 1)) hC hM 0 (Nat.le_of_ble_eq_true rfl) (eC_0 V) inW11 rfl 0 (by decide) q_424 (fun _ h9 => h9) rfl dX11_ith_22 ?_
      refine mw_get (v := .int (M 1 8)) hC hM 1 (Nat.le_of_ble_eq_true rfl) (eC_1 V) inW4 rfl 8 (by decide) q_223 (fun _ h9 => h9) rfl dX11_ith_25 ?_
      refine lv_iconst hC.1 hC.2.1 dX11_ith_28 ci_4 ?_
      obtain ⟨r3, M5, hq4, hf⟩ := o_b2 hf
      refine mw_cVi (As := [.int p1, .int (M 1 8), .int 4]) (rest := [.int p2]) hC hM (mcX11_firstPlan V l M p1 (M 1 8) 4 r3 M5 hq4) (mw_kV hC q_832 q_834 q_29 q_107 q_835 ⟨rfl, rfl⟩ kV_X11_firstPlan ⟨Nat.le_of_ble_eq_true rfl, Nat.le_of_ble_eq_true rfl⟩) (Nat.le_of_ble_eq_true rfl) (eC_0 V) rfl rfl rfl (Nat.le_of_ble_eq_true rfl) hl.1 dX11_ith_29 (fun H locs hM _ => ?_)
      refine lv_icmp_ge (tgt := 44) hC.1 hC.2.1 dX11_ith_32 (by decide) (fun hc7 => ?_) (fun hc7 => ?_)
      · have hf := o_t hc7 hf
        refine lv_bipush hC.1 hC.2.1 dX11_ith_44 cb_m3 ?_
        exact hret (o_r1 hf) (o_r2 hf hM) dX11_ith_46
      · have hf := o_f hc7 hf
        refine lv_aload_n hC.1 hC.2.1 dX11_ith_35 rfl (lv_at hl 0 rfl) ?_
        refine mw_get (v := .ref (mvA V 66)) hC hM 0 (Nat.le_of_ble_eq_true rfl) (eC_0 V) inW11 rfl 10 (by decide) q_434 (fun _ h9 => h9) rfl dX11_ith_36 ?_
        refine lv_iload_n hC.1 hC.2.1 dX11_ith_39 rfl (lv_at hl 2 rfl) ?_
        obtain ⟨hg6, hf⟩ := o_g hf
        refine mw_iald hC hM 66 0 (Nat.le_of_ble_eq_true rfl) (eC_66 V) rfl hg6 dX11_ith_40 ?_
        refine lv_goto (tgt := 46) hC.1 hC.2.1 dX11_ith_41 (by decide) ?_
        exact hret (o_r1 hf) (o_r2 hf hM) dX11_ith_46
    · have hf := o_t hc8 hf
      refine lv_iconst hC.1 hC.2.1 dX11_ith_16 ci_m1 ?_
      exact hret (o_r1 hf) (o_r2 hf hM) dX11_ith_17
set_option maxHeartbeats 4000000 in
set_option maxRecDepth 100000 in
theorem mcJ7_fill_53178C_q65 (V : mV) (l : Launch) (M : mM) (p1 : Int32) (r : Int32) (M' : mM) (hf : fJ7_fill_53178C_q65 M p1 = some (r, M')) : UC V l yJ7_fill_53178 cJ7_fill_53178 4 ({ frames := 0, cells := 0, slots := 0, locals := 0 } : Room) [.ref (mvA V 65), .int p1] M M' := by
  unfold fJ7_fill_53178C_q65 at hf
  refine mw_enterV RJ7 rfl (by decide +kernel) (Nat.le_of_ble_eq_true rfl) (fun {p e s m args below meth c} ls A Q hC hret hM hl => ?_)
  have hl : lv_has ls 4 [(0, .ref (mvA V 65)), (1, .int p1)] := hl
  have hL5 : ∀ (n : Nat) (M : mM) (x1 : Int32) (x2 : Int32) (x3 : Int32) (H : Heap) (locs : List Loc) (ls : Array Slot), fJ7_fill_53178C_q65_L5 n M x1 x2 x3 = some (r, M') → PC V M A s H locs → lv_has ls 4 [(0, .ref (mvA V 65)), (1, .int x1), (2, .int x2), (3, .int x3)] → W p l e ({ frames := 0, cells := 0, slots := 0, locals := 0 } : Room) s m args below meth c H locs 0 0 Q (F0 m 5 ls []) := by
    intro n5
    induction n5 with
    | zero => intro M x1 x2 x3 H locs ls hf; cases hf
    | succ n5 ih5 =>
      intro M x1 x2 x3 H locs ls hf hM hl
      have hf : fJ7_fill_53178C_q65_L5_b (fJ7_fill_53178C_q65_L5 n5) M x1 x2 x3 = some (r, M') := hf
      unfold fJ7_fill_53178C_q65_L5_b at hf
      refine lv_iload_n hC.1 hC.2.1 dJ7_fill_53178_5 rfl (lv_at hl 2 rfl) ?_
      refine lv_iload_n hC.1 hC.2.1 dJ7_fill_53178_6 rfl (lv_at hl 3 rfl) ?_
      refine lv_icmp_ge (tgt := 20) hC.1 hC.2.1 dJ7_fill_53178_7 (by decide) (fun hc2 => ?_) (fun hc2 => ?_)
      · have hf := o_t hc2 hf
        exact hret (o_r2 hf hM) dJ7_fill_53178_20
      · have hf := o_f hc2 hf
        refine lv_aload_n hC.1 hC.2.1 dJ7_fill_53178_10 rfl (lv_at hl 0 rfl) ?_
        refine lv_iload_n hC.1 hC.2.1 dJ7_fill_53178_11 rfl (lv_at hl 2 rfl) ?_
        refine lv_iload_n hC.1 hC.2.1 dJ7_fill_53178_12 rfl (lv_at hl 1 rfl) ?_
        obtain ⟨hg1, hf⟩ := o_g hf
        refine mw_iast hC hM 65 0 (Nat.le_of_ble_eq_true rfl) (eC_65 V) rfl hg1 dJ7_fill_53178_13 (fun H locs hM => ?_)
        refine lv_iinc (k := 2) (lv' := [(2, .int (x2 + 1)), (0, .ref (mvA V 65)), (1, .int x1), (3, .int x3)]) hC.1 hC.2.1 dJ7_fill_53178_14 hl rfl (inc_1 _) (Nat.le_of_ble_eq_true rfl) rfl (fun ls hl => ?_)
        refine lv_goto (tgt := 5) hC.1 hC.2.1 dJ7_fill_53178_17 (by decide) ?_
        exact ih5 _ _ _ _ _ _ _ hf hM (lv_sub hl [1, 2, 0, 3] rfl)
  refine lv_iconst hC.1 hC.2.1 dJ7_fill_53178_0 ci_0 ?_
  refine lv_istore_n (lv' := [(2, .int 0), (0, .ref (mvA V 65)), (1, .int p1)]) hC.1 hC.2.1 dJ7_fill_53178_1 rfl hl (Nat.le_of_ble_eq_true rfl) rfl (fun ls hl => ?_)
  refine lv_aload_n hC.1 hC.2.1 dJ7_fill_53178_2 rfl (lv_at hl 1 rfl) ?_
  refine mw_alen (n := 24) hC hM 65 0 (Nat.le_of_ble_eq_true rfl) (eC_65 V) rfl dJ7_fill_53178_3 ?_
  refine lv_istore_n (lv' := [(3, .int 24), (2, .int 0), (0, .ref (mvA V 65)), (1, .int p1)]) hC.1 hC.2.1 dJ7_fill_53178_4 rfl hl (Nat.le_of_ble_eq_true rfl) rfl (fun ls hl => ?_)
  exact hL5 _ _ _ _ _ _ _ _ hf hM (lv_sub hl [2, 3, 1, 0] rfl)
set_option maxHeartbeats 4000000 in
set_option maxRecDepth 100000 in
theorem mcX11_countEndsBehind (V : mV) (l : Launch) (rec : mM → Int32 → Int32 → Int32 → Option (Int32 × mM)) (d : Nat) (hrec : ∀ (M : mM) (p1 : Int32) (p2 : Int32) (p3 : Int32) (r : Int32) (M' : mM), rec M p1 p2 p3 = some (r, M') → UC V l yX11_countEnds cX11_countEnds 5 ({ frames := 4 + 2 * d, cells := 0, slots := 0, locals := 103 + 47 * d } : Room) [.ref (mvA V 0), .int p1, .int p2, .int p3] M M') (M : mM) (p1 : Int32) (p2 : Int32) (p3 : Int32) (r : Int32) (M' : mM) (hf : fX11_countEndsBehind rec M p1 p2 p3 = some (r, M')) : UC V l yX11_countEndsBehind cX11_countEndsBehind 4 ({ frames := 5 + 2 * d, cells := 0, slots := 0, locals := 127 + 47 * d } : Room) [.ref (mvA V 0), .int p1, .int p2, .int p3] M M' := by
  unfold fX11_countEndsBehind at hf
  refine mw_enterV RX11 rfl (by decide +kernel) (Nat.le_of_ble_eq_true rfl) (fun {p e s m args below meth c} ls A Q hC hret hM hl => ?_)
  have hl : lv_has ls 4 [(0, .ref (mvA V 0)), (1, .int p1), (2, .int p2), (3, .int p3)] := hl
  refine lv_aload_n hC.1 hC.2.1 dX11_countEndsBehind_0 rfl (lv_at hl 0 rfl) ?_
  refine lv_iload_n hC.1 hC.2.1 dX11_countEndsBehind_1 rfl (lv_at hl 1 rfl) ?_
  refine lv_aload_n hC.1 hC.2.1 dX11_countEndsBehind_2 rfl (lv_at hl 0 rfl) ?_
  refine lv_iload_n hC.1 hC.2.1 dX11_countEndsBehind_3 rfl (lv_at hl 1 rfl) ?_
  refine lv_iload_n hC.1 hC.2.1 dX11_countEndsBehind_4 rfl (lv_at hl 2 rfl) ?_
  obtain ⟨r1, M3, hq2, hf⟩ := o_b2 hf
  refine mw_cVi (As := [.int p1, .int p2]) (rest := [.int p1, .ref (mvA V 0)]) hC hM (mcX11_sumAt V l M p1 p2 r1 M3 hq2) (mw_kV hC q_728 q_730 q_17 q_107 q_731 ⟨rfl, rfl⟩ kV_X11_sumAt ⟨by dsimp only; omega, by dsimp only; omega⟩) (Nat.le_of_ble_eq_true rfl) (eC_0 V) rfl rfl rfl (Nat.le_of_ble_eq_true rfl) hl.1 dX11_countEndsBehind_5 (fun H locs hM _ => ?_)
  refine lv_aload_n hC.1 hC.2.1 dX11_countEndsBehind_8 rfl (lv_at hl 0 rfl) ?_
  refine mw_get (v := .ref (mvA V 1)) hC hM 0 (Nat.le_of_ble_eq_true rfl) (eC_0 V) inW11 rfl 0 (by decide) q_424 (fun _ h9 => h9) rfl dX11_countEndsBehind_9 ?_
  refine mw_get (v := .int (M3 1 8)) hC hM 1 (Nat.le_of_ble_eq_true rfl) (eC_1 V) inW4 rfl 8 (by decide) q_223 (fun _ h9 => h9) rfl dX11_countEndsBehind_12 ?_
  refine mw_cSi (As := [.int r1, .int (M3 1 8)]) (rest := [.int p1, .ref (mvA V 0)]) hC hM (mcX11_turnOf V l M3 r1 (M3 1 8) _ rfl) (mw_kS hC q_740 q_741 q_107 q_742 ⟨rfl, rfl⟩ kS_X11_turnOf ⟨by dsimp only; omega, by dsimp only; omega⟩) rfl rfl (Nat.le_of_ble_eq_true rfl) hl.1 dX11_countEndsBehind_15 (fun H locs hM _ => ?_)
  obtain ⟨r4, hq5, hf⟩ := o_b hf
  refine mw_cSi (As := [.int p1, .int (fX11_turnOf r1 (M3 1 8))]) (rest := [.ref (mvA V 0)]) hC hM (mcX11_moved V l M3 p1 (fX11_turnOf r1 (M3 1 8)) r4 hq5) (mw_kS hC q_762 q_748 q_107 q_749 ⟨rfl, rfl⟩ kS_X11_moved ⟨by dsimp only; omega, by dsimp only; omega⟩) rfl rfl (Nat.le_of_ble_eq_true rfl) hl.1 dX11_countEndsBehind_18 (fun H locs hM _ => ?_)
  refine lv_iload_n hC.1 hC.2.1 dX11_countEndsBehind_21 rfl (lv_at hl 2 rfl) ?_
  refine lv_iload_n hC.1 hC.2.1 dX11_countEndsBehind_22 rfl (lv_at hl 3 rfl) ?_
  refine lv_iconst hC.1 hC.2.1 dX11_countEndsBehind_23 ci_1 ?_
  refine lv_isub hC.1 hC.2.1 dX11_countEndsBehind_24 ?_
  obtain ⟨r6, M8, hq7, hf⟩ := o_b2 hf
  refine mw_cVv (As := [.int r4, .int p2, .int (p3 - 1)]) (rest := []) hC hM (hrec M3 r4 p2 (p3 - 1) r6 M8 hq7) (mw_kV hC q_859 q_861 q_33 q_107 q_862 ⟨rfl, rfl⟩ kV_X11_countEnds ⟨by dsimp only; omega, by dsimp only; omega⟩) (Nat.le_of_ble_eq_true rfl) (eC_0 V) rfl rfl rfl (Nat.le_of_ble_eq_true rfl) hl.1 dX11_countEndsBehind_25 (fun H locs hM => ?_)
  exact hret (o_r2 hf hM) dX11_countEndsBehind_28
set_option maxHeartbeats 4000000 in
set_option maxRecDepth 100000 in
theorem mcX11_countEnds (V : mV) (l : Launch) : ∀ (d : Nat) (M : mM) (p1 : Int32) (p2 : Int32) (p3 : Int32) (r : Int32) (M' : mM), fX11_countEnds d M p1 p2 p3 = some (r, M') → UC V l yX11_countEnds cX11_countEnds 5 ({ frames := 4 + 2 * d, cells := 0, slots := 0, locals := 103 + 47 * d } : Room) [.ref (mvA V 0), .int p1, .int p2, .int p3] M M' := by
  intro d
  induction d with
  | zero => intro M p1 p2 p3 r M' hf; cases hf
  | succ d ih =>
    intro M p1 p2 p3 r M' hf
    have hf : fX11_countEnds_b (fX11_countEnds d) M p1 p2 p3 = some (r, M') := hf
    unfold fX11_countEnds_b at hf
    refine mw_enterV RX11 rfl (by decide +kernel) (Nat.le_of_ble_eq_true rfl) (fun {p e s m args below meth c} ls A Q hC hret hM hl => ?_)
    have hl : lv_has ls 5 [(0, .ref (mvA V 0)), (1, .int p1), (2, .int p2), (3, .int p3)] := hl
    have hL18 : ∀ (n : Nat) (M : mM) (x1 : Int32) (x2 : Int32) (x3 : Int32) (x4 : Int32) (H : Heap) (locs : List Loc) (ls : Array Slot), fX11_countEnds_L18 (fX11_countEnds d) n M x1 x2 x3 x4 = some (r, M') → PC V M A s H locs → lv_has ls 5 [(0, .ref (mvA V 0)), (1, .int x1), (2, .int x2), (3, .int x3), (4, .int x4)] → W p l e ({ frames := 4 + 2 * (d + 1), cells := 0, slots := 0, locals := 103 + 47 * (d + 1) } : Room) s m args below meth c H locs 0 0 Q (F0 m 18 ls []) := by
      intro n13
      induction n13 with
      | zero => intro M x1 x2 x3 x4 H locs ls hf; cases hf
      | succ n13 ih13 =>
        intro M x1 x2 x3 x4 H locs ls hf hM hl
        have hf : fX11_countEnds_L18_b (fX11_countEnds d) (fX11_countEnds_L18 (fX11_countEnds d) n13) M x1 x2 x3 x4 = some (r, M') := hf
        unfold fX11_countEnds_L18_b at hf
        refine lv_iload hC.1 hC.2.1 dX11_countEnds_18 (lv_at hl 4 rfl) ?_
        refine lv_aload_n hC.1 hC.2.1 dX11_countEnds_20 rfl (lv_at hl 0 rfl) ?_
        refine mw_get (v := .ref (mvA V 1)) hC hM 0 (Nat.le_of_ble_eq_true rfl) (eC_0 V) inW11 rfl 0 (by decide) q_424 (fun _ h9 => h9) rfl dX11_countEnds_21 ?_
        refine mw_get (v := .int (M 1 0)) hC hM 1 (Nat.le_of_ble_eq_true rfl) (eC_1 V) inW4 rfl 0 (by decide) q_206 (fun _ h9 => h9) rfl dX11_countEnds_24 ?_
        refine lv_icmp_gt (tgt := 48) hC.1 hC.2.1 dX11_countEnds_27 (by decide) (fun hc7 => ?_) (fun hc7 => ?_)
        · have hf := o_t hc7 hf
          exact hret (o_r2 hf hM) dX11_countEnds_48
        · have hf := o_f hc7 hf
          refine lv_aload_n hC.1 hC.2.1 dX11_countEnds_30 rfl (lv_at hl 0 rfl) ?_
          refine lv_iload_n hC.1 hC.2.1 dX11_countEnds_31 rfl (lv_at hl 1 rfl) ?_
          refine lv_iload_n hC.1 hC.2.1 dX11_countEnds_32 rfl (lv_at hl 2 rfl) ?_
          refine lv_iload hC.1 hC.2.1 dX11_countEnds_33 (lv_at hl 4 rfl) ?_
          refine mw_cSi (As := [.int x2, .int x4]) (rest := [.int x1, .ref (mvA V 0)]) hC hM (mcX11_acted V l M x2 x4 _ rfl) (mw_kS hC q_840 q_841 q_107 q_842 ⟨rfl, rfl⟩ kS_X11_acted ⟨by dsimp only; omega, by dsimp only; omega⟩) rfl rfl (Nat.le_of_ble_eq_true rfl) hl.1 dX11_countEnds_35 (fun H locs hM _ => ?_)
          refine lv_iload_n hC.1 hC.2.1 dX11_countEnds_38 rfl (lv_at hl 3 rfl) ?_
          obtain ⟨r4, M6, hq5, hf⟩ := o_b2 hf
          refine mw_cVv (As := [.int x1, .int (fX11_acted x2 x4), .int x3]) (rest := []) hC hM (mcX11_countEndsBehind V l (fX11_countEnds d) d ih M x1 (fX11_acted x2 x4) x3 r4 M6 hq5) (mw_kV hC q_863 q_865 q_34 q_107 q_866 ⟨rfl, rfl⟩ kV_X11_countEndsBehind ⟨by dsimp only; omega, by dsimp only; omega⟩) (Nat.le_of_ble_eq_true rfl) (eC_0 V) rfl rfl rfl (Nat.le_of_ble_eq_true rfl) hl.1 dX11_countEnds_39 (fun H locs hM => ?_)
          refine lv_iinc (k := 4) (lv' := [(4, .int (x4 + 1)), (0, .ref (mvA V 0)), (1, .int x1), (2, .int x2), (3, .int x3)]) hC.1 hC.2.1 dX11_countEnds_42 hl rfl (inc_1 _) (Nat.le_of_ble_eq_true rfl) rfl (fun ls hl => ?_)
          refine lv_goto (tgt := 18) hC.1 hC.2.1 dX11_countEnds_45 (by decide) ?_
          exact ih13 _ _ _ _ _ _ _ _ hf hM (lv_sub hl [1, 2, 3, 4, 0] rfl)
    refine lv_iload_n hC.1 hC.2.1 dX11_countEnds_0 rfl (lv_at hl 3 rfl) ?_
    refine lv_if_gt (tgt := 15) hC.1 hC.2.1 dX11_countEnds_1 (by decide) (fun hc3 => ?_) (fun hc3 => ?_)
    · have hf := o_t hc3 hf
      refine lv_iconst hC.1 hC.2.1 dX11_countEnds_15 ci_0 ?_
      refine lv_istore (lv' := [(4, .int 0), (0, .ref (mvA V 0)), (1, .int p1), (2, .int p2), (3, .int p3)]) hC.1 hC.2.1 dX11_countEnds_16 hl (Nat.le_of_ble_eq_true rfl) rfl (fun ls hl => ?_)
      exact hL18 _ _ _ _ _ _ _ _ _ hf hM (lv_sub hl [1, 2, 3, 4, 0] rfl)
    · have hf := o_f hc3 hf
      refine lv_aload_n hC.1 hC.2.1 dX11_countEnds_4 rfl (lv_at hl 0 rfl) ?_
      refine mw_get (v := .ref (mvA V 65)) hC hM 0 (Nat.le_of_ble_eq_true rfl) (eC_0 V) inW11 rfl 9 (by decide) q_433 (fun _ h9 => h9) rfl dX11_countEnds_5 ?_
      refine lv_iload_n hC.1 hC.2.1 dX11_countEnds_8 rfl (lv_at hl 1 rfl) ?_
      refine lv_dup2_11 hC.1 hC.2.1 dX11_countEnds_9 rfl rfl ?_
      obtain ⟨hg1, hf⟩ := o_g hf
      refine mw_iald hC hM 65 0 (Nat.le_of_ble_eq_true rfl) (eC_65 V) rfl hg1 dX11_countEnds_10 ?_
      refine lv_iconst hC.1 hC.2.1 dX11_countEnds_11 ci_1 ?_
      refine lv_iadd hC.1 hC.2.1 dX11_countEnds_12 ?_
      obtain ⟨hg2, hf⟩ := o_g hf
      refine mw_iast hC hM 65 0 (Nat.le_of_ble_eq_true rfl) (eC_65 V) rfl hg2 dX11_countEnds_13 (fun H locs hM => ?_)
      exact hret (o_r2 hf hM) dX11_countEnds_14
