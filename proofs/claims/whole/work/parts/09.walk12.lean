set_option maxHeartbeats 4000000 in
set_option maxRecDepth 100000 in
theorem mcX12_span (V : mV) (l : Launch) (M : mM) (p1 : Int32) (r : Int32) (M' : mM) (hf : fX12_span M p1 = some (r, M')) : IR V l yX12_span cX12_span 3 ({ frames := 2, cells := 0, slots := 0, locals := 47 } : Room) [.ref (mvA V 0), .int p1] M r M' := by
  unfold fX12_span at hf
  refine mw_enterI RX12 rfl (by decide +kernel) (Nat.le_of_ble_eq_true rfl) (fun {p e s m args below meth c} ls A Q hC hret hM hl => ?_)
  have hl : lv_has ls 3 [(0, .ref (mvA V 0)), (1, .int p1)] := hl
  refine lv_iload_n hC.1 hC.2.1 dX12_span_0 rfl (lv_at hl 1 rfl) ?_
  refine lv_i2l (v := (Int32.toInt64 p1)) hC.1 hC.2.1 dX12_span_1 rfl ?_
  refine lv_lconst (v := 0) hC.1 hC.2.1 dX12_span_2 rfl ?_
  refine lv_ldc2 hC.1 hC.2.1 hC.2.2.2.1 (mw_w hC q_1505) dX12_span_3 ?_
  refine mw_cSi (As := [.long (Int32.toInt64 p1), .long 0, .long 2]) (rest := []) hC hM (mcX12_in V l M (Int32.toInt64 p1) 0 2 _ rfl) (mw_kS hC q_1257 q_1258 q_120 q_1259 ⟨rfl, rfl⟩ kS_X12_in ⟨Nat.le_of_ble_eq_true rfl, Nat.le_of_ble_eq_true rfl⟩) rfl rfl (Nat.le_of_ble_eq_true rfl) hl.1 dX12_span_6 (fun H locs hM hb1 => ?_)
  refine lv_if_ne (tgt := 14) hC.1 hC.2.1 dX12_span_9 (by decide) (fun hc8 => ?_) (fun hc8 => ?_)
  · have hf := o_f hc8 hf
    refine lv_aload_n hC.1 hC.2.1 dX12_span_14 rfl (lv_at hl 0 rfl) ?_
    refine lv_iconst hC.1 hC.2.1 dX12_span_15 ci_m1 ?_
    obtain ⟨r2, M4, hq3, hf⟩ := o_b2 hf
    refine mw_cVi (As := [.int (-1)]) (rest := []) hC hM (mcX12_fitting V l M (-1) r2 M4 hq3) (mw_kV hC q_1604 q_1606 q_87 q_120 q_1607 ⟨rfl, rfl⟩ kV_X12_fitting ⟨Nat.le_of_ble_eq_true rfl, Nat.le_of_ble_eq_true rfl⟩) (Nat.le_of_ble_eq_true rfl) (eR_0 V) rfl rfl rfl (Nat.le_of_ble_eq_true rfl) hl.1 dX12_span_16 (fun H locs hM _ => ?_)
    refine lv_istore_n (lv' := [(2, .int r2), (0, .ref (mvA V 0)), (1, .int p1)]) hC.1 hC.2.1 dX12_span_19 rfl hl (Nat.le_of_ble_eq_true rfl) rfl (fun ls hl => ?_)
    refine lv_iload_n hC.1 hC.2.1 dX12_span_20 rfl (lv_at hl 2 rfl) ?_
    refine lv_if_ne (tgt := 26) hC.1 hC.2.1 dX12_span_21 (by decide) (fun hc7 => ?_) (fun hc7 => ?_)
    · have hf := o_f hc7 hf
      refine lv_iload_n hC.1 hC.2.1 dX12_span_26 rfl (lv_at hl 0 rfl) ?_
      refine lv_if_ne (tgt := 35) hC.1 hC.2.1 dX12_span_27 (by decide) (fun hc6 => ?_) (fun hc6 => ?_)
      · have hf := o_f hc6 hf
        refine lv_iload_n hC.1 hC.2.1 dX12_span_35 rfl (lv_at hl 2 rfl) ?_
        refine lv_iconst hC.1 hC.2.1 dX12_span_36 ci_1 ?_
        refine lv_icmp_ne (tgt := 49) hC.1 hC.2.1 dX12_span_37 (by decide) (fun hc5 => ?_) (fun hc5 => ?_)
        · have hf := o_f hc5 hf
          refine lv_aload_n hC.1 hC.2.1 dX12_span_49 rfl (lv_at hl 1 rfl) ?_
          refine mw_get (v := .int (M4 0 18)) hC hM 0 (Nat.le_of_ble_eq_true rfl) (eR_0 V) inW12 rfl 18 (by decide) q_1164 (fun _ h9 => h9) rfl dX12_span_50 ?_
          exact hret (o_r1 hf) (o_r2 hf hM) dX12_span_53
        · have hf := o_t hc5 hf
          refine lv_aload_n hC.1 hC.2.1 dX12_span_40 rfl (lv_at hl 1 rfl) ?_
          refine mw_get (v := .int (M4 0 17)) hC hM 0 (Nat.le_of_ble_eq_true rfl) (eR_0 V) inW12 rfl 17 (by decide) q_1163 (fun _ h9 => h9) rfl dX12_span_41 ?_
          refine lv_iconst hC.1 hC.2.1 dX12_span_44 ci_1 ?_
          refine lv_iadd hC.1 hC.2.1 dX12_span_45 ?_
          refine lv_goto (tgt := 53) hC.1 hC.2.1 dX12_span_46 (by decide) ?_
          exact hret (o_r1 hf) (o_r2 hf hM) dX12_span_53
      · have hf := o_t hc6 hf
        refine lv_bipush hC.1 hC.2.1 dX12_span_30 cb_m3 ?_
        refine lv_goto (tgt := 53) hC.1 hC.2.1 dX12_span_32 (by decide) ?_
        exact hret (o_r1 hf) (o_r2 hf hM) dX12_span_53
    · have hf := o_t hc7 hf
      refine lv_iload_n hC.1 hC.2.1 dX12_span_24 rfl (lv_at hl 0 rfl) ?_
      exact hret (o_r1 hf) (o_r2 hf hM) dX12_span_25
  · have hf := o_t hc8 hf
    refine lv_iconst hC.1 hC.2.1 dX12_span_12 ci_m1 ?_
    exact hret (o_r1 hf) (o_r2 hf hM) dX12_span_13
set_option maxHeartbeats 4000000 in
set_option maxRecDepth 100000 in
theorem mcX12_liar (V : mV) (l : Launch) (M : mM) (r : Int32) (M' : mM) (hf : fX12_liar M = some (r, M')) : IR V l yX12_liar cX12_liar 2 ({ frames := 2, cells := 0, slots := 0, locals := 47 } : Room) [.ref (mvA V 0)] M r M' := by
  unfold fX12_liar at hf
  refine mw_enterI RX12 rfl (by decide +kernel) (Nat.le_of_ble_eq_true rfl) (fun {p e s m args below meth c} ls A Q hC hret hM hl => ?_)
  have hl : lv_has ls 2 [(0, .ref (mvA V 0))] := hl
  have hL45 : ∀ (M : mM) (x1 : Int32) (H : Heap) (locs : List Loc) (ls : Array Slot), fX12_liar_L45 M x1 = some (r, M') → PR V M A s H locs → lv_has ls 2 [(0, .ref (mvA V 0)), (1, .int x1)] → W p l e ({ frames := 2, cells := 0, slots := 0, locals := 47 } : Room) s m args below meth c H locs 0 0 Q (F0 m 45 ls []) := by
    intro M x1 H locs ls hf hM hl
    unfold fX12_liar_L45 at hf
    refine lv_iload_n hC.1 hC.2.1 dX12_liar_45 rfl (lv_at hl 1 rfl) ?_
    refine lv_aload_n hC.1 hC.2.1 dX12_liar_46 rfl (lv_at hl 0 rfl) ?_
    refine mw_get (v := .ref (mvA V 1)) hC hM 0 (Nat.le_of_ble_eq_true rfl) (eR_0 V) inW12 rfl 0 (by decide) q_1146 (fun _ h9 => h9) rfl dX12_liar_47 ?_
    refine lv_bipush hC.1 hC.2.1 dX12_liar_50 cb_6 ?_
    obtain ⟨hg12, hf⟩ := o_g hf
    refine mw_iald hC hM 1 0 (Nat.le_of_ble_eq_true rfl) (eR_1 V) rfl hg12 dX12_liar_52 ?_
    refine lv_icmp_ge (tgt := 60) hC.1 hC.2.1 dX12_liar_53 (by decide) (fun hc13 => ?_) (fun hc13 => ?_)
    · have hf := o_t hc13 hf
      refine lv_bipush hC.1 hC.2.1 dX12_liar_60 cb_m3 ?_
      exact hret (o_r1 hf) (o_r2 hf hM) dX12_liar_62
    · have hf := o_f hc13 hf
      refine lv_iload_n hC.1 hC.2.1 dX12_liar_56 rfl (lv_at hl 1 rfl) ?_
      refine lv_goto (tgt := 62) hC.1 hC.2.1 dX12_liar_57 (by decide) ?_
      exact hret (o_r1 hf) (o_r2 hf hM) dX12_liar_62
  have hL20 : ∀ (n : Nat) (M : mM) (x1 : Int32) (H : Heap) (locs : List Loc) (ls : Array Slot), fX12_liar_L20 n M x1 = some (r, M') → PR V M A s H locs → lv_has ls 2 [(0, .ref (mvA V 0)), (1, .int x1)] → W p l e ({ frames := 2, cells := 0, slots := 0, locals := 47 } : Room) s m args below meth c H locs 0 0 Q (F0 m 20 ls []) := by
    intro n11
    induction n11 with
    | zero => intro M x1 H locs ls hf; cases hf
    | succ n11 ih11 =>
      intro M x1 H locs ls hf hM hl
      have hf : fX12_liar_L20_b (fX12_liar_L20 n11) M x1 = some (r, M') := hf
      unfold fX12_liar_L20_b at hf
      refine lv_iload_n hC.1 hC.2.1 dX12_liar_20 rfl (lv_at hl 1 rfl) ?_
      refine lv_aload_n hC.1 hC.2.1 dX12_liar_21 rfl (lv_at hl 0 rfl) ?_
      refine mw_get (v := .ref (mvA V 1)) hC hM 0 (Nat.le_of_ble_eq_true rfl) (eR_0 V) inW12 rfl 0 (by decide) q_1146 (fun _ h9 => h9) rfl dX12_liar_22 ?_
      refine lv_bipush hC.1 hC.2.1 dX12_liar_25 cb_6 ?_
      obtain ⟨hg6, hf⟩ := o_g hf
      refine mw_iald hC hM 1 0 (Nat.le_of_ble_eq_true rfl) (eR_1 V) rfl hg6 dX12_liar_27 ?_
      refine lv_icmp_ge (tgt := 45) hC.1 hC.2.1 dX12_liar_28 (by decide) (fun hc11 => ?_) (fun hc11 => ?_)
      · have hf := o_t hc11 hf
        exact hL45 _ _ _ _ _ hf hM (lv_sub hl [0, 1] rfl)
      · have hf := o_f hc11 hf
        refine lv_aload_n hC.1 hC.2.1 dX12_liar_31 rfl (lv_at hl 0 rfl) ?_
        refine lv_iload_n hC.1 hC.2.1 dX12_liar_32 rfl (lv_at hl 1 rfl) ?_
        obtain ⟨r7, M9, hq8, hf⟩ := o_b2 hf
        refine mw_cVi (As := [.int x1]) (rest := []) hC hM (mcX12_fitting V l M x1 r7 M9 hq8) (mw_kV hC q_1604 q_1606 q_87 q_120 q_1607 ⟨rfl, rfl⟩ kV_X12_fitting ⟨Nat.le_of_ble_eq_true rfl, Nat.le_of_ble_eq_true rfl⟩) (Nat.le_of_ble_eq_true rfl) (eR_0 V) rfl rfl rfl (Nat.le_of_ble_eq_true rfl) hl.1 dX12_liar_33 (fun H locs hM _ => ?_)
        refine lv_if_ne (tgt := 45) hC.1 hC.2.1 dX12_liar_36 (by decide) (fun hc10 => ?_) (fun hc10 => ?_)
        · have hf := o_f hc10 hf
          exact hL45 _ _ _ _ _ hf hM (lv_sub hl [0, 1] rfl)
        · have hf := o_t hc10 hf
          refine lv_iinc (k := 1) (lv' := [(1, .int (x1 + 1)), (0, .ref (mvA V 0))]) hC.1 hC.2.1 dX12_liar_39 hl rfl (inc_1 _) (Nat.le_of_ble_eq_true rfl) rfl (fun ls hl => ?_)
          refine lv_goto (tgt := 20) hC.1 hC.2.1 dX12_liar_42 (by decide) ?_
          exact ih11 _ _ _ _ _ hf hM (lv_sub hl [1, 0] rfl)
  have hL19 : ∀ (M : mM) (t0 : Int32) (H : Heap) (locs : List Loc) (ls : Array Slot), fX12_liar_L19 M t0 = some (r, M') → PR V M A s H locs → lv_has ls 2 [(0, .ref (mvA V 0))] → W p l e ({ frames := 2, cells := 0, slots := 0, locals := 47 } : Room) s m args below meth c H locs 0 0 Q (F0 m 19 ls [.int t0]) := by
    intro M t0 H locs ls hf hM hl
    unfold fX12_liar_L19 at hf
    refine lv_istore_n (lv' := [(1, .int t0), (0, .ref (mvA V 0))]) hC.1 hC.2.1 dX12_liar_19 rfl hl (Nat.le_of_ble_eq_true rfl) rfl (fun ls hl => ?_)
    exact hL20 _ _ _ _ _ _ hf hM (lv_sub hl [1, 0] rfl)
  refine lv_aload_n hC.1 hC.2.1 dX12_liar_0 rfl (lv_at hl 0 rfl) ?_
  refine lv_iconst hC.1 hC.2.1 dX12_liar_1 ci_m1 ?_
  obtain ⟨r1, M3, hq2, hf⟩ := o_b2 hf
  refine mw_cVi (As := [.int (-1)]) (rest := []) hC hM (mcX12_fitting V l M (-1) r1 M3 hq2) (mw_kV hC q_1604 q_1606 q_87 q_120 q_1607 ⟨rfl, rfl⟩ kV_X12_fitting ⟨Nat.le_of_ble_eq_true rfl, Nat.le_of_ble_eq_true rfl⟩) (Nat.le_of_ble_eq_true rfl) (eR_0 V) rfl rfl rfl (Nat.le_of_ble_eq_true rfl) hl.1 dX12_liar_2 (fun H locs hM _ => ?_)
  refine lv_if_le (tgt := 18) hC.1 hC.2.1 dX12_liar_5 (by decide) (fun hc5 => ?_) (fun hc5 => ?_)
  · have hf := o_t hc5 hf
    refine lv_iconst hC.1 hC.2.1 dX12_liar_18 ci_0 ?_
    exact hL19 _ _ _ _ _ hf hM (lv_sub hl [0] rfl)
  · have hf := o_f hc5 hf
    refine lv_aload_n hC.1 hC.2.1 dX12_liar_8 rfl (lv_at hl 0 rfl) ?_
    refine mw_get (v := .ref (mvA V 1)) hC hM 0 (Nat.le_of_ble_eq_true rfl) (eR_0 V) inW12 rfl 0 (by decide) q_1146 (fun _ h9 => h9) rfl dX12_liar_9 ?_
    refine lv_bipush hC.1 hC.2.1 dX12_liar_12 cb_6 ?_
    obtain ⟨hg4, hf⟩ := o_g hf
    refine mw_iald hC hM 1 0 (Nat.le_of_ble_eq_true rfl) (eR_1 V) rfl hg4 dX12_liar_14 ?_
    refine lv_goto (tgt := 19) hC.1 hC.2.1 dX12_liar_15 (by decide) ?_
    exact hL19 _ _ _ _ _ hf hM (lv_sub hl [0] rfl)
set_option maxHeartbeats 4000000 in
set_option maxRecDepth 100000 in
theorem mcX12_seed (V : mV) (l : Launch) (M : mM) (p1 : Int32) (r : Int32) (M' : mM) (hf : fX12_seed M p1 = some (r, M')) : IR V l yX12_seed cX12_seed 2 ({ frames := 1, cells := 0, slots := 0, locals := 23 } : Room) [.ref (mvA V 0), .int p1] M r M' := by
  unfold fX12_seed at hf
  refine mw_enterI RX12 rfl (by decide +kernel) (Nat.le_of_ble_eq_true rfl) (fun {p e s m args below meth c} ls A Q hC hret hM hl => ?_)
  have hl : lv_has ls 2 [(0, .ref (mvA V 0)), (1, .int p1)] := hl
  refine lv_aload_n hC.1 hC.2.1 dX12_seed_0 rfl (lv_at hl 0 rfl) ?_
  refine lv_iconst hC.1 hC.2.1 dX12_seed_1 ci_5 ?_
  refine lv_iload_n hC.1 hC.2.1 dX12_seed_2 rfl (lv_at hl 1 rfl) ?_
  obtain ⟨r1, M3, hq2, hf⟩ := o_b2 hf
  refine mw_cVi (As := [.int 5, .int p1]) (rest := []) hC hM (mcX12_becomes V l M 5 p1 r1 M3 hq2) (mw_kV hC q_1324 q_1326 q_53 q_120 q_1327 ⟨rfl, rfl⟩ kV_X12_becomes ⟨Nat.le_of_ble_eq_true rfl, Nat.le_of_ble_eq_true rfl⟩) (Nat.le_of_ble_eq_true rfl) (eR_0 V) rfl rfl rfl (Nat.le_of_ble_eq_true rfl) hl.1 dX12_seed_3 (fun H locs hM _ => ?_)
  exact hret (o_r1 hf) (o_r2 hf hM) dX12_seed_6
set_option maxHeartbeats 4000000 in
set_option maxRecDepth 100000 in
theorem mcX12_draw (V : mV) (l : Launch) (M : mM) (r : Int32) (M' : mM) (hf : fX12_draw M = some (r, M')) : ZR V l yX12_draw cX12_draw 1 ({ frames := 0, cells := 0, slots := 0, locals := 0 } : Room) [.ref (mvA V 0)] M r M' := by
  unfold fX12_draw at hf
  refine mw_enterZ RX12 rfl (by decide +kernel) (Nat.le_of_ble_eq_true rfl) (fun {p e s m args below meth c} ls A Q hC hret hM hl => ?_)
  have hl : lv_has ls 1 [(0, .ref (mvA V 0))] := hl
  refine lv_aload_n hC.1 hC.2.1 dX12_draw_0 rfl (lv_at hl 0 rfl) ?_
  refine mw_get (v := .ref (mvA V 1)) hC hM 0 (Nat.le_of_ble_eq_true rfl) (eR_0 V) inW12 rfl 0 (by decide) q_1146 (fun _ h9 => h9) rfl dX12_draw_1 ?_
  refine lv_iconst hC.1 hC.2.1 dX12_draw_4 ci_5 ?_
  refine lv_aload_n hC.1 hC.2.1 dX12_draw_5 rfl (lv_at hl 0 rfl) ?_
  refine mw_get (v := .ref (mvA V 1)) hC hM 0 (Nat.le_of_ble_eq_true rfl) (eR_0 V) inW12 rfl 0 (by decide) q_1146 (fun _ h9 => h9) rfl dX12_draw_6 ?_
  refine lv_iconst hC.1 hC.2.1 dX12_draw_9 ci_5 ?_
  obtain ⟨hg1, hf⟩ := o_g hf
  refine mw_iald hC hM 1 0 (Nat.le_of_ble_eq_true rfl) (eR_1 V) rfl hg1 dX12_draw_10 ?_
  refine lv_ldcw hC.1 hC.2.1 hC.2.2.2.1 (mw_w hC q_1628) dX12_draw_11 ?_
  refine lv_imul hC.1 hC.2.1 dX12_draw_14 ?_
  refine lv_sipush hC.1 hC.2.1 dX12_draw_15 cs_12345 ?_
  refine lv_iadd hC.1 hC.2.1 dX12_draw_18 ?_
  obtain ⟨hg2, hf⟩ := o_g hf
  refine mw_iast hC hM 1 0 (Nat.le_of_ble_eq_true rfl) (eR_1 V) rfl hg2 dX12_draw_19 (fun H locs hM => ?_)
  refine lv_aload_n hC.1 hC.2.1 dX12_draw_20 rfl (lv_at hl 0 rfl) ?_
  refine mw_get (v := .ref (mvA V 1)) hC hM 0 (Nat.le_of_ble_eq_true rfl) (eR_0 V) inW12 rfl 0 (by decide) q_1146 (fun _ h9 => h9) rfl dX12_draw_21 ?_
  refine lv_iconst hC.1 hC.2.1 dX12_draw_24 ci_5 ?_
  obtain ⟨hg3, hf⟩ := o_g hf
  refine mw_iald hC hM 1 0 (Nat.le_of_ble_eq_true rfl) (eR_1 V) rfl hg3 dX12_draw_25 ?_
  refine lv_bipush hC.1 hC.2.1 dX12_draw_26 cb_16 ?_
  refine lv_iushr (v := (iushr ((wr M 1 (Int32.toNatClampNeg 5) (((M 1 (Int32.toNatClampNeg 5)) * 1103515245) + 12345)) 1 (Int32.toNatClampNeg 5)) 16)) hC.1 hC.2.1 dX12_draw_28 rfl ?_
  refine lv_iconst hC.1 hC.2.1 dX12_draw_29 ci_1 ?_
  refine lv_iand hC.1 hC.2.1 dX12_draw_30 ?_
  refine lv_iconst hC.1 hC.2.1 dX12_draw_31 ci_1 ?_
  refine lv_icmp_ne (tgt := 39) hC.1 hC.2.1 dX12_draw_32 (by decide) (fun hc4 => ?_) (fun hc4 => ?_)
  · have hf := o_f hc4 hf
    refine lv_iconst hC.1 hC.2.1 dX12_draw_39 ci_0 ?_
    exact hret (o_r1 hf) (Or.inl rfl) (o_r2 hf hM) dX12_draw_40
  · have hf := o_t hc4 hf
    refine lv_iconst hC.1 hC.2.1 dX12_draw_35 ci_1 ?_
    refine lv_goto (tgt := 40) hC.1 hC.2.1 dX12_draw_36 (by decide) ?_
    exact hret (o_r1 hf) (Or.inr rfl) (o_r2 hf hM) dX12_draw_40
set_option maxHeartbeats 4000000 in
set_option maxRecDepth 100000 in
theorem mcX12_sumByLot (V : mV) (l : Launch) (M : mM) (r : Int32) (M' : mM) (hf : fX12_sumByLot M = some (r, M')) : IR V l yX12_sumByLot cX12_sumByLot 3 ({ frames := 6, cells := 0, slots := 0, locals := 139 } : Room) [.ref (mvA V 0)] M r M' := by
  unfold fX12_sumByLot at hf
  refine mw_enterI RX12 rfl (by decide +kernel) (Nat.le_of_ble_eq_true rfl) (fun {p e s m args below meth c} ls A Q hC hret hM hl => ?_)
  have hl : lv_has ls 3 [(0, .ref (mvA V 0))] := hl
  have hL4 : ∀ (n : Nat) (M : mM) (x1 : Int32) (x2 : Int32) (H : Heap) (locs : List Loc) (ls : Array Slot), fX12_sumByLot_L4 n M x1 x2 = some (r, M') → PR V M A s H locs → lv_has ls 3 [(0, .ref (mvA V 0)), (1, .int x1), (2, .int x2)] → W p l e ({ frames := 6, cells := 0, slots := 0, locals := 139 } : Room) s m args below meth c H locs 0 0 Q (F0 m 4 ls []) := by
    intro n4
    induction n4 with
    | zero => intro M x1 x2 H locs ls hf; cases hf
    | succ n4 ih4 =>
      intro M x1 x2 H locs ls hf hM hl
      have hf : fX12_sumByLot_L4_b (fX12_sumByLot_L4 n4) M x1 x2 = some (r, M') := hf
      unfold fX12_sumByLot_L4_b at hf
      refine lv_iload_n hC.1 hC.2.1 dX12_sumByLot_4 rfl (lv_at hl 2 rfl) ?_
      refine lv_aload_n hC.1 hC.2.1 dX12_sumByLot_5 rfl (lv_at hl 0 rfl) ?_
      refine mw_get (v := .ref (mvA V 1)) hC hM 0 (Nat.le_of_ble_eq_true rfl) (eR_0 V) inW12 rfl 0 (by decide) q_1146 (fun _ h9 => h9) rfl dX12_sumByLot_6 ?_
      refine lv_iconst hC.1 hC.2.1 dX12_sumByLot_9 ci_0 ?_
      obtain ⟨hg1, hf⟩ := o_g hf
      refine mw_iald hC hM 1 0 (Nat.le_of_ble_eq_true rfl) (eR_1 V) rfl hg1 dX12_sumByLot_10 ?_
      refine lv_icmp_ge (tgt := 51) hC.1 hC.2.1 dX12_sumByLot_11 (by decide) (fun hc15 => ?_) (fun hc15 => ?_)
      · have hf := o_t hc15 hf
        refine lv_iload_n hC.1 hC.2.1 dX12_sumByLot_51 rfl (lv_at hl 1 rfl) ?_
        exact hret (o_r1 hf) (o_r2 hf hM) dX12_sumByLot_52
      · have hf := o_f hc15 hf
        refine lv_aload_n hC.1 hC.2.1 dX12_sumByLot_14 rfl (lv_at hl 0 rfl) ?_
        refine lv_iload_n hC.1 hC.2.1 dX12_sumByLot_15 rfl (lv_at hl 2 rfl) ?_
        refine lv_iconst hC.1 hC.2.1 dX12_sumByLot_16 ci_4 ?_
        obtain ⟨r2, hq3, hf⟩ := o_b hf
        refine mw_cVi (As := [.int x2, .int 4]) (rest := []) hC hM (mcX12_its V l M x2 4 r2 hq3) (mw_kV hC q_1282 q_1284 q_46 q_120 q_1285 ⟨rfl, rfl⟩ kV_X12_its ⟨Nat.le_of_ble_eq_true rfl, Nat.le_of_ble_eq_true rfl⟩) (Nat.le_of_ble_eq_true rfl) (eR_0 V) rfl rfl rfl (Nat.le_of_ble_eq_true rfl) hl.1 dX12_sumByLot_17 (fun H locs hM _ => ?_)
        refine lv_iconst hC.1 hC.2.1 dX12_sumByLot_20 ci_1 ?_
        refine lv_icmp_ne (tgt := 45) hC.1 hC.2.1 dX12_sumByLot_21 (by decide) (fun hc14 => ?_) (fun hc14 => ?_)
        · have hf := o_f hc14 hf
          refine lv_iinc (k := 2) (lv' := [(2, .int (x2 + 1)), (0, .ref (mvA V 0)), (1, .int x1)]) hC.1 hC.2.1 dX12_sumByLot_45 hl rfl (inc_1 _) (Nat.le_of_ble_eq_true rfl) rfl (fun ls hl => ?_)
          refine lv_goto (tgt := 4) hC.1 hC.2.1 dX12_sumByLot_48 (by decide) ?_
          exact ih4 _ _ _ _ _ _ hf hM (lv_sub hl [1, 2, 0] rfl)
        · have hf := o_t hc14 hf
          refine lv_aload_n hC.1 hC.2.1 dX12_sumByLot_24 rfl (lv_at hl 0 rfl) ?_
          obtain ⟨r4, M6, hq5, hf⟩ := o_b2 hf
          refine mw_cVi (As := []) (rest := []) hC hM (mcX12_draw V l M r4 M6 hq5) (mw_kV hC q_1624 q_1626 q_89 q_120 q_1627 ⟨rfl, rfl⟩ kV_X12_draw ⟨Nat.le_of_ble_eq_true rfl, Nat.le_of_ble_eq_true rfl⟩) (Nat.le_of_ble_eq_true rfl) (eR_0 V) rfl rfl rfl (Nat.le_of_ble_eq_true rfl) hl.1 dX12_sumByLot_25 (fun H locs hM hb7 => ?_)
          refine lv_if_eq (tgt := 45) hC.1 hC.2.1 dX12_sumByLot_28 (by decide) (fun hc13 => ?_) (fun hc13 => ?_)
          · have hf := o_t hc13 hf
            refine lv_iinc (k := 2) (lv' := [(2, .int (x2 + 1)), (0, .ref (mvA V 0)), (1, .int x1)]) hC.1 hC.2.1 dX12_sumByLot_45 hl rfl (inc_1 _) (Nat.le_of_ble_eq_true rfl) rfl (fun ls hl => ?_)
            refine lv_goto (tgt := 4) hC.1 hC.2.1 dX12_sumByLot_48 (by decide) ?_
            exact ih4 _ _ _ _ _ _ hf hM (lv_sub hl [1, 2, 0] rfl)
          · have hf := o_f hc13 hf
            refine lv_iload_n hC.1 hC.2.1 dX12_sumByLot_31 rfl (lv_at hl 1 rfl) ?_
            refine lv_aload_n hC.1 hC.2.1 dX12_sumByLot_32 rfl (lv_at hl 0 rfl) ?_
            refine lv_iload_n hC.1 hC.2.1 dX12_sumByLot_33 rfl (lv_at hl 2 rfl) ?_
            obtain ⟨r8, hq9, hf⟩ := o_b hf
            refine mw_cVi (As := [.int x2]) (rest := [.int x1]) hC hM (mcX12_voteOf V l M6 x2 r8 hq9) (mw_kV hC q_1286 q_1288 q_47 q_120 q_1289 ⟨rfl, rfl⟩ kV_X12_voteOf ⟨Nat.le_of_ble_eq_true rfl, Nat.le_of_ble_eq_true rfl⟩) (Nat.le_of_ble_eq_true rfl) (eR_0 V) rfl rfl rfl (Nat.le_of_ble_eq_true rfl) hl.1 dX12_sumByLot_34 (fun H locs hM _ => ?_)
            refine lv_aload_n hC.1 hC.2.1 dX12_sumByLot_37 rfl (lv_at hl 0 rfl) ?_
            refine lv_iload_n hC.1 hC.2.1 dX12_sumByLot_38 rfl (lv_at hl 2 rfl) ?_
            obtain ⟨r10, M12, hq11, hf⟩ := o_b2 hf
            refine mw_cVi (As := [.int x2]) (rest := [.int r8, .int x1]) hC hM (mcX12_powerOf V l M6 x2 r10 M12 hq11) (mw_kV hC q_1293 q_1295 q_48 q_120 q_1296 ⟨rfl, rfl⟩ kV_X12_powerOf ⟨Nat.le_of_ble_eq_true rfl, Nat.le_of_ble_eq_true rfl⟩) (Nat.le_of_ble_eq_true rfl) (eR_0 V) rfl rfl rfl (Nat.le_of_ble_eq_true rfl) hl.1 dX12_sumByLot_39 (fun H locs hM _ => ?_)
            refine lv_imul hC.1 hC.2.1 dX12_sumByLot_42 ?_
            refine lv_iadd hC.1 hC.2.1 dX12_sumByLot_43 ?_
            refine lv_istore_n (lv' := [(1, .int (x1 + (r8 * r10))), (0, .ref (mvA V 0)), (2, .int x2)]) hC.1 hC.2.1 dX12_sumByLot_44 rfl hl (Nat.le_of_ble_eq_true rfl) rfl (fun ls hl => ?_)
            refine lv_iinc (k := 2) (lv' := [(2, .int (x2 + 1)), (1, .int (x1 + (r8 * r10))), (0, .ref (mvA V 0))]) hC.1 hC.2.1 dX12_sumByLot_45 hl rfl (inc_1 _) (Nat.le_of_ble_eq_true rfl) rfl (fun ls hl => ?_)
            refine lv_goto (tgt := 4) hC.1 hC.2.1 dX12_sumByLot_48 (by decide) ?_
            exact ih4 _ _ _ _ _ _ hf hM (lv_sub hl [2, 1, 0] rfl)
  refine lv_iconst hC.1 hC.2.1 dX12_sumByLot_0 ci_0 ?_
  refine lv_istore_n (lv' := [(1, .int 0), (0, .ref (mvA V 0))]) hC.1 hC.2.1 dX12_sumByLot_1 rfl hl (Nat.le_of_ble_eq_true rfl) rfl (fun ls hl => ?_)
  refine lv_iconst hC.1 hC.2.1 dX12_sumByLot_2 ci_0 ?_
  refine lv_istore_n (lv' := [(2, .int 0), (1, .int 0), (0, .ref (mvA V 0))]) hC.1 hC.2.1 dX12_sumByLot_3 rfl hl (Nat.le_of_ble_eq_true rfl) rfl (fun ls hl => ?_)
  exact hL4 _ _ _ _ _ _ _ hf hM (lv_sub hl [2, 1, 0] rfl)
set_option maxHeartbeats 4000000 in
set_option maxRecDepth 100000 in
theorem mcX12_lot (V : mV) (l : Launch) (M : mM) (r : Int32) (M' : mM) (hf : fX12_lot M = some (r, M')) : IR V l yX12_lot cX12_lot 1 ({ frames := 7, cells := 0, slots := 0, locals := 161 } : Room) [.ref (mvA V 0)] M r M' := by
  unfold fX12_lot at hf
  refine mw_enterI RX12 rfl (by decide +kernel) (Nat.le_of_ble_eq_true rfl) (fun {p e s m args below meth c} ls A Q hC hret hM hl => ?_)
  have hl : lv_has ls 1 [(0, .ref (mvA V 0))] := hl
  refine lv_aload_n hC.1 hC.2.1 dX12_lot_0 rfl (lv_at hl 0 rfl) ?_
  refine mw_get (v := .ref (mvA V 1)) hC hM 0 (Nat.le_of_ble_eq_true rfl) (eR_0 V) inW12 rfl 0 (by decide) q_1146 (fun _ h9 => h9) rfl dX12_lot_1 ?_
  refine lv_iconst hC.1 hC.2.1 dX12_lot_4 ci_2 ?_
  obtain ⟨hg1, hf⟩ := o_g hf
  refine mw_iald hC hM 1 0 (Nat.le_of_ble_eq_true rfl) (eR_1 V) rfl hg1 dX12_lot_5 ?_
  refine lv_sipush hC.1 hC.2.1 dX12_lot_6 cs_9999 ?_
  refine lv_icmp_ne (tgt := 17) hC.1 hC.2.1 dX12_lot_9 (by decide) (fun hc8 => ?_) (fun hc8 => ?_)
  · have hf := o_f hc8 hf
    refine lv_aload_n hC.1 hC.2.1 dX12_lot_17 rfl (lv_at hl 0 rfl) ?_
    refine lv_aload_n hC.1 hC.2.1 dX12_lot_18 rfl (lv_at hl 0 rfl) ?_
    obtain ⟨r2, M4, hq3, hf⟩ := o_b2 hf
    refine mw_cVi (As := []) (rest := [.ref (mvA V 0)]) hC hM (mcX12_sumByLot V l M r2 M4 hq3) (mw_kV hC q_1620 q_1622 q_88 q_120 q_1623 ⟨rfl, rfl⟩ kV_X12_sumByLot ⟨Nat.le_of_ble_eq_true rfl, Nat.le_of_ble_eq_true rfl⟩) (Nat.le_of_ble_eq_true rfl) (eR_0 V) rfl rfl rfl (Nat.le_of_ble_eq_true rfl) hl.1 dX12_lot_19 (fun H locs hM _ => ?_)
    obtain ⟨r5, M7, hq6, hf⟩ := o_b2 hf
    refine mw_cVi (As := [.int r2]) (rest := []) hC hM (mcX12_noonBy V l M4 r2 r5 M7 hq6) (mw_kV hC q_1468 q_1470 q_73 q_120 q_1471 ⟨rfl, rfl⟩ kV_X12_noonBy ⟨Nat.le_of_ble_eq_true rfl, Nat.le_of_ble_eq_true rfl⟩) (Nat.le_of_ble_eq_true rfl) (eR_0 V) rfl rfl rfl (Nat.le_of_ble_eq_true rfl) hl.1 dX12_lot_22 (fun H locs hM _ => ?_)
    exact hret (o_r1 hf) (o_r2 hf hM) dX12_lot_25
  · have hf := o_t hc8 hf
    refine lv_bipush hC.1 hC.2.1 dX12_lot_12 cb_m4 ?_
    refine lv_goto (tgt := 25) hC.1 hC.2.1 dX12_lot_14 (by decide) ?_
    exact hret (o_r1 hf) (o_r2 hf hM) dX12_lot_25
set_option maxHeartbeats 4000000 in
set_option maxRecDepth 100000 in
theorem mcX12_often (V : mV) (l : Launch) (M : mM) (p1 : Int32) (p2 : Int32) (r : Int32) (M' : mM) (hf : fX12_often M p1 p2 = some (r, M')) : IR V l yX12_often cX12_often 6 ({ frames := 7, cells := 0, slots := 0, locals := 161 } : Room) [.ref (mvA V 0), .int p1, .int p2] M r M' := by
  unfold fX12_often at hf
  refine mw_enterI RX12 rfl (by decide +kernel) (Nat.le_of_ble_eq_true rfl) (fun {p e s m args below meth c} ls A Q hC hret hM hl => ?_)
  have hl : lv_has ls 6 [(0, .ref (mvA V 0)), (1, .int p1), (2, .int p2)] := hl
  have hL34 : ∀ (n : Nat) (M : mM) (x1 : Int32) (x2 : Int32) (x3 : Int32) (x4 : Int32) (x5 : Int32) (H : Heap) (locs : List Loc) (ls : Array Slot), fX12_often_L34 n M x1 x2 x3 x4 x5 = some (r, M') → PR V M A s H locs → lv_has ls 6 [(0, .ref (mvA V 0)), (1, .int x1), (2, .int x2), (3, .int x3), (4, .int x4), (5, .int x5)] → W p l e ({ frames := 7, cells := 0, slots := 0, locals := 161 } : Room) s m args below meth c H locs 0 0 Q (F0 m 34 ls []) := by
    intro n20
    induction n20 with
    | zero => intro M x1 x2 x3 x4 x5 H locs ls hf; cases hf
    | succ n20 ih20 =>
      intro M x1 x2 x3 x4 x5 H locs ls hf hM hl
      have hf : fX12_often_L34_b (fX12_often_L34 n20) M x1 x2 x3 x4 x5 = some (r, M') := hf
      unfold fX12_often_L34_b at hf
      refine lv_iload hC.1 hC.2.1 dX12_often_34 (lv_at hl 5 rfl) ?_
      refine lv_iload_n hC.1 hC.2.1 dX12_often_36 rfl (lv_at hl 1 rfl) ?_
      refine lv_icmp_ge (tgt := 78) hC.1 hC.2.1 dX12_often_37 (by decide) (fun hc14 => ?_) (fun hc14 => ?_)
      · have hf := o_t hc14 hf
        refine lv_aload_n hC.1 hC.2.1 dX12_often_78 rfl (lv_at hl 0 rfl) ?_
        refine mw_get (v := .ref (mvA V 1)) hC hM 0 (Nat.le_of_ble_eq_true rfl) (eR_0 V) inW12 rfl 0 (by decide) q_1146 (fun _ h9 => h9) rfl dX12_often_79 ?_
        refine lv_iconst hC.1 hC.2.1 dX12_often_82 ci_5 ?_
        refine lv_iload_n hC.1 hC.2.1 dX12_often_83 rfl (lv_at hl 3 rfl) ?_
        obtain ⟨hg6, hf⟩ := o_g hf
        refine mw_iast hC hM 1 0 (Nat.le_of_ble_eq_true rfl) (eR_1 V) rfl hg6 dX12_often_84 (fun H locs hM => ?_)
        refine lv_iload hC.1 hC.2.1 dX12_often_85 (lv_at hl 4 rfl) ?_
        exact hret (o_r1 hf) (o_r2 hf hM) dX12_often_87
      · have hf := o_f hc14 hf
        refine lv_iload hC.1 hC.2.1 dX12_often_40 (lv_at hl 4 rfl) ?_
        refine lv_aload_n hC.1 hC.2.1 dX12_often_42 rfl (lv_at hl 0 rfl) ?_
        refine mw_get (v := .ref (mvA V 1)) hC hM 0 (Nat.le_of_ble_eq_true rfl) (eR_0 V) inW12 rfl 0 (by decide) q_1146 (fun _ h9 => h9) rfl dX12_often_43 ?_
        refine lv_iconst hC.1 hC.2.1 dX12_often_46 ci_1 ?_
        obtain ⟨hg7, hf⟩ := o_g hf
        refine mw_iald hC hM 1 0 (Nat.le_of_ble_eq_true rfl) (eR_1 V) rfl hg7 dX12_often_47 ?_
        refine lv_aload_n hC.1 hC.2.1 dX12_often_48 rfl (lv_at hl 0 rfl) ?_
        refine lv_aload_n hC.1 hC.2.1 dX12_often_49 rfl (lv_at hl 0 rfl) ?_
        obtain ⟨r8, M10, hq9, hf⟩ := o_b2 hf
        refine mw_cVi (As := []) (rest := [.ref (mvA V 0), .int (M 1 (Int32.toNatClampNeg 1)), .int x4]) hC hM (mcX12_sumByLot V l M r8 M10 hq9) (mw_kV hC q_1620 q_1622 q_88 q_120 q_1623 ⟨rfl, rfl⟩ kV_X12_sumByLot ⟨Nat.le_of_ble_eq_true rfl, Nat.le_of_ble_eq_true rfl⟩) (Nat.le_of_ble_eq_true rfl) (eR_0 V) rfl rfl rfl (Nat.le_of_ble_eq_true rfl) hl.1 dX12_often_50 (fun H locs hM _ => ?_)
        obtain ⟨r11, hq12, hf⟩ := o_b hf
        refine mw_cVi (As := [.int r8]) (rest := [.int (M 1 (Int32.toNatClampNeg 1)), .int x4]) hC hM (mcX12_moveBy V l M10 r8 r11 hq12) (mw_kV hC q_1472 q_1474 q_74 q_120 q_1475 ⟨rfl, rfl⟩ kV_X12_moveBy ⟨Nat.le_of_ble_eq_true rfl, Nat.le_of_ble_eq_true rfl⟩) (Nat.le_of_ble_eq_true rfl) (eR_0 V) rfl rfl rfl (Nat.le_of_ble_eq_true rfl) hl.1 dX12_often_53 (fun H locs hM _ => ?_)
        refine lv_iadd hC.1 hC.2.1 dX12_often_56 ?_
        refine mw_cSi (As := [.int ((M 1 (Int32.toNatClampNeg 1)) + r11)]) (rest := [.int x4]) hC hM (mcX12_around V l M10 ((M 1 (Int32.toNatClampNeg 1)) + r11) _ rfl) (mw_kS hC q_1290 q_1291 q_120 q_1292 ⟨rfl, rfl⟩ kS_X12_around ⟨Nat.le_of_ble_eq_true rfl, Nat.le_of_ble_eq_true rfl⟩) rfl rfl (Nat.le_of_ble_eq_true rfl) hl.1 dX12_often_57 (fun H locs hM _ => ?_)
        refine lv_iload_n hC.1 hC.2.1 dX12_often_60 rfl (lv_at hl 2 rfl) ?_
        refine lv_icmp_ne (tgt := 68) hC.1 hC.2.1 dX12_often_61 (by decide) (fun hc13 => ?_) (fun hc13 => ?_)
        · have hf := o_f hc13 hf
          refine lv_iconst hC.1 hC.2.1 dX12_often_68 ci_0 ?_
          refine lv_iadd hC.1 hC.2.1 dX12_often_69 ?_
          refine lv_istore (lv' := [(4, .int (x4 + 0)), (0, .ref (mvA V 0)), (1, .int x1), (2, .int x2), (3, .int x3), (5, .int x5)]) hC.1 hC.2.1 dX12_often_70 hl (Nat.le_of_ble_eq_true rfl) rfl (fun ls hl => ?_)
          refine lv_iinc (k := 5) (lv' := [(5, .int (x5 + 1)), (4, .int (x4 + 0)), (0, .ref (mvA V 0)), (1, .int x1), (2, .int x2), (3, .int x3)]) hC.1 hC.2.1 dX12_often_72 hl rfl (inc_1 _) (Nat.le_of_ble_eq_true rfl) rfl (fun ls hl => ?_)
          refine lv_goto (tgt := 34) hC.1 hC.2.1 dX12_often_75 (by decide) ?_
          exact ih20 _ _ _ _ _ _ _ _ _ hf hM (lv_sub hl [2, 3, 4, 5, 1, 0] rfl)
        · have hf := o_t hc13 hf
          refine lv_iconst hC.1 hC.2.1 dX12_often_64 ci_1 ?_
          refine lv_goto (tgt := 69) hC.1 hC.2.1 dX12_often_65 (by decide) ?_
          refine lv_iadd hC.1 hC.2.1 dX12_often_69 ?_
          refine lv_istore (lv' := [(4, .int (x4 + 1)), (0, .ref (mvA V 0)), (1, .int x1), (2, .int x2), (3, .int x3), (5, .int x5)]) hC.1 hC.2.1 dX12_often_70 hl (Nat.le_of_ble_eq_true rfl) rfl (fun ls hl => ?_)
          refine lv_iinc (k := 5) (lv' := [(5, .int (x5 + 1)), (4, .int (x4 + 1)), (0, .ref (mvA V 0)), (1, .int x1), (2, .int x2), (3, .int x3)]) hC.1 hC.2.1 dX12_often_72 hl rfl (inc_1 _) (Nat.le_of_ble_eq_true rfl) rfl (fun ls hl => ?_)
          refine lv_goto (tgt := 34) hC.1 hC.2.1 dX12_often_75 (by decide) ?_
          exact ih20 _ _ _ _ _ _ _ _ _ hf hM (lv_sub hl [2, 3, 4, 5, 1, 0] rfl)
  refine lv_iload_n hC.1 hC.2.1 dX12_often_0 rfl (lv_at hl 1 rfl) ?_
  refine lv_i2l (v := (Int32.toInt64 p1)) hC.1 hC.2.1 dX12_often_1 rfl ?_
  refine lv_lconst (v := 1) hC.1 hC.2.1 dX12_often_2 rfl ?_
  refine lv_ldc2 hC.1 hC.2.1 hC.2.2.2.1 (mw_w hC q_1484) dX12_often_3 ?_
  refine mw_cSi (As := [.long (Int32.toInt64 p1), .long 1, .long 60]) (rest := []) hC hM (mcX12_in V l M (Int32.toInt64 p1) 1 60 _ rfl) (mw_kS hC q_1257 q_1258 q_120 q_1259 ⟨rfl, rfl⟩ kS_X12_in ⟨Nat.le_of_ble_eq_true rfl, Nat.le_of_ble_eq_true rfl⟩) rfl rfl (Nat.le_of_ble_eq_true rfl) hl.1 dX12_often_6 (fun H locs hM hb1 => ?_)
  refine lv_if_eq (tgt := 19) hC.1 hC.2.1 dX12_often_9 (by decide) (fun hc5 => ?_) (fun hc5 => ?_)
  · have hf := o_t hc5 hf
    refine lv_iconst hC.1 hC.2.1 dX12_often_19 ci_m1 ?_
    exact hret (o_r1 hf) (o_r2 hf hM) dX12_often_20
  · have hf := o_f hc5 hf
    refine lv_iload_n hC.1 hC.2.1 dX12_often_12 rfl (lv_at hl 2 rfl) ?_
    refine mw_cSi (As := [.int p2]) (rest := []) hC hM (mcX12_isHour V l M p2 _ rfl) (mw_kS hC q_1263 q_1264 q_120 q_1265 ⟨rfl, rfl⟩ kS_X12_isHour ⟨Nat.le_of_ble_eq_true rfl, Nat.le_of_ble_eq_true rfl⟩) rfl rfl (Nat.le_of_ble_eq_true rfl) hl.1 dX12_often_13 (fun H locs hM hb2 => ?_)
    refine lv_if_ne (tgt := 21) hC.1 hC.2.1 dX12_often_16 (by decide) (fun hc4 => ?_) (fun hc4 => ?_)
    · have hf := o_f hc4 hf
      refine lv_aload_n hC.1 hC.2.1 dX12_often_21 rfl (lv_at hl 0 rfl) ?_
      refine mw_get (v := .ref (mvA V 1)) hC hM 0 (Nat.le_of_ble_eq_true rfl) (eR_0 V) inW12 rfl 0 (by decide) q_1146 (fun _ h9 => h9) rfl dX12_often_22 ?_
      refine lv_iconst hC.1 hC.2.1 dX12_often_25 ci_5 ?_
      obtain ⟨hg3, hf⟩ := o_g hf
      refine mw_iald hC hM 1 0 (Nat.le_of_ble_eq_true rfl) (eR_1 V) rfl hg3 dX12_often_26 ?_
      refine lv_istore_n (lv' := [(3, .int (M 1 (Int32.toNatClampNeg 5))), (0, .ref (mvA V 0)), (1, .int p1), (2, .int p2)]) hC.1 hC.2.1 dX12_often_27 rfl hl (Nat.le_of_ble_eq_true rfl) rfl (fun ls hl => ?_)
      refine lv_iconst hC.1 hC.2.1 dX12_often_28 ci_0 ?_
      refine lv_istore (lv' := [(4, .int 0), (3, .int (M 1 (Int32.toNatClampNeg 5))), (0, .ref (mvA V 0)), (1, .int p1), (2, .int p2)]) hC.1 hC.2.1 dX12_often_29 hl (Nat.le_of_ble_eq_true rfl) rfl (fun ls hl => ?_)
      refine lv_iconst hC.1 hC.2.1 dX12_often_31 ci_0 ?_
      refine lv_istore (lv' := [(5, .int 0), (4, .int 0), (3, .int (M 1 (Int32.toNatClampNeg 5))), (0, .ref (mvA V 0)), (1, .int p1), (2, .int p2)]) hC.1 hC.2.1 dX12_often_32 hl (Nat.le_of_ble_eq_true rfl) rfl (fun ls hl => ?_)
      exact hL34 _ _ _ _ _ _ _ _ _ _ hf hM (lv_sub hl [3, 4, 5, 2, 1, 0] rfl)
    · have hf := o_t hc4 hf
      refine lv_iconst hC.1 hC.2.1 dX12_often_19 ci_m1 ?_
      exact hret (o_r1 hf) (o_r2 hf hM) dX12_often_20
set_option maxHeartbeats 4000000 in
set_option maxRecDepth 100000 in
theorem mcX12_thinksAll (V : mV) (l : Launch) (M : mM) (r : Int32) (M' : mM) (hf : fX12_thinksAll M = some (r, M')) : UR V l yX12_thinksAll cX12_thinksAll 1 ({ frames := 2, cells := 0, slots := 0, locals := 44 } : Room) [.ref (mvA V 0)] M M' := by
  unfold fX12_thinksAll at hf
  refine mw_enterV RX12 rfl (by decide +kernel) (Nat.le_of_ble_eq_true rfl) (fun {p e s m args below meth c} ls A Q hC hret hM hl => ?_)
  have hl : lv_has ls 1 [(0, .ref (mvA V 0))] := hl
  refine lv_aload_n hC.1 hC.2.1 dX12_thinksAll_0 rfl (lv_at hl 0 rfl) ?_
  obtain ⟨r1, M3, hq2, hf⟩ := o_b2 hf
  refine mw_cVv (As := []) (rest := []) hC hM (mcX12_thinks V l M r1 M3 hq2) (mw_kV hC q_1485 q_1487 q_76 q_120 q_1488 ⟨rfl, rfl⟩ kV_X12_thinks ⟨Nat.le_of_ble_eq_true rfl, Nat.le_of_ble_eq_true rfl⟩) (Nat.le_of_ble_eq_true rfl) (eR_0 V) rfl rfl rfl (Nat.le_of_ble_eq_true rfl) hl.1 dX12_thinksAll_1 (fun H locs hM => ?_)
  refine lv_aload_n hC.1 hC.2.1 dX12_thinksAll_4 rfl (lv_at hl 0 rfl) ?_
  refine lv_aload_n hC.1 hC.2.1 dX12_thinksAll_5 rfl (lv_at hl 0 rfl) ?_
  obtain ⟨r4, hq5, hf⟩ := o_b hf
  refine mw_cVi (As := []) (rest := [.ref (mvA V 0)]) hC hM (mcX12_awakeSet V l M3 r4 hq5) (mw_kV hC q_1348 q_1350 q_54 q_120 q_1351 ⟨rfl, rfl⟩ kV_X12_awakeSet ⟨Nat.le_of_ble_eq_true rfl, Nat.le_of_ble_eq_true rfl⟩) (Nat.le_of_ble_eq_true rfl) (eR_0 V) rfl rfl rfl (Nat.le_of_ble_eq_true rfl) hl.1 dX12_thinksAll_6 (fun H locs hM _ => ?_)
  refine mw_put hC hM 0 (Nat.le_of_ble_eq_true rfl) (eR_0 V) inW12 tyX12 tyX12_ok nmX12 rfl 21 (by decide) q_1167 (fun _ h9 => h9) rfl rfl rfl (Nat.le_of_ble_eq_true rfl) rfl dX12_thinksAll_9 (fun H locs hM => ?_)
  exact hret (o_r2 hf hM) dX12_thinksAll_12
set_option maxHeartbeats 4000000 in
set_option maxRecDepth 100000 in
theorem mcX12_laysAllBack (V : mV) (l : Launch) (M : mM) (r : Int32) (M' : mM) (hf : fX12_laysAllBack M = some (r, M')) : UR V l yX12_laysAllBack cX12_laysAllBack 2 ({ frames := 1, cells := 0, slots := 0, locals := 23 } : Room) [.ref (mvA V 0)] M M' := by
  unfold fX12_laysAllBack at hf
  refine mw_enterV RX12 rfl (by decide +kernel) (Nat.le_of_ble_eq_true rfl) (fun {p e s m args below meth c} ls A Q hC hret hM hl => ?_)
  have hl : lv_has ls 2 [(0, .ref (mvA V 0))] := hl
  have hL6 : ∀ (n : Nat) (M : mM) (x1 : Int32) (H : Heap) (locs : List Loc) (ls : Array Slot), fX12_laysAllBack_L6 n M x1 = some (r, M') → PR V M A s H locs → lv_has ls 2 [(0, .ref (mvA V 0)), (1, .int x1)] → W p l e ({ frames := 1, cells := 0, slots := 0, locals := 23 } : Room) s m args below meth c H locs 0 0 Q (F0 m 6 ls []) := by
    intro n4
    induction n4 with
    | zero => intro M x1 H locs ls hf; cases hf
    | succ n4 ih4 =>
      intro M x1 H locs ls hf hM hl
      have hf : fX12_laysAllBack_L6_b (fX12_laysAllBack_L6 n4) M x1 = some (r, M') := hf
      unfold fX12_laysAllBack_L6_b at hf
      refine lv_iload_n hC.1 hC.2.1 dX12_laysAllBack_6 rfl (lv_at hl 1 rfl) ?_
      refine lv_aload_n hC.1 hC.2.1 dX12_laysAllBack_7 rfl (lv_at hl 0 rfl) ?_
      refine mw_get (v := .ref (mvA V 1)) hC hM 0 (Nat.le_of_ble_eq_true rfl) (eR_0 V) inW12 rfl 0 (by decide) q_1146 (fun _ h9 => h9) rfl dX12_laysAllBack_8 ?_
      refine lv_iconst hC.1 hC.2.1 dX12_laysAllBack_11 ci_0 ?_
      obtain ⟨hg4, hf⟩ := o_g hf
      refine mw_iald hC hM 1 0 (Nat.le_of_ble_eq_true rfl) (eR_1 V) rfl hg4 dX12_laysAllBack_12 ?_
      refine lv_icmp_ge (tgt := 36) hC.1 hC.2.1 dX12_laysAllBack_13 (by decide) (fun hc8 => ?_) (fun hc8 => ?_)
      · have hf := o_t hc8 hf
        exact hret (o_r2 hf hM) dX12_laysAllBack_36
      · have hf := o_f hc8 hf
        refine lv_aload_n hC.1 hC.2.1 dX12_laysAllBack_16 rfl (lv_at hl 0 rfl) ?_
        refine lv_iload_n hC.1 hC.2.1 dX12_laysAllBack_17 rfl (lv_at hl 1 rfl) ?_
        refine lv_iconst hC.1 hC.2.1 dX12_laysAllBack_18 ci_4 ?_
        refine lv_aload_n hC.1 hC.2.1 dX12_laysAllBack_19 rfl (lv_at hl 0 rfl) ?_
        refine mw_get (v := .int (M 0 21)) hC hM 0 (Nat.le_of_ble_eq_true rfl) (eR_0 V) inW12 rfl 21 (by decide) q_1167 (fun _ h9 => h9) rfl dX12_laysAllBack_20 ?_
        refine lv_iload_n hC.1 hC.2.1 dX12_laysAllBack_23 rfl (lv_at hl 1 rfl) ?_
        refine lv_ishr hC.1 hC.2.1 dX12_laysAllBack_24 ?_
        refine lv_iconst hC.1 hC.2.1 dX12_laysAllBack_25 ci_1 ?_
        refine lv_iand hC.1 hC.2.1 dX12_laysAllBack_26 ?_
        obtain ⟨r5, M7, hq6, hf⟩ := o_b2 hf
        refine mw_cVv (As := [.int x1, .int 4, .int (((M 0 21) >>> (x1 &&& 31)) &&& 1)]) (rest := []) hC hM (mcX12_sets V l M x1 4 (((M 0 21) >>> (x1 &&& 31)) &&& 1) r5 M7 hq6) (mw_kV hC q_1269 q_1271 q_44 q_120 q_1272 ⟨rfl, rfl⟩ kV_X12_sets ⟨Nat.le_of_ble_eq_true rfl, Nat.le_of_ble_eq_true rfl⟩) (Nat.le_of_ble_eq_true rfl) (eR_0 V) rfl rfl rfl (Nat.le_of_ble_eq_true rfl) hl.1 dX12_laysAllBack_27 (fun H locs hM => ?_)
        refine lv_iinc (k := 1) (lv' := [(1, .int (x1 + 1)), (0, .ref (mvA V 0))]) hC.1 hC.2.1 dX12_laysAllBack_30 hl rfl (inc_1 _) (Nat.le_of_ble_eq_true rfl) rfl (fun ls hl => ?_)
        refine lv_goto (tgt := 6) hC.1 hC.2.1 dX12_laysAllBack_33 (by decide) ?_
        exact ih4 _ _ _ _ _ hf hM (lv_sub hl [1, 0] rfl)
  refine lv_aload_n hC.1 hC.2.1 dX12_laysAllBack_0 rfl (lv_at hl 0 rfl) ?_
  obtain ⟨r1, M3, hq2, hf⟩ := o_b2 hf
  refine mw_cVv (As := []) (rest := []) hC hM (mcX12_laysBack V l M r1 M3 hq2) (mw_kV hC q_1489 q_1491 q_77 q_120 q_1492 ⟨rfl, rfl⟩ kV_X12_laysBack ⟨Nat.le_of_ble_eq_true rfl, Nat.le_of_ble_eq_true rfl⟩) (Nat.le_of_ble_eq_true rfl) (eR_0 V) rfl rfl rfl (Nat.le_of_ble_eq_true rfl) hl.1 dX12_laysAllBack_1 (fun H locs hM => ?_)
  refine lv_iconst hC.1 hC.2.1 dX12_laysAllBack_4 ci_0 ?_
  refine lv_istore_n (lv' := [(1, .int 0), (0, .ref (mvA V 0))]) hC.1 hC.2.1 dX12_laysAllBack_5 rfl hl (Nat.le_of_ble_eq_true rfl) rfl (fun ls hl => ?_)
  exact hL6 _ _ _ _ _ _ hf hM (lv_sub hl [1, 0] rfl)
set_option maxHeartbeats 4000000 in
set_option maxRecDepth 100000 in
theorem mcX12_prove (V : mV) (l : Launch) (M : mM) (p1 : Int32) (r : Int32) (M' : mM) (hf : fX12_prove M p1 = some (r, M')) : IR V l yX12_prove cX12_prove 5 ({ frames := 15, cells := 0, slots := 0, locals := 366 } : Room) [.ref (mvA V 0), .int p1] M r M' := by
  unfold fX12_prove at hf
  refine mw_enterI RX12 rfl (by decide +kernel) (Nat.le_of_ble_eq_true rfl) (fun {p e s m args below meth c} ls A Q hC hret hM hl => ?_)
  have hl : lv_has ls 5 [(0, .ref (mvA V 0)), (1, .int p1)] := hl
  have hL29 : ∀ (n : Nat) (M : mM) (x2 : Int32) (x3 : Int32) (H : Heap) (locs : List Loc) (ls : Array Slot), fX12_prove_L29 n M x2 x3 = some (r, M') → PR V M A s H locs → lv_has ls 5 [(0, .ref (mvA V 0)), (2, .int x2), (3, .int x3)] → W p l e ({ frames := 15, cells := 0, slots := 0, locals := 366 } : Room) s m args below meth c H locs 0 0 Q (F0 m 29 ls []) := by
    intro n18
    induction n18 with
    | zero => intro M x2 x3 H locs ls hf; cases hf
    | succ n18 ih18 =>
      intro M x2 x3 H locs ls hf hM hl
      have hf : fX12_prove_L29_b (fX12_prove_L29 n18) M x2 x3 = some (r, M') := hf
      unfold fX12_prove_L29_b at hf
      refine lv_iload_n hC.1 hC.2.1 dX12_prove_29 rfl (lv_at hl 2 rfl) ?_
      refine lv_iload_n hC.1 hC.2.1 dX12_prove_30 rfl (lv_at hl 1 rfl) ?_
      refine lv_icmp_ge (tgt := 108) hC.1 hC.2.1 dX12_prove_31 (by decide) (fun hc30 => ?_) (fun hc30 => ?_)
      · have hf := o_t hc30 hf
        refine lv_aload_n hC.1 hC.2.1 dX12_prove_108 rfl (lv_at hl 0 rfl) ?_
        obtain ⟨r10, M12, hq11, hf⟩ := o_b2 hf
        refine mw_cVv (As := []) (rest := []) hC hM (mcX12_laysAllBack V l M r10 M12 hq11) (mw_kV hC q_1641 q_1643 q_91 q_120 q_1644 ⟨rfl, rfl⟩ kV_X12_laysAllBack ⟨Nat.le_of_ble_eq_true rfl, Nat.le_of_ble_eq_true rfl⟩) (Nat.le_of_ble_eq_true rfl) (eR_0 V) rfl rfl rfl (Nat.le_of_ble_eq_true rfl) hl.1 dX12_prove_109 (fun H locs hM => ?_)
        refine lv_aload_n hC.1 hC.2.1 dX12_prove_112 rfl (lv_at hl 0 rfl) ?_
        refine lv_iload_n hC.1 hC.2.1 dX12_prove_113 rfl (lv_at hl 1 rfl) ?_
        refine mw_put hC hM 0 (Nat.le_of_ble_eq_true rfl) (eR_0 V) inW12 tyX12 tyX12_ok nmX12 rfl 20 (by decide) q_1166 (fun _ h9 => h9) rfl rfl rfl (Nat.le_of_ble_eq_true rfl) rfl dX12_prove_114 (fun H locs hM => ?_)
        refine lv_iload_n hC.1 hC.2.1 dX12_prove_117 rfl (lv_at hl 1 rfl) ?_
        exact hret (o_r1 hf) (o_r2 hf hM) dX12_prove_118
      · have hf := o_f hc30 hf
        refine lv_aload_n hC.1 hC.2.1 dX12_prove_34 rfl (lv_at hl 0 rfl) ?_
        refine lv_aload_n hC.1 hC.2.1 dX12_prove_35 rfl (lv_at hl 0 rfl) ?_
        refine mw_get (v := .ref (mvA V 7)) hC hM 0 (Nat.le_of_ble_eq_true rfl) (eR_0 V) inW12 rfl 14 (by decide) q_1160 (fun _ h9 => h9) rfl dX12_prove_36 ?_
        refine lv_iload_n hC.1 hC.2.1 dX12_prove_39 rfl (lv_at hl 2 rfl) ?_
        obtain ⟨hg13, hf⟩ := o_g hf
        refine mw_iald hC hM 7 0 (Nat.le_of_ble_eq_true rfl) (eR_7 V) rfl hg13 dX12_prove_40 ?_
        obtain ⟨r14, M16, hq15, hf⟩ := o_b2 hf
        refine mw_cVv (As := [.int (M 7 (Int32.toNatClampNeg x3))]) (rest := []) hC hM (mcX12_does V l M (M 7 (Int32.toNatClampNeg x3)) r14 M16 hq15) (mw_kV hC q_1549 q_1551 q_83 q_120 q_1552 ⟨rfl, rfl⟩ kV_X12_does ⟨Nat.le_of_ble_eq_true rfl, Nat.le_of_ble_eq_true rfl⟩) (Nat.le_of_ble_eq_true rfl) (eR_0 V) rfl rfl rfl (Nat.le_of_ble_eq_true rfl) hl.1 dX12_prove_41 (fun H locs hM => ?_)
        refine lv_aload_n hC.1 hC.2.1 dX12_prove_44 rfl (lv_at hl 0 rfl) ?_
        obtain ⟨r17, M19, hq18, hf⟩ := o_b2 hf
        refine mw_cVi (As := []) (rest := []) hC hM (mcX12_sumNow V l M16 r17 M19 hq18) (mw_kV hC q_1460 q_1462 q_72 q_120 q_1463 ⟨rfl, rfl⟩ kV_X12_sumNow ⟨Nat.le_of_ble_eq_true rfl, Nat.le_of_ble_eq_true rfl⟩) (Nat.le_of_ble_eq_true rfl) (eR_0 V) rfl rfl rfl (Nat.le_of_ble_eq_true rfl) hl.1 dX12_prove_45 (fun H locs hM _ => ?_)
        refine lv_istore (lv' := [(4, .int r17), (0, .ref (mvA V 0)), (2, .int x2), (3, .int x3)]) hC.1 hC.2.1 dX12_prove_48 hl (Nat.le_of_ble_eq_true rfl) rfl (fun ls hl => ?_)
        refine lv_aload_n hC.1 hC.2.1 dX12_prove_50 rfl (lv_at hl 1 rfl) ?_
        refine lv_aload_n hC.1 hC.2.1 dX12_prove_51 rfl (lv_at hl 1 rfl) ?_
        refine lv_iload hC.1 hC.2.1 dX12_prove_52 (lv_at hl 0 rfl) ?_
        obtain ⟨r20, hq21, hf⟩ := o_b hf
        refine mw_cVi (As := [.int r17]) (rest := [.ref (mvA V 0)]) hC hM (mcX12_moveBy V l M19 r17 r20 hq21) (mw_kV hC q_1472 q_1474 q_74 q_120 q_1475 ⟨rfl, rfl⟩ kV_X12_moveBy ⟨Nat.le_of_ble_eq_true rfl, Nat.le_of_ble_eq_true rfl⟩) (Nat.le_of_ble_eq_true rfl) (eR_0 V) rfl rfl rfl (Nat.le_of_ble_eq_true rfl) hl.1 dX12_prove_54 (fun H locs hM _ => ?_)
        obtain ⟨r22, M24, hq23, hf⟩ := o_b2 hf
        refine mw_cVv (As := [.int r20]) (rest := []) hC hM (mcX12_turns V l M19 r20 r22 M24 hq23) (mw_kV hC q_1476 q_1478 q_75 q_120 q_1479 ⟨rfl, rfl⟩ kV_X12_turns ⟨Nat.le_of_ble_eq_true rfl, Nat.le_of_ble_eq_true rfl⟩) (Nat.le_of_ble_eq_true rfl) (eR_0 V) rfl rfl rfl (Nat.le_of_ble_eq_true rfl) hl.1 dX12_prove_57 (fun H locs hM => ?_)
        refine lv_aload_n hC.1 hC.2.1 dX12_prove_60 rfl (lv_at hl 1 rfl) ?_
        refine mw_get (v := .ref (mvA V 9)) hC hM 0 (Nat.le_of_ble_eq_true rfl) (eR_0 V) inW12 rfl 19 (by decide) q_1165 (fun _ h9 => h9) rfl dX12_prove_61 ?_
        refine lv_iconst hC.1 hC.2.1 dX12_prove_64 ci_3 ?_
        refine lv_iload_n hC.1 hC.2.1 dX12_prove_65 rfl (lv_at hl 3 rfl) ?_
        refine lv_imul hC.1 hC.2.1 dX12_prove_66 ?_
        refine lv_aload_n hC.1 hC.2.1 dX12_prove_67 rfl (lv_at hl 1 rfl) ?_
        refine mw_get (v := .ref (mvA V 7)) hC hM 0 (Nat.le_of_ble_eq_true rfl) (eR_0 V) inW12 rfl 14 (by decide) q_1160 (fun _ h9 => h9) rfl dX12_prove_68 ?_
        refine lv_iload_n hC.1 hC.2.1 dX12_prove_71 rfl (lv_at hl 3 rfl) ?_
        obtain ⟨hg25, hf⟩ := o_g hf
        refine mw_iald hC hM 7 0 (Nat.le_of_ble_eq_true rfl) (eR_7 V) rfl hg25 dX12_prove_72 ?_
        obtain ⟨hg26, hf⟩ := o_g hf
        refine mw_iast hC hM 9 0 (Nat.le_of_ble_eq_true rfl) (eR_9 V) rfl hg26 dX12_prove_73 (fun H locs hM => ?_)
        refine lv_aload_n hC.1 hC.2.1 dX12_prove_74 rfl (lv_at hl 1 rfl) ?_
        refine mw_get (v := .ref (mvA V 9)) hC hM 0 (Nat.le_of_ble_eq_true rfl) (eR_0 V) inW12 rfl 19 (by decide) q_1165 (fun _ h9 => h9) rfl dX12_prove_75 ?_
        refine lv_iconst hC.1 hC.2.1 dX12_prove_78 ci_3 ?_
        refine lv_iload_n hC.1 hC.2.1 dX12_prove_79 rfl (lv_at hl 3 rfl) ?_
        refine lv_imul hC.1 hC.2.1 dX12_prove_80 ?_
        refine lv_iconst hC.1 hC.2.1 dX12_prove_81 ci_1 ?_
        refine lv_iadd hC.1 hC.2.1 dX12_prove_82 ?_
        refine lv_iload hC.1 hC.2.1 dX12_prove_83 (lv_at hl 0 rfl) ?_
        obtain ⟨hg27, hf⟩ := o_g hf
        refine mw_iast hC hM 9 0 (Nat.le_of_ble_eq_true rfl) (eR_9 V) rfl hg27 dX12_prove_85 (fun H locs hM => ?_)
        refine lv_aload_n hC.1 hC.2.1 dX12_prove_86 rfl (lv_at hl 1 rfl) ?_
        refine mw_get (v := .ref (mvA V 9)) hC hM 0 (Nat.le_of_ble_eq_true rfl) (eR_0 V) inW12 rfl 19 (by decide) q_1165 (fun _ h9 => h9) rfl dX12_prove_87 ?_
        refine lv_iconst hC.1 hC.2.1 dX12_prove_90 ci_3 ?_
        refine lv_iload_n hC.1 hC.2.1 dX12_prove_91 rfl (lv_at hl 3 rfl) ?_
        refine lv_imul hC.1 hC.2.1 dX12_prove_92 ?_
        refine lv_iconst hC.1 hC.2.1 dX12_prove_93 ci_2 ?_
        refine lv_iadd hC.1 hC.2.1 dX12_prove_94 ?_
        refine lv_aload_n hC.1 hC.2.1 dX12_prove_95 rfl (lv_at hl 1 rfl) ?_
        refine mw_get (v := .ref (mvA V 1)) hC hM 0 (Nat.le_of_ble_eq_true rfl) (eR_0 V) inW12 rfl 0 (by decide) q_1146 (fun _ h9 => h9) rfl dX12_prove_96 ?_
        refine lv_iconst hC.1 hC.2.1 dX12_prove_99 ci_1 ?_
        obtain ⟨hg28, hf⟩ := o_g hf
        refine mw_iald hC hM 1 0 (Nat.le_of_ble_eq_true rfl) (eR_1 V) rfl hg28 dX12_prove_100 ?_
        obtain ⟨hg29, hf⟩ := o_g hf
        refine mw_iast hC hM 9 0 (Nat.le_of_ble_eq_true rfl) (eR_9 V) rfl hg29 dX12_prove_101 (fun H locs hM => ?_)
        refine lv_iinc (k := 3) (lv' := [(3, .int (x3 + 1)), (4, .int r17), (0, .ref (mvA V 0)), (2, .int x2)]) hC.1 hC.2.1 dX12_prove_102 hl rfl (inc_1 _) (Nat.le_of_ble_eq_true rfl) rfl (fun ls hl => ?_)
        refine lv_goto (tgt := 29) hC.1 hC.2.1 dX12_prove_105 (by decide) ?_
        exact ih18 _ _ _ _ _ _ hf hM (lv_sub hl [2, 3, 0] rfl)
  refine lv_iload_n hC.1 hC.2.1 dX12_prove_0 rfl (lv_at hl 1 rfl) ?_
  refine mw_cSi (As := [.int p1]) (rest := []) hC hM (mcX12_isHour V l M p1 _ rfl) (mw_kS hC q_1263 q_1264 q_120 q_1265 ⟨rfl, rfl⟩ kS_X12_isHour ⟨Nat.le_of_ble_eq_true rfl, Nat.le_of_ble_eq_true rfl⟩) rfl rfl (Nat.le_of_ble_eq_true rfl) hl.1 dX12_prove_1 (fun H locs hM hb1 => ?_)
  refine lv_if_ne (tgt := 9) hC.1 hC.2.1 dX12_prove_4 (by decide) (fun hc9 => ?_) (fun hc9 => ?_)
  · have hf := o_f hc9 hf
    refine lv_aload_n hC.1 hC.2.1 dX12_prove_9 rfl (lv_at hl 0 rfl) ?_
    refine lv_iload_n hC.1 hC.2.1 dX12_prove_10 rfl (lv_at hl 1 rfl) ?_
    refine lv_iconst hC.1 hC.2.1 dX12_prove_11 ci_4 ?_
    obtain ⟨r2, M4, hq3, hf⟩ := o_b2 hf
    refine mw_cVi (As := [.int p1, .int 4]) (rest := []) hC hM (mcX12_fewestFor V l M p1 4 r2 M4 hq3) (mw_kV hC q_1541 q_1543 q_81 q_120 q_1544 ⟨rfl, rfl⟩ kV_X12_fewestFor ⟨Nat.le_of_ble_eq_true rfl, Nat.le_of_ble_eq_true rfl⟩) (Nat.le_of_ble_eq_true rfl) (eR_0 V) rfl rfl rfl (Nat.le_of_ble_eq_true rfl) hl.1 dX12_prove_12 (fun H locs hM _ => ?_)
    refine lv_istore_n (lv' := [(2, .int r2), (0, .ref (mvA V 0)), (1, .int p1)]) hC.1 hC.2.1 dX12_prove_15 rfl hl (Nat.le_of_ble_eq_true rfl) rfl (fun ls hl => ?_)
    refine lv_iload_n hC.1 hC.2.1 dX12_prove_16 rfl (lv_at hl 0 rfl) ?_
    refine lv_if_ge (tgt := 23) hC.1 hC.2.1 dX12_prove_17 (by decide) (fun hc8 => ?_) (fun hc8 => ?_)
    · have hf := o_t hc8 hf
      refine lv_aload_n hC.1 hC.2.1 dX12_prove_23 rfl (lv_at hl 1 rfl) ?_
      obtain ⟨r5, M7, hq6, hf⟩ := o_b2 hf
      refine mw_cVv (As := []) (rest := []) hC hM (mcX12_thinksAll V l M4 r5 M7 hq6) (mw_kV hC q_1637 q_1639 q_90 q_120 q_1640 ⟨rfl, rfl⟩ kV_X12_thinksAll ⟨Nat.le_of_ble_eq_true rfl, Nat.le_of_ble_eq_true rfl⟩) (Nat.le_of_ble_eq_true rfl) (eR_0 V) rfl rfl rfl (Nat.le_of_ble_eq_true rfl) hl.1 dX12_prove_24 (fun H locs hM => ?_)
      refine lv_iconst hC.1 hC.2.1 dX12_prove_27 ci_0 ?_
      refine lv_istore_n (lv' := [(3, .int 0), (2, .int r2), (0, .ref (mvA V 0)), (1, .int p1)]) hC.1 hC.2.1 dX12_prove_28 rfl hl (Nat.le_of_ble_eq_true rfl) rfl (fun ls hl => ?_)
      exact hL29 _ _ _ _ _ _ _ hf hM (lv_sub hl [2, 1, 0] rfl)
    · have hf := o_f hc8 hf
      refine lv_bipush hC.1 hC.2.1 dX12_prove_20 cb_m3 ?_
      exact hret (o_r1 hf) (o_r2 hf hM) dX12_prove_22
  · have hf := o_t hc9 hf
    refine lv_iconst hC.1 hC.2.1 dX12_prove_7 ci_m1 ?_
    exact hret (o_r1 hf) (o_r2 hf hM) dX12_prove_8
set_option maxHeartbeats 4000000 in
set_option maxRecDepth 100000 in
theorem mcX12_isCell (V : mV) (l : Launch) (M : mM) (p1 : Int32) (p2 : Int32) (r : Int32) (hf : fX12_isCell M p1 p2 = r) : ZR V l yX12_isCell cX12_isCell 3 ({ frames := 1, cells := 0, slots := 0, locals := 25 } : Room) [.ref (mvA V 0), .int p1, .int p2] M r M := by
  unfold fX12_isCell at hf
  refine mw_enterZ RX12 rfl (by decide +kernel) (Nat.le_of_ble_eq_true rfl) (fun {p e s m args below meth c} ls A Q hC hret hM hl => ?_)
  have hl : lv_has ls 3 [(0, .ref (mvA V 0)), (1, .int p1), (2, .int p2)] := hl
  refine lv_iload_n hC.1 hC.2.1 dX12_isCell_0 rfl (lv_at hl 1 rfl) ?_
  refine lv_i2l (v := (Int32.toInt64 p1)) hC.1 hC.2.1 dX12_isCell_1 rfl ?_
  refine lv_lconst (v := 0) hC.1 hC.2.1 dX12_isCell_2 rfl ?_
  refine lv_aload_n hC.1 hC.2.1 dX12_isCell_3 rfl (lv_at hl 0 rfl) ?_
  refine mw_get (v := .int (M 0 20)) hC hM 0 (Nat.le_of_ble_eq_true rfl) (eR_0 V) inW12 rfl 20 (by decide) q_1166 (fun _ h9 => h9) rfl dX12_isCell_4 ?_
  refine lv_iconst hC.1 hC.2.1 dX12_isCell_7 ci_1 ?_
  refine lv_isub hC.1 hC.2.1 dX12_isCell_8 ?_
  refine lv_i2l (v := (Int32.toInt64 ((M 0 20) - 1))) hC.1 hC.2.1 dX12_isCell_9 rfl ?_
  refine mw_cSi (As := [.long (Int32.toInt64 p1), .long 0, .long (Int32.toInt64 ((M 0 20) - 1))]) (rest := []) hC hM (mcX12_in V l M (Int32.toInt64 p1) 0 (Int32.toInt64 ((M 0 20) - 1)) _ rfl) (mw_kS hC q_1257 q_1258 q_120 q_1259 ⟨rfl, rfl⟩ kS_X12_in ⟨Nat.le_of_ble_eq_true rfl, Nat.le_of_ble_eq_true rfl⟩) rfl rfl (Nat.le_of_ble_eq_true rfl) hl.1 dX12_isCell_10 (fun H locs hM hb1 => ?_)
  refine lv_if_eq (tgt := 32) hC.1 hC.2.1 dX12_isCell_13 (by decide) (fun hc4 => ?_) (fun hc4 => ?_)
  · have hf := o_t hc4 hf
    refine lv_iconst hC.1 hC.2.1 dX12_isCell_32 ci_0 ?_
    exact hret hf (Or.inl rfl) hM dX12_isCell_33
  · have hf := o_f hc4 hf
    refine lv_iload_n hC.1 hC.2.1 dX12_isCell_16 rfl (lv_at hl 2 rfl) ?_
    refine lv_i2l (v := (Int32.toInt64 p2)) hC.1 hC.2.1 dX12_isCell_17 rfl ?_
    refine lv_lconst (v := 0) hC.1 hC.2.1 dX12_isCell_18 rfl ?_
    refine lv_ldc2 hC.1 hC.2.1 hC.2.2.2.1 (mw_w hC q_1505) dX12_isCell_19 ?_
    refine mw_cSi (As := [.long (Int32.toInt64 p2), .long 0, .long 2]) (rest := []) hC hM (mcX12_in V l M (Int32.toInt64 p2) 0 2 _ rfl) (mw_kS hC q_1257 q_1258 q_120 q_1259 ⟨rfl, rfl⟩ kS_X12_in ⟨Nat.le_of_ble_eq_true rfl, Nat.le_of_ble_eq_true rfl⟩) rfl rfl (Nat.le_of_ble_eq_true rfl) hl.1 dX12_isCell_22 (fun H locs hM hb2 => ?_)
    refine lv_if_eq (tgt := 32) hC.1 hC.2.1 dX12_isCell_25 (by decide) (fun hc3 => ?_) (fun hc3 => ?_)
    · have hf := o_t hc3 hf
      refine lv_iconst hC.1 hC.2.1 dX12_isCell_32 ci_0 ?_
      exact hret hf (Or.inl rfl) hM dX12_isCell_33
    · have hf := o_f hc3 hf
      refine lv_iconst hC.1 hC.2.1 dX12_isCell_28 ci_1 ?_
      refine lv_goto (tgt := 33) hC.1 hC.2.1 dX12_isCell_29 (by decide) ?_
      exact hret hf (Or.inr rfl) hM dX12_isCell_33
set_option maxHeartbeats 4000000 in
set_option maxRecDepth 100000 in
theorem mcX12_row (V : mV) (l : Launch) (M : mM) (p1 : Int32) (p2 : Int32) (r : Int32) (hf : fX12_row M p1 p2 = some r) : IR V l yX12_row cX12_row 3 ({ frames := 2, cells := 0, slots := 0, locals := 47 } : Room) [.ref (mvA V 0), .int p1, .int p2] M r M := by
  unfold fX12_row at hf
  refine mw_enterI RX12 rfl (by decide +kernel) (Nat.le_of_ble_eq_true rfl) (fun {p e s m args below meth c} ls A Q hC hret hM hl => ?_)
  have hl : lv_has ls 3 [(0, .ref (mvA V 0)), (1, .int p1), (2, .int p2)] := hl
  refine lv_aload_n hC.1 hC.2.1 dX12_row_0 rfl (lv_at hl 0 rfl) ?_
  refine lv_iload_n hC.1 hC.2.1 dX12_row_1 rfl (lv_at hl 1 rfl) ?_
  refine lv_iload_n hC.1 hC.2.1 dX12_row_2 rfl (lv_at hl 2 rfl) ?_
  refine mw_cVi (As := [.int p1, .int p2]) (rest := []) hC hM (mcX12_isCell V l M p1 p2 _ rfl) (mw_kV hC q_1649 q_1651 q_92 q_120 q_1652 ⟨rfl, rfl⟩ kV_X12_isCell ⟨Nat.le_of_ble_eq_true rfl, Nat.le_of_ble_eq_true rfl⟩) (Nat.le_of_ble_eq_true rfl) (eR_0 V) rfl rfl rfl (Nat.le_of_ble_eq_true rfl) hl.1 dX12_row_3 (fun H locs hM hb1 => ?_)
  refine lv_if_eq (tgt := 22) hC.1 hC.2.1 dX12_row_6 (by decide) (fun hc3 => ?_) (fun hc3 => ?_)
  · have hf := o_t hc3 hf
    refine lv_bipush hC.1 hC.2.1 dX12_row_22 cb_m9 ?_
    exact hret (Option.some.inj hf) hM dX12_row_24
  · have hf := o_f hc3 hf
    refine lv_aload_n hC.1 hC.2.1 dX12_row_9 rfl (lv_at hl 0 rfl) ?_
    refine mw_get (v := .ref (mvA V 9)) hC hM 0 (Nat.le_of_ble_eq_true rfl) (eR_0 V) inW12 rfl 19 (by decide) q_1165 (fun _ h9 => h9) rfl dX12_row_10 ?_
    refine lv_iconst hC.1 hC.2.1 dX12_row_13 ci_3 ?_
    refine lv_iload_n hC.1 hC.2.1 dX12_row_14 rfl (lv_at hl 1 rfl) ?_
    refine lv_imul hC.1 hC.2.1 dX12_row_15 ?_
    refine lv_iload_n hC.1 hC.2.1 dX12_row_16 rfl (lv_at hl 2 rfl) ?_
    refine lv_iadd hC.1 hC.2.1 dX12_row_17 ?_
    obtain ⟨hg2, hf⟩ := o_g hf
    refine mw_iald hC hM 9 0 (Nat.le_of_ble_eq_true rfl) (eR_9 V) rfl hg2 dX12_row_18 ?_
    refine lv_goto (tgt := 24) hC.1 hC.2.1 dX12_row_19 (by decide) ?_
    exact hret (Option.some.inj hf) hM dX12_row_24
set_option maxHeartbeats 4000000 in
set_option maxRecDepth 100000 in
theorem mcX12_alterRow (V : mV) (l : Launch) (M : mM) (p1 : Int32) (p2 : Int32) (p3 : Int32) (r : Int32) (M' : mM) (hf : fX12_alterRow M p1 p2 p3 = some (r, M')) : IR V l yX12_alterRow cX12_alterRow 5 ({ frames := 2, cells := 0, slots := 0, locals := 47 } : Room) [.ref (mvA V 0), .int p1, .int p2, .int p3] M r M' := by
  unfold fX12_alterRow at hf
  refine mw_enterI RX12 rfl (by decide +kernel) (Nat.le_of_ble_eq_true rfl) (fun {p e s m args below meth c} ls A Q hC hret hM hl => ?_)
  have hl : lv_has ls 5 [(0, .ref (mvA V 0)), (1, .int p1), (2, .int p2), (3, .int p3)] := hl
  refine lv_aload_n hC.1 hC.2.1 dX12_alterRow_0 rfl (lv_at hl 0 rfl) ?_
  refine lv_iload_n hC.1 hC.2.1 dX12_alterRow_1 rfl (lv_at hl 1 rfl) ?_
  refine lv_iload_n hC.1 hC.2.1 dX12_alterRow_2 rfl (lv_at hl 2 rfl) ?_
  refine mw_cVi (As := [.int p1, .int p2]) (rest := []) hC hM (mcX12_isCell V l M p1 p2 _ rfl) (mw_kV hC q_1649 q_1651 q_92 q_120 q_1652 ⟨rfl, rfl⟩ kV_X12_isCell ⟨Nat.le_of_ble_eq_true rfl, Nat.le_of_ble_eq_true rfl⟩) (Nat.le_of_ble_eq_true rfl) (eR_0 V) rfl rfl rfl (Nat.le_of_ble_eq_true rfl) hl.1 dX12_alterRow_3 (fun H locs hM hb1 => ?_)
  refine lv_if_ne (tgt := 11) hC.1 hC.2.1 dX12_alterRow_6 (by decide) (fun hc5 => ?_) (fun hc5 => ?_)
  · have hf := o_f hc5 hf
    refine lv_aload_n hC.1 hC.2.1 dX12_alterRow_11 rfl (lv_at hl 0 rfl) ?_
    refine mw_get (v := .ref (mvA V 9)) hC hM 0 (Nat.le_of_ble_eq_true rfl) (eR_0 V) inW12 rfl 19 (by decide) q_1165 (fun _ h9 => h9) rfl dX12_alterRow_12 ?_
    refine lv_iconst hC.1 hC.2.1 dX12_alterRow_15 ci_3 ?_
    refine lv_iload_n hC.1 hC.2.1 dX12_alterRow_16 rfl (lv_at hl 1 rfl) ?_
    refine lv_imul hC.1 hC.2.1 dX12_alterRow_17 ?_
    refine lv_iload_n hC.1 hC.2.1 dX12_alterRow_18 rfl (lv_at hl 2 rfl) ?_
    refine lv_iadd hC.1 hC.2.1 dX12_alterRow_19 ?_
    obtain ⟨hg2, hf⟩ := o_g hf
    refine mw_iald hC hM 9 0 (Nat.le_of_ble_eq_true rfl) (eR_9 V) rfl hg2 dX12_alterRow_20 ?_
    refine lv_istore (lv' := [(4, .int (M 9 (Int32.toNatClampNeg ((3 * p1) + p2)))), (0, .ref (mvA V 0)), (1, .int p1), (2, .int p2), (3, .int p3)]) hC.1 hC.2.1 dX12_alterRow_21 hl (Nat.le_of_ble_eq_true rfl) rfl (fun ls hl => ?_)
    refine lv_aload_n hC.1 hC.2.1 dX12_alterRow_23 rfl (lv_at hl 1 rfl) ?_
    refine mw_get (v := .ref (mvA V 9)) hC hM 0 (Nat.le_of_ble_eq_true rfl) (eR_0 V) inW12 rfl 19 (by decide) q_1165 (fun _ h9 => h9) rfl dX12_alterRow_24 ?_
    refine lv_iconst hC.1 hC.2.1 dX12_alterRow_27 ci_3 ?_
    refine lv_iload_n hC.1 hC.2.1 dX12_alterRow_28 rfl (lv_at hl 2 rfl) ?_
    refine lv_imul hC.1 hC.2.1 dX12_alterRow_29 ?_
    refine lv_iload_n hC.1 hC.2.1 dX12_alterRow_30 rfl (lv_at hl 3 rfl) ?_
    refine lv_iadd hC.1 hC.2.1 dX12_alterRow_31 ?_
    refine lv_iload_n hC.1 hC.2.1 dX12_alterRow_32 rfl (lv_at hl 4 rfl) ?_
    obtain ⟨hg3, hf⟩ := o_g hf
    refine mw_iast hC hM 9 0 (Nat.le_of_ble_eq_true rfl) (eR_9 V) rfl hg3 dX12_alterRow_33 (fun H locs hM => ?_)
    refine lv_iload hC.1 hC.2.1 dX12_alterRow_34 (lv_at hl 0 rfl) ?_
    refine lv_iload_n hC.1 hC.2.1 dX12_alterRow_36 rfl (lv_at hl 4 rfl) ?_
    refine lv_icmp_ne (tgt := 44) hC.1 hC.2.1 dX12_alterRow_37 (by decide) (fun hc4 => ?_) (fun hc4 => ?_)
    · have hf := o_f hc4 hf
      refine lv_iconst hC.1 hC.2.1 dX12_alterRow_44 ci_2 ?_
      exact hret (o_r1 hf) (o_r2 hf hM) dX12_alterRow_45
    · have hf := o_t hc4 hf
      refine lv_iconst hC.1 hC.2.1 dX12_alterRow_40 ci_1 ?_
      refine lv_goto (tgt := 45) hC.1 hC.2.1 dX12_alterRow_41 (by decide) ?_
      exact hret (o_r1 hf) (o_r2 hf hM) dX12_alterRow_45
  · have hf := o_t hc5 hf
    refine lv_iconst hC.1 hC.2.1 dX12_alterRow_9 ci_0 ?_
    exact hret (o_r1 hf) (o_r2 hf hM) dX12_alterRow_10
set_option maxHeartbeats 4000000 in
set_option maxRecDepth 100000 in
theorem mcX12_isRight (V : mV) (l : Launch) (M : mM) (p1 : Int32) (p2 : Int32) (r : Int32) (M' : mM) (hf : fX12_isRight M p1 p2 = some (r, M')) : ZR V l yX12_isRight cX12_isRight 5 ({ frames := 7, cells := 0, slots := 0, locals := 161 } : Room) [.ref (mvA V 0), .int p1, .int p2] M r M' := by
  unfold fX12_isRight at hf
  refine mw_enterZ RX12 rfl (by decide +kernel) (Nat.le_of_ble_eq_true rfl) (fun {p e s m args below meth c} ls A Q hC hret hM hl => ?_)
  have hl : lv_has ls 5 [(0, .ref (mvA V 0)), (1, .int p1), (2, .int p2)] := hl
  have hL76 : ∀ (M : mM) (x1 : Int32) (x3 : Int32) (t0 : Int32) (H : Heap) (locs : List Loc) (ls : Array Slot), fX12_isRight_L76 M x1 x3 t0 = some (r, M') → PR V M A s H locs → lv_has ls 5 [(0, .ref (mvA V 0)), (1, .int x1), (3, .int x3)] → W p l e ({ frames := 7, cells := 0, slots := 0, locals := 161 } : Room) s m args below meth c H locs 0 0 Q (F0 m 76 ls [.int t0]) := by
    intro M x1 x3 t0 H locs ls hf hM hl
    unfold fX12_isRight_L76 at hf
    refine lv_istore (lv' := [(4, .int t0), (0, .ref (mvA V 0)), (1, .int x1), (3, .int x3)]) hC.1 hC.2.1 dX12_isRight_76 hl (Nat.le_of_ble_eq_true rfl) rfl (fun ls hl => ?_)
    refine lv_aload_n hC.1 hC.2.1 dX12_isRight_78 rfl (lv_at hl 1 rfl) ?_
    refine mw_get (v := .ref (mvA V 9)) hC hM 0 (Nat.le_of_ble_eq_true rfl) (eR_0 V) inW12 rfl 19 (by decide) q_1165 (fun _ h9 => h9) rfl dX12_isRight_79 ?_
    refine lv_iconst hC.1 hC.2.1 dX12_isRight_82 ci_3 ?_
    refine lv_iload_n hC.1 hC.2.1 dX12_isRight_83 rfl (lv_at hl 2 rfl) ?_
    refine lv_imul hC.1 hC.2.1 dX12_isRight_84 ?_
    refine lv_iconst hC.1 hC.2.1 dX12_isRight_85 ci_1 ?_
    refine lv_iadd hC.1 hC.2.1 dX12_isRight_86 ?_
    obtain ⟨hg20, hf⟩ := o_g hf
    refine mw_iald hC hM 9 0 (Nat.le_of_ble_eq_true rfl) (eR_9 V) rfl hg20 dX12_isRight_87 ?_
    refine lv_iload_n hC.1 hC.2.1 dX12_isRight_88 rfl (lv_at hl 3 rfl) ?_
    refine lv_icmp_ne (tgt := 120) hC.1 hC.2.1 dX12_isRight_89 (by decide) (fun hc25 => ?_) (fun hc25 => ?_)
    · have hf := o_f hc25 hf
      refine lv_iconst hC.1 hC.2.1 dX12_isRight_120 ci_0 ?_
      exact hret (o_r1 hf) (Or.inl rfl) (o_r2 hf hM) dX12_isRight_121
    · have hf := o_t hc25 hf
      refine lv_aload_n hC.1 hC.2.1 dX12_isRight_92 rfl (lv_at hl 1 rfl) ?_
      refine mw_get (v := .ref (mvA V 9)) hC hM 0 (Nat.le_of_ble_eq_true rfl) (eR_0 V) inW12 rfl 19 (by decide) q_1165 (fun _ h9 => h9) rfl dX12_isRight_93 ?_
      refine lv_iconst hC.1 hC.2.1 dX12_isRight_96 ci_3 ?_
      refine lv_iload_n hC.1 hC.2.1 dX12_isRight_97 rfl (lv_at hl 2 rfl) ?_
      refine lv_imul hC.1 hC.2.1 dX12_isRight_98 ?_
      refine lv_iconst hC.1 hC.2.1 dX12_isRight_99 ci_2 ?_
      refine lv_iadd hC.1 hC.2.1 dX12_isRight_100 ?_
      obtain ⟨hg21, hf⟩ := o_g hf
      refine mw_iald hC hM 9 0 (Nat.le_of_ble_eq_true rfl) (eR_9 V) rfl hg21 dX12_isRight_101 ?_
      refine lv_aload_n hC.1 hC.2.1 dX12_isRight_102 rfl (lv_at hl 1 rfl) ?_
      refine mw_get (v := .ref (mvA V 1)) hC hM 0 (Nat.le_of_ble_eq_true rfl) (eR_0 V) inW12 rfl 0 (by decide) q_1146 (fun _ h9 => h9) rfl dX12_isRight_103 ?_
      refine lv_iconst hC.1 hC.2.1 dX12_isRight_106 ci_1 ?_
      obtain ⟨hg22, hf⟩ := o_g hf
      refine mw_iald hC hM 1 0 (Nat.le_of_ble_eq_true rfl) (eR_1 V) rfl hg22 dX12_isRight_107 ?_
      refine lv_icmp_ne (tgt := 120) hC.1 hC.2.1 dX12_isRight_108 (by decide) (fun hc24 => ?_) (fun hc24 => ?_)
      · have hf := o_f hc24 hf
        refine lv_iconst hC.1 hC.2.1 dX12_isRight_120 ci_0 ?_
        exact hret (o_r1 hf) (Or.inl rfl) (o_r2 hf hM) dX12_isRight_121
      · have hf := o_t hc24 hf
        refine lv_iload hC.1 hC.2.1 dX12_isRight_111 (lv_at hl 0 rfl) ?_
        refine lv_if_eq (tgt := 120) hC.1 hC.2.1 dX12_isRight_113 (by decide) (fun hc23 => ?_) (fun hc23 => ?_)
        · have hf := o_t hc23 hf
          refine lv_iconst hC.1 hC.2.1 dX12_isRight_120 ci_0 ?_
          exact hret (o_r1 hf) (Or.inl rfl) (o_r2 hf hM) dX12_isRight_121
        · have hf := o_f hc23 hf
          refine lv_iconst hC.1 hC.2.1 dX12_isRight_116 ci_1 ?_
          refine lv_goto (tgt := 121) hC.1 hC.2.1 dX12_isRight_117 (by decide) ?_
          exact hret (o_r1 hf) (Or.inr rfl) (o_r2 hf hM) dX12_isRight_121
  have hL71 : ∀ (M : mM) (x1 : Int32) (x3 : Int32) (H : Heap) (locs : List Loc) (ls : Array Slot), fX12_isRight_L71 M x1 x3 = some (r, M') → PR V M A s H locs → lv_has ls 5 [(0, .ref (mvA V 0)), (1, .int x1), (3, .int x3)] → W p l e ({ frames := 7, cells := 0, slots := 0, locals := 161 } : Room) s m args below meth c H locs 0 0 Q (F0 m 71 ls []) := by
    intro M x1 x3 H locs ls hf hM hl
    unfold fX12_isRight_L71 at hf
    refine lv_iconst hC.1 hC.2.1 dX12_isRight_71 ci_1 ?_
    refine lv_goto (tgt := 76) hC.1 hC.2.1 dX12_isRight_72 (by decide) ?_
    exact hL76 _ _ _ _ _ _ _ hf hM (lv_sub hl [0, 1, 2] rfl)
  refine lv_aload_n hC.1 hC.2.1 dX12_isRight_0 rfl (lv_at hl 0 rfl) ?_
  refine mw_get (v := .ref (mvA V 9)) hC hM 0 (Nat.le_of_ble_eq_true rfl) (eR_0 V) inW12 rfl 19 (by decide) q_1165 (fun _ h9 => h9) rfl dX12_isRight_1 ?_
  refine lv_iconst hC.1 hC.2.1 dX12_isRight_4 ci_3 ?_
  refine lv_iload_n hC.1 hC.2.1 dX12_isRight_5 rfl (lv_at hl 1 rfl) ?_
  refine lv_imul hC.1 hC.2.1 dX12_isRight_6 ?_
  obtain ⟨hg1, hf⟩ := o_g hf
  refine mw_iald hC hM 9 0 (Nat.le_of_ble_eq_true rfl) (eR_9 V) rfl hg1 dX12_isRight_7 ?_
  refine lv_i2l (v := (Int32.toInt64 (M 9 (Int32.toNatClampNeg (3 * p1))))) hC.1 hC.2.1 dX12_isRight_8 rfl ?_
  refine lv_lconst (v := 0) hC.1 hC.2.1 dX12_isRight_9 rfl ?_
  refine lv_aload_n hC.1 hC.2.1 dX12_isRight_10 rfl (lv_at hl 0 rfl) ?_
  refine mw_get (v := .ref (mvA V 1)) hC hM 0 (Nat.le_of_ble_eq_true rfl) (eR_0 V) inW12 rfl 0 (by decide) q_1146 (fun _ h9 => h9) rfl dX12_isRight_11 ?_
  refine lv_iconst hC.1 hC.2.1 dX12_isRight_14 ci_0 ?_
  obtain ⟨hg2, hf⟩ := o_g hf
  refine mw_iald hC hM 1 0 (Nat.le_of_ble_eq_true rfl) (eR_1 V) rfl hg2 dX12_isRight_15 ?_
  refine lv_i2l (v := (Int32.toInt64 (M 1 (Int32.toNatClampNeg 0)))) hC.1 hC.2.1 dX12_isRight_16 rfl ?_
  refine mw_cSi (As := [.long (Int32.toInt64 (M 9 (Int32.toNatClampNeg (3 * p1)))), .long 0, .long (Int32.toInt64 (M 1 (Int32.toNatClampNeg 0)))]) (rest := []) hC hM (mcX12_in V l M (Int32.toInt64 (M 9 (Int32.toNatClampNeg (3 * p1)))) 0 (Int32.toInt64 (M 1 (Int32.toNatClampNeg 0))) _ rfl) (mw_kS hC q_1257 q_1258 q_120 q_1259 ⟨rfl, rfl⟩ kS_X12_in ⟨Nat.le_of_ble_eq_true rfl, Nat.le_of_ble_eq_true rfl⟩) rfl rfl (Nat.le_of_ble_eq_true rfl) hl.1 dX12_isRight_17 (fun H locs hM hb3 => ?_)
  refine lv_if_ne (tgt := 25) hC.1 hC.2.1 dX12_isRight_20 (by decide) (fun hc19 => ?_) (fun hc19 => ?_)
  · have hf := o_f hc19 hf
    refine lv_aload_n hC.1 hC.2.1 dX12_isRight_25 rfl (lv_at hl 0 rfl) ?_
    refine lv_aload_n hC.1 hC.2.1 dX12_isRight_26 rfl (lv_at hl 0 rfl) ?_
    refine mw_get (v := .ref (mvA V 9)) hC hM 0 (Nat.le_of_ble_eq_true rfl) (eR_0 V) inW12 rfl 19 (by decide) q_1165 (fun _ h9 => h9) rfl dX12_isRight_27 ?_
    refine lv_iconst hC.1 hC.2.1 dX12_isRight_30 ci_3 ?_
    refine lv_iload_n hC.1 hC.2.1 dX12_isRight_31 rfl (lv_at hl 1 rfl) ?_
    refine lv_imul hC.1 hC.2.1 dX12_isRight_32 ?_
    obtain ⟨hg4, hf⟩ := o_g hf
    refine mw_iald hC hM 9 0 (Nat.le_of_ble_eq_true rfl) (eR_9 V) rfl hg4 dX12_isRight_33 ?_
    obtain ⟨r5, M7, hq6, hf⟩ := o_b2 hf
    refine mw_cVv (As := [.int (M 9 (Int32.toNatClampNeg (3 * p1)))]) (rest := []) hC hM (mcX12_does V l M (M 9 (Int32.toNatClampNeg (3 * p1))) r5 M7 hq6) (mw_kV hC q_1549 q_1551 q_83 q_120 q_1552 ⟨rfl, rfl⟩ kV_X12_does ⟨Nat.le_of_ble_eq_true rfl, Nat.le_of_ble_eq_true rfl⟩) (Nat.le_of_ble_eq_true rfl) (eR_0 V) rfl rfl rfl (Nat.le_of_ble_eq_true rfl) hl.1 dX12_isRight_34 (fun H locs hM => ?_)
    refine lv_aload_n hC.1 hC.2.1 dX12_isRight_37 rfl (lv_at hl 0 rfl) ?_
    obtain ⟨r8, M10, hq9, hf⟩ := o_b2 hf
    refine mw_cVi (As := []) (rest := []) hC hM (mcX12_sumNow V l M7 r8 M10 hq9) (mw_kV hC q_1460 q_1462 q_72 q_120 q_1463 ⟨rfl, rfl⟩ kV_X12_sumNow ⟨Nat.le_of_ble_eq_true rfl, Nat.le_of_ble_eq_true rfl⟩) (Nat.le_of_ble_eq_true rfl) (eR_0 V) rfl rfl rfl (Nat.le_of_ble_eq_true rfl) hl.1 dX12_isRight_38 (fun H locs hM _ => ?_)
    refine lv_istore_n (lv' := [(3, .int r8), (0, .ref (mvA V 0)), (1, .int p1), (2, .int p2)]) hC.1 hC.2.1 dX12_isRight_41 rfl hl (Nat.le_of_ble_eq_true rfl) rfl (fun ls hl => ?_)
    refine lv_aload_n hC.1 hC.2.1 dX12_isRight_42 rfl (lv_at hl 1 rfl) ?_
    refine lv_aload_n hC.1 hC.2.1 dX12_isRight_43 rfl (lv_at hl 1 rfl) ?_
    refine lv_iload_n hC.1 hC.2.1 dX12_isRight_44 rfl (lv_at hl 0 rfl) ?_
    obtain ⟨r11, hq12, hf⟩ := o_b hf
    refine mw_cVi (As := [.int r8]) (rest := [.ref (mvA V 0)]) hC hM (mcX12_moveBy V l M10 r8 r11 hq12) (mw_kV hC q_1472 q_1474 q_74 q_120 q_1475 ⟨rfl, rfl⟩ kV_X12_moveBy ⟨Nat.le_of_ble_eq_true rfl, Nat.le_of_ble_eq_true rfl⟩) (Nat.le_of_ble_eq_true rfl) (eR_0 V) rfl rfl rfl (Nat.le_of_ble_eq_true rfl) hl.1 dX12_isRight_45 (fun H locs hM _ => ?_)
    obtain ⟨r13, M15, hq14, hf⟩ := o_b2 hf
    refine mw_cVv (As := [.int r11]) (rest := []) hC hM (mcX12_turns V l M10 r11 r13 M15 hq14) (mw_kV hC q_1476 q_1478 q_75 q_120 q_1479 ⟨rfl, rfl⟩ kV_X12_turns ⟨Nat.le_of_ble_eq_true rfl, Nat.le_of_ble_eq_true rfl⟩) (Nat.le_of_ble_eq_true rfl) (eR_0 V) rfl rfl rfl (Nat.le_of_ble_eq_true rfl) hl.1 dX12_isRight_48 (fun H locs hM => ?_)
    refine lv_iload_n hC.1 hC.2.1 dX12_isRight_51 rfl (lv_at hl 2 rfl) ?_
    refine lv_iconst hC.1 hC.2.1 dX12_isRight_52 ci_1 ?_
    refine lv_iadd hC.1 hC.2.1 dX12_isRight_53 ?_
    refine lv_aload_n hC.1 hC.2.1 dX12_isRight_54 rfl (lv_at hl 1 rfl) ?_
    refine mw_get (v := .int (M15 0 20)) hC hM 0 (Nat.le_of_ble_eq_true rfl) (eR_0 V) inW12 rfl 20 (by decide) q_1166 (fun _ h9 => h9) rfl dX12_isRight_55 ?_
    refine lv_icmp_lt (tgt := 71) hC.1 hC.2.1 dX12_isRight_58 (by decide) (fun hc18 => ?_) (fun hc18 => ?_)
    · have hf := o_t hc18 hf
      exact hL71 _ _ _ _ _ _ hf hM (lv_sub hl [1, 2, 0] rfl)
    · have hf := o_f hc18 hf
      refine lv_aload_n hC.1 hC.2.1 dX12_isRight_61 rfl (lv_at hl 1 rfl) ?_
      refine mw_get (v := .ref (mvA V 1)) hC hM 0 (Nat.le_of_ble_eq_true rfl) (eR_0 V) inW12 rfl 0 (by decide) q_1146 (fun _ h9 => h9) rfl dX12_isRight_62 ?_
      refine lv_iconst hC.1 hC.2.1 dX12_isRight_65 ci_1 ?_
      obtain ⟨hg16, hf⟩ := o_g hf
      refine mw_iald hC hM 1 0 (Nat.le_of_ble_eq_true rfl) (eR_1 V) rfl hg16 dX12_isRight_66 ?_
      refine lv_iload_n hC.1 hC.2.1 dX12_isRight_67 rfl (lv_at hl 3 rfl) ?_
      refine lv_icmp_ne (tgt := 75) hC.1 hC.2.1 dX12_isRight_68 (by decide) (fun hc17 => ?_) (fun hc17 => ?_)
      · have hf := o_f hc17 hf
        refine lv_iconst hC.1 hC.2.1 dX12_isRight_75 ci_0 ?_
        exact hL76 _ _ _ _ _ _ _ hf hM (lv_sub hl [1, 2, 0] rfl)
      · have hf := o_t hc17 hf
        exact hL71 _ _ _ _ _ _ hf hM (lv_sub hl [1, 2, 0] rfl)
  · have hf := o_t hc19 hf
    refine lv_iconst hC.1 hC.2.1 dX12_isRight_23 ci_0 ?_
    exact hret (o_r1 hf) (Or.inl rfl) (o_r2 hf hM) dX12_isRight_24
set_option maxHeartbeats 4000000 in
set_option maxRecDepth 100000 in
theorem mcX12_judge (V : mV) (l : Launch) (M : mM) (p1 : Int32) (r : Int32) (M' : mM) (hf : fX12_judge M p1 = some (r, M')) : IR V l yX12_judge cX12_judge 3 ({ frames := 8, cells := 0, slots := 0, locals := 185 } : Room) [.ref (mvA V 0), .int p1] M r M' := by
  unfold fX12_judge at hf
  refine mw_enterI RX12 rfl (by decide +kernel) (Nat.le_of_ble_eq_true rfl) (fun {p e s m args below meth c} ls A Q hC hret hM hl => ?_)
  have hl : lv_has ls 3 [(0, .ref (mvA V 0)), (1, .int p1)] := hl
  have hL38 : ∀ (M : mM) (x2 : Int32) (H : Heap) (locs : List Loc) (ls : Array Slot), fX12_judge_L38 M x2 = some (r, M') → PR V M A s H locs → lv_has ls 3 [(0, .ref (mvA V 0)), (2, .int x2)] → W p l e ({ frames := 8, cells := 0, slots := 0, locals := 185 } : Room) s m args below meth c H locs 0 0 Q (F0 m 38 ls []) := by
    intro M x2 H locs ls hf hM hl
    unfold fX12_judge_L38 at hf
    refine lv_aload_n hC.1 hC.2.1 dX12_judge_38 rfl (lv_at hl 0 rfl) ?_
    obtain ⟨r12, M14, hq13, hf⟩ := o_b2 hf
    refine mw_cVv (As := []) (rest := []) hC hM (mcX12_laysAllBack V l M r12 M14 hq13) (mw_kV hC q_1641 q_1643 q_91 q_120 q_1644 ⟨rfl, rfl⟩ kV_X12_laysAllBack ⟨Nat.le_of_ble_eq_true rfl, Nat.le_of_ble_eq_true rfl⟩) (Nat.le_of_ble_eq_true rfl) (eR_0 V) rfl rfl rfl (Nat.le_of_ble_eq_true rfl) hl.1 dX12_judge_39 (fun H locs hM => ?_)
    refine lv_iload_n hC.1 hC.2.1 dX12_judge_42 rfl (lv_at hl 1 rfl) ?_
    refine lv_aload_n hC.1 hC.2.1 dX12_judge_43 rfl (lv_at hl 0 rfl) ?_
    refine mw_get (v := .int (M14 0 20)) hC hM 0 (Nat.le_of_ble_eq_true rfl) (eR_0 V) inW12 rfl 20 (by decide) q_1166 (fun _ h9 => h9) rfl dX12_judge_44 ?_
    refine lv_icmp_ge (tgt := 56) hC.1 hC.2.1 dX12_judge_47 (by decide) (fun hc15 => ?_) (fun hc15 => ?_)
    · have hf := o_t hc15 hf
      refine lv_iconst hC.1 hC.2.1 dX12_judge_56 ci_0 ?_
      exact hret (o_r1 hf) (o_r2 hf hM) dX12_judge_57
    · have hf := o_f hc15 hf
      refine lv_iload_n hC.1 hC.2.1 dX12_judge_50 rfl (lv_at hl 1 rfl) ?_
      refine lv_iconst hC.1 hC.2.1 dX12_judge_51 ci_1 ?_
      refine lv_iadd hC.1 hC.2.1 dX12_judge_52 ?_
      refine lv_goto (tgt := 57) hC.1 hC.2.1 dX12_judge_53 (by decide) ?_
      exact hret (o_r1 hf) (o_r2 hf hM) dX12_judge_57
  have hL15 : ∀ (n : Nat) (M : mM) (x1 : Int32) (x2 : Int32) (H : Heap) (locs : List Loc) (ls : Array Slot), fX12_judge_L15 n M x1 x2 = some (r, M') → PR V M A s H locs → lv_has ls 3 [(0, .ref (mvA V 0)), (1, .int x1), (2, .int x2)] → W p l e ({ frames := 8, cells := 0, slots := 0, locals := 185 } : Room) s m args below meth c H locs 0 0 Q (F0 m 15 ls []) := by
    intro n9
    induction n9 with
    | zero => intro M x1 x2 H locs ls hf; cases hf
    | succ n9 ih9 =>
      intro M x1 x2 H locs ls hf hM hl
      have hf : fX12_judge_L15_b (fX12_judge_L15 n9) M x1 x2 = some (r, M') := hf
      unfold fX12_judge_L15_b at hf
      refine lv_iload_n hC.1 hC.2.1 dX12_judge_15 rfl (lv_at hl 2 rfl) ?_
      refine lv_aload_n hC.1 hC.2.1 dX12_judge_16 rfl (lv_at hl 0 rfl) ?_
      refine mw_get (v := .int (M 0 20)) hC hM 0 (Nat.le_of_ble_eq_true rfl) (eR_0 V) inW12 rfl 20 (by decide) q_1166 (fun _ h9 => h9) rfl dX12_judge_17 ?_
      refine lv_icmp_ge (tgt := 38) hC.1 hC.2.1 dX12_judge_20 (by decide) (fun hc11 => ?_) (fun hc11 => ?_)
      · have hf := o_t hc11 hf
        exact hL38 _ _ _ _ _ hf hM (lv_sub hl [0, 2] rfl)
      · have hf := o_f hc11 hf
        refine lv_aload_n hC.1 hC.2.1 dX12_judge_23 rfl (lv_at hl 0 rfl) ?_
        refine lv_iload_n hC.1 hC.2.1 dX12_judge_24 rfl (lv_at hl 2 rfl) ?_
        refine lv_iload_n hC.1 hC.2.1 dX12_judge_25 rfl (lv_at hl 1 rfl) ?_
        obtain ⟨r6, M8, hq7, hf⟩ := o_b2 hf
        refine mw_cVi (As := [.int x2, .int x1]) (rest := []) hC hM (mcX12_isRight V l M x2 x1 r6 M8 hq7) (mw_kV hC q_1661 q_1663 q_93 q_120 q_1664 ⟨rfl, rfl⟩ kV_X12_isRight ⟨Nat.le_of_ble_eq_true rfl, Nat.le_of_ble_eq_true rfl⟩) (Nat.le_of_ble_eq_true rfl) (eR_0 V) rfl rfl rfl (Nat.le_of_ble_eq_true rfl) hl.1 dX12_judge_26 (fun H locs hM hb9 => ?_)
        refine lv_if_eq (tgt := 38) hC.1 hC.2.1 dX12_judge_29 (by decide) (fun hc10 => ?_) (fun hc10 => ?_)
        · have hf := o_t hc10 hf
          exact hL38 _ _ _ _ _ hf hM (lv_sub hl [0, 2] rfl)
        · have hf := o_f hc10 hf
          refine lv_iinc (k := 2) (lv' := [(2, .int (x2 + 1)), (0, .ref (mvA V 0)), (1, .int x1)]) hC.1 hC.2.1 dX12_judge_32 hl rfl (inc_1 _) (Nat.le_of_ble_eq_true rfl) rfl (fun ls hl => ?_)
          refine lv_goto (tgt := 15) hC.1 hC.2.1 dX12_judge_35 (by decide) ?_
          exact ih9 _ _ _ _ _ _ hf hM (lv_sub hl [1, 2, 0] rfl)
  refine lv_iload_n hC.1 hC.2.1 dX12_judge_0 rfl (lv_at hl 1 rfl) ?_
  refine mw_cSi (As := [.int p1]) (rest := []) hC hM (mcX12_isHour V l M p1 _ rfl) (mw_kS hC q_1263 q_1264 q_120 q_1265 ⟨rfl, rfl⟩ kS_X12_isHour ⟨Nat.le_of_ble_eq_true rfl, Nat.le_of_ble_eq_true rfl⟩) rfl rfl (Nat.le_of_ble_eq_true rfl) hl.1 dX12_judge_1 (fun H locs hM hb1 => ?_)
  refine lv_if_ne (tgt := 9) hC.1 hC.2.1 dX12_judge_4 (by decide) (fun hc5 => ?_) (fun hc5 => ?_)
  · have hf := o_f hc5 hf
    refine lv_aload_n hC.1 hC.2.1 dX12_judge_9 rfl (lv_at hl 0 rfl) ?_
    obtain ⟨r2, M4, hq3, hf⟩ := o_b2 hf
    refine mw_cVv (As := []) (rest := []) hC hM (mcX12_thinksAll V l M r2 M4 hq3) (mw_kV hC q_1637 q_1639 q_90 q_120 q_1640 ⟨rfl, rfl⟩ kV_X12_thinksAll ⟨Nat.le_of_ble_eq_true rfl, Nat.le_of_ble_eq_true rfl⟩) (Nat.le_of_ble_eq_true rfl) (eR_0 V) rfl rfl rfl (Nat.le_of_ble_eq_true rfl) hl.1 dX12_judge_10 (fun H locs hM => ?_)
    refine lv_iconst hC.1 hC.2.1 dX12_judge_13 ci_0 ?_
    refine lv_istore_n (lv' := [(2, .int 0), (0, .ref (mvA V 0)), (1, .int p1)]) hC.1 hC.2.1 dX12_judge_14 rfl hl (Nat.le_of_ble_eq_true rfl) rfl (fun ls hl => ?_)
    exact hL15 _ _ _ _ _ _ _ hf hM (lv_sub hl [1, 2, 0] rfl)
  · have hf := o_t hc5 hf
    refine lv_iconst hC.1 hC.2.1 dX12_judge_7 ci_m1 ?_
    exact hret (o_r1 hf) (o_r2 hf hM) dX12_judge_8
set_option maxHeartbeats 4000000 in
set_option maxRecDepth 100000 in
theorem mcX12_isFour (V : mV) (l : Launch) (M : mM) (p0 : Int32) (r : Int32) (hf : fX12_isFour p0 = r) : ZR V l yX12_isFour cX12_isFour 1 ({ frames := 1, cells := 0, slots := 0, locals := 25 } : Room) [.int p0] M r M := by
  unfold fX12_isFour at hf
  refine mw_enterZ RX12 rfl (by decide +kernel) (Nat.le_of_ble_eq_true rfl) (fun {p e s m args below meth c} ls A Q hC hret hM hl => ?_)
  have hl : lv_has ls 1 [(0, .int p0)] := hl
  refine lv_iload_n hC.1 hC.2.1 dX12_isFour_0 rfl (lv_at hl 0 rfl) ?_
  refine lv_i2l (v := (Int32.toInt64 p0)) hC.1 hC.2.1 dX12_isFour_1 rfl ?_
  refine lv_lconst (v := 0) hC.1 hC.2.1 dX12_isFour_2 rfl ?_
  refine lv_ldc2 hC.1 hC.2.1 hC.2.2.2.1 (mw_w hC q_1557) dX12_isFour_3 ?_
  refine mw_cSi (As := [.long (Int32.toInt64 p0), .long 0, .long 3]) (rest := []) hC hM (mcX12_in V l M (Int32.toInt64 p0) 0 3 _ rfl) (mw_kS hC q_1257 q_1258 q_120 q_1259 ⟨rfl, rfl⟩ kS_X12_in ⟨Nat.le_of_ble_eq_true rfl, Nat.le_of_ble_eq_true rfl⟩) rfl rfl (Nat.le_of_ble_eq_true rfl) hl.1 dX12_isFour_6 (fun H locs hM hb1 => ?_)
  exact hret hf hb1 hM dX12_isFour_9
set_option maxHeartbeats 4000000 in
set_option maxRecDepth 100000 in
theorem mcX12_sheet (V : mV) (l : Launch) (M : mM) (p1 : Int32) (p2 : Int32) (p3 : Int32) (r : Int32) (M' : mM) (hf : fX12_sheet M p1 p2 p3 = some (r, M')) : IR V l yX12_sheet cX12_sheet 5 ({ frames := 2, cells := 0, slots := 0, locals := 45 } : Room) [.ref (mvA V 0), .int p1, .int p2, .int p3] M r M' := by
  unfold fX12_sheet at hf
  refine mw_enterI RX12 rfl (by decide +kernel) (Nat.le_of_ble_eq_true rfl) (fun {p e s m args below meth c} ls A Q hC hret hM hl => ?_)
  have hl : lv_has ls 5 [(0, .ref (mvA V 0)), (1, .int p1), (2, .int p2), (3, .int p3)] := hl
  have hL69 : ∀ (n : Nat) (M : mM) (x1 : Int32) (x4 : Int32) (H : Heap) (locs : List Loc) (ls : Array Slot), fX12_sheet_L69 n M x1 x4 = some (r, M') → PR V M A s H locs → lv_has ls 5 [(0, .ref (mvA V 0)), (1, .int x1), (4, .int x4)] → W p l e ({ frames := 2, cells := 0, slots := 0, locals := 45 } : Room) s m args below meth c H locs 0 0 Q (F0 m 69 ls []) := by
    intro n38
    induction n38 with
    | zero => intro M x1 x4 H locs ls hf; cases hf
    | succ n38 ih38 =>
      intro M x1 x4 H locs ls hf hM hl
      have hf : fX12_sheet_L69_b (fX12_sheet_L69 n38) M x1 x4 = some (r, M') := hf
      unfold fX12_sheet_L69_b at hf
      refine lv_iload hC.1 hC.2.1 dX12_sheet_69 (lv_at hl 2 rfl) ?_
      refine lv_bipush hC.1 hC.2.1 dX12_sheet_71 cb_40 ?_
      refine lv_icmp_ge (tgt := 95) hC.1 hC.2.1 dX12_sheet_73 (by decide) (fun hc13 => ?_) (fun hc13 => ?_)
      · have hf := o_t hc13 hf
        refine lv_iconst hC.1 hC.2.1 dX12_sheet_95 ci_1 ?_
        exact hret (o_r1 hf) (o_r2 hf hM) dX12_sheet_96
      · have hf := o_f hc13 hf
        refine lv_aload_n hC.1 hC.2.1 dX12_sheet_76 rfl (lv_at hl 0 rfl) ?_
        refine mw_get (v := .ref (mvA V 12)) hC hM 0 (Nat.le_of_ble_eq_true rfl) (eR_0 V) inW12 rfl 24 (by decide) q_1170 (fun _ h9 => h9) rfl dX12_sheet_77 ?_
        refine lv_bipush hC.1 hC.2.1 dX12_sheet_80 cb_40 ?_
        refine lv_iload_n hC.1 hC.2.1 dX12_sheet_82 rfl (lv_at hl 1 rfl) ?_
        refine lv_imul hC.1 hC.2.1 dX12_sheet_83 ?_
        refine lv_iload hC.1 hC.2.1 dX12_sheet_84 (lv_at hl 2 rfl) ?_
        refine lv_iadd hC.1 hC.2.1 dX12_sheet_86 ?_
        refine lv_iconst hC.1 hC.2.1 dX12_sheet_87 ci_0 ?_
        obtain ⟨hg12, hf⟩ := o_g hf
        refine mw_iast hC hM 12 0 (Nat.le_of_ble_eq_true rfl) (eR_12 V) rfl hg12 dX12_sheet_88 (fun H locs hM => ?_)
        refine lv_iinc (k := 2) (lv' := [(4, .int (x4 + 1)), (0, .ref (mvA V 0)), (1, .int x1)]) hC.1 hC.2.1 dX12_sheet_89 hl rfl (inc_1 _) (Nat.le_of_ble_eq_true rfl) rfl (fun ls hl => ?_)
        refine lv_goto (tgt := 69) hC.1 hC.2.1 dX12_sheet_92 (by decide) ?_
        exact ih38 _ _ _ _ _ _ hf hM (lv_sub hl [1, 2, 0] rfl)
  have hL65 : ∀ (M : mM) (x1 : Int32) (t1 : Int32) (t2 : Int32) (H : Heap) (locs : List Loc) (ls : Array Slot), fX12_sheet_L65 M x1 t1 t2 = some (r, M') → PR V M A s H locs → lv_has ls 5 [(0, .ref (mvA V 0)), (1, .int x1)] → W p l e ({ frames := 2, cells := 0, slots := 0, locals := 45 } : Room) s m args below meth c H locs 0 0 Q (F0 m 65 ls [.int t2, .int t1, .ref (mvA V 11)]) := by
    intro M x1 t1 t2 H locs ls hf hM hl
    unfold fX12_sheet_L65 at hf
    obtain ⟨hg11, hf⟩ := o_g hf
    refine mw_iast hC hM 11 0 (Nat.le_of_ble_eq_true rfl) (eR_11 V) rfl hg11 dX12_sheet_65 (fun H locs hM => ?_)
    refine lv_iconst hC.1 hC.2.1 dX12_sheet_66 ci_0 ?_
    refine lv_istore (lv' := [(4, .int 0), (0, .ref (mvA V 0)), (1, .int x1)]) hC.1 hC.2.1 dX12_sheet_67 hl (Nat.le_of_ble_eq_true rfl) rfl (fun ls hl => ?_)
    exact hL69 _ _ _ _ _ _ _ hf hM (lv_sub hl [1, 2, 0] rfl)
  have hL44 : ∀ (M : mM) (x1 : Int32) (x2 : Int32) (x3 : Int32) (H : Heap) (locs : List Loc) (ls : Array Slot), fX12_sheet_L44 M x1 x2 x3 = some (r, M') → PR V M A s H locs → lv_has ls 5 [(0, .ref (mvA V 0)), (1, .int x1), (2, .int x2), (3, .int x3)] → W p l e ({ frames := 2, cells := 0, slots := 0, locals := 45 } : Room) s m args below meth c H locs 0 0 Q (F0 m 44 ls []) := by
    intro M x1 x2 x3 H locs ls hf hM hl
    unfold fX12_sheet_L44 at hf
    refine lv_aload_n hC.1 hC.2.1 dX12_sheet_44 rfl (lv_at hl 0 rfl) ?_
    refine mw_get (v := .ref (mvA V 10)) hC hM 0 (Nat.le_of_ble_eq_true rfl) (eR_0 V) inW12 rfl 22 (by decide) q_1168 (fun _ h9 => h9) rfl dX12_sheet_45 ?_
    refine lv_iload_n hC.1 hC.2.1 dX12_sheet_48 rfl (lv_at hl 1 rfl) ?_
    refine lv_iload_n hC.1 hC.2.1 dX12_sheet_49 rfl (lv_at hl 2 rfl) ?_
    obtain ⟨hg9, hf⟩ := o_g hf
    refine mw_iast hC hM 10 0 (Nat.le_of_ble_eq_true rfl) (eR_10 V) rfl hg9 dX12_sheet_50 (fun H locs hM => ?_)
    refine lv_aload_n hC.1 hC.2.1 dX12_sheet_51 rfl (lv_at hl 0 rfl) ?_
    refine mw_get (v := .ref (mvA V 11)) hC hM 0 (Nat.le_of_ble_eq_true rfl) (eR_0 V) inW12 rfl 23 (by decide) q_1169 (fun _ h9 => h9) rfl dX12_sheet_52 ?_
    refine lv_iload_n hC.1 hC.2.1 dX12_sheet_55 rfl (lv_at hl 1 rfl) ?_
    refine lv_iload_n hC.1 hC.2.1 dX12_sheet_56 rfl (lv_at hl 2 rfl) ?_
    refine lv_if_ge (tgt := 64) hC.1 hC.2.1 dX12_sheet_57 (by decide) (fun hc10 => ?_) (fun hc10 => ?_)
    · have hf := o_t hc10 hf
      refine lv_iload_n hC.1 hC.2.1 dX12_sheet_64 rfl (lv_at hl 3 rfl) ?_
      exact hL65 _ _ _ _ _ _ _ hf hM (lv_sub hl [0, 1] rfl)
    · have hf := o_f hc10 hf
      refine lv_iconst hC.1 hC.2.1 dX12_sheet_60 ci_0 ?_
      refine lv_goto (tgt := 65) hC.1 hC.2.1 dX12_sheet_61 (by decide) ?_
      exact hL65 _ _ _ _ _ _ _ hf hM (lv_sub hl [0, 1] rfl)
  have hL33 : ∀ (M : mM) (x1 : Int32) (x2 : Int32) (x3 : Int32) (H : Heap) (locs : List Loc) (ls : Array Slot), fX12_sheet_L33 M x1 x2 x3 = some (r, M') → PR V M A s H locs → lv_has ls 5 [(0, .ref (mvA V 0)), (1, .int x1), (2, .int x2), (3, .int x3)] → W p l e ({ frames := 2, cells := 0, slots := 0, locals := 45 } : Room) s m args below meth c H locs 0 0 Q (F0 m 33 ls []) := by
    intro M x1 x2 x3 H locs ls hf hM hl
    unfold fX12_sheet_L33 at hf
    refine lv_iload_n hC.1 hC.2.1 dX12_sheet_33 rfl (lv_at hl 2 rfl) ?_
    refine lv_if_lt (tgt := 44) hC.1 hC.2.1 dX12_sheet_34 (by decide) (fun hc8 => ?_) (fun hc8 => ?_)
    · have hf := o_t hc8 hf
      exact hL44 _ _ _ _ _ _ _ hf hM (lv_sub hl [0, 1, 2, 3] rfl)
    · have hf := o_f hc8 hf
      refine lv_iload_n hC.1 hC.2.1 dX12_sheet_37 rfl (lv_at hl 3 rfl) ?_
      refine lv_if_ge (tgt := 44) hC.1 hC.2.1 dX12_sheet_38 (by decide) (fun hc7 => ?_) (fun hc7 => ?_)
      · have hf := o_t hc7 hf
        exact hL44 _ _ _ _ _ _ _ hf hM (lv_sub hl [0, 1, 2, 3] rfl)
      · have hf := o_f hc7 hf
        refine lv_bipush hC.1 hC.2.1 dX12_sheet_41 cb_m14 ?_
        exact hret (o_r1 hf) (o_r2 hf hM) dX12_sheet_43
  refine lv_iload_n hC.1 hC.2.1 dX12_sheet_0 rfl (lv_at hl 1 rfl) ?_
  refine mw_cSi (As := [.int p1]) (rest := []) hC hM (mcX12_isFour V l M p1 _ rfl) (mw_kS hC q_1669 q_1670 q_120 q_1671 ⟨rfl, rfl⟩ kS_X12_isFour ⟨Nat.le_of_ble_eq_true rfl, Nat.le_of_ble_eq_true rfl⟩) rfl rfl (Nat.le_of_ble_eq_true rfl) hl.1 dX12_sheet_1 (fun H locs hM hb1 => ?_)
  refine lv_if_eq (tgt := 31) hC.1 hC.2.1 dX12_sheet_4 (by decide) (fun hc6 => ?_) (fun hc6 => ?_)
  · have hf := o_t hc6 hf
    refine lv_iconst hC.1 hC.2.1 dX12_sheet_31 ci_m1 ?_
    exact hret (o_r1 hf) (o_r2 hf hM) dX12_sheet_32
  · have hf := o_f hc6 hf
    refine lv_iload_n hC.1 hC.2.1 dX12_sheet_7 rfl (lv_at hl 2 rfl) ?_
    refine lv_i2l (v := (Int32.toInt64 p2)) hC.1 hC.2.1 dX12_sheet_8 rfl ?_
    refine lv_ldc2 hC.1 hC.2.1 hC.2.2.2.1 (mw_w hC q_1672) dX12_sheet_9 ?_
    refine lv_ldc2 hC.1 hC.2.1 hC.2.2.2.1 (mw_w hC q_1562) dX12_sheet_12 ?_
    refine mw_cSi (As := [.long (Int32.toInt64 p2), .long (-1), .long 4]) (rest := []) hC hM (mcX12_in V l M (Int32.toInt64 p2) (-1) 4 _ rfl) (mw_kS hC q_1257 q_1258 q_120 q_1259 ⟨rfl, rfl⟩ kS_X12_in ⟨Nat.le_of_ble_eq_true rfl, Nat.le_of_ble_eq_true rfl⟩) rfl rfl (Nat.le_of_ble_eq_true rfl) hl.1 dX12_sheet_15 (fun H locs hM hb2 => ?_)
    refine lv_if_eq (tgt := 31) hC.1 hC.2.1 dX12_sheet_18 (by decide) (fun hc5 => ?_) (fun hc5 => ?_)
    · have hf := o_t hc5 hf
      refine lv_iconst hC.1 hC.2.1 dX12_sheet_31 ci_m1 ?_
      exact hret (o_r1 hf) (o_r2 hf hM) dX12_sheet_32
    · have hf := o_f hc5 hf
      refine lv_iload_n hC.1 hC.2.1 dX12_sheet_21 rfl (lv_at hl 2 rfl) ?_
      refine lv_if_lt (tgt := 33) hC.1 hC.2.1 dX12_sheet_22 (by decide) (fun hc4 => ?_) (fun hc4 => ?_)
      · have hf := o_t hc4 hf
        exact hL33 _ _ _ _ _ _ _ hf hM (lv_sub hl [0, 1, 2, 3] rfl)
      · have hf := o_f hc4 hf
        refine lv_iload_n hC.1 hC.2.1 dX12_sheet_25 rfl (lv_at hl 3 rfl) ?_
        refine lv_bipush hC.1 hC.2.1 dX12_sheet_26 cb_40 ?_
        refine lv_icmp_le (tgt := 33) hC.1 hC.2.1 dX12_sheet_28 (by decide) (fun hc3 => ?_) (fun hc3 => ?_)
        · have hf := o_t hc3 hf
          exact hL33 _ _ _ _ _ _ _ hf hM (lv_sub hl [0, 1, 2, 3] rfl)
        · have hf := o_f hc3 hf
          refine lv_iconst hC.1 hC.2.1 dX12_sheet_31 ci_m1 ?_
          exact hret (o_r1 hf) (o_r2 hf hM) dX12_sheet_32
set_option maxHeartbeats 4000000 in
set_option maxRecDepth 100000 in
theorem mcX12_lacks (V : mV) (l : Launch) (M : mM) (p1 : Int32) (p2 : Int32) (p3 : Int32) (r : Int32) (hf : fX12_lacks M p1 p2 p3 = some r) : IR V l yX12_lacks cX12_lacks 4 ({ frames := 1, cells := 0, slots := 0, locals := 25 } : Room) [.ref (mvA V 0), .int p1, .int p2, .int p3] M r M := by
  unfold fX12_lacks at hf
  refine mw_enterI RX12 rfl (by decide +kernel) (Nat.le_of_ble_eq_true rfl) (fun {p e s m args below meth c} ls A Q hC hret hM hl => ?_)
  have hl : lv_has ls 4 [(0, .ref (mvA V 0)), (1, .int p1), (2, .int p2), (3, .int p3)] := hl
  have hL29 : ∀ (x1 : Int32) (x3 : Int32) (H : Heap) (locs : List Loc) (ls : Array Slot), fX12_lacks_L29 M x1 x3 = some r → PR V M A s H locs → lv_has ls 4 [(0, .ref (mvA V 0)), (1, .int x1), (3, .int x3)] → W p l e ({ frames := 1, cells := 0, slots := 0, locals := 25 } : Room) s m args below meth c H locs 0 0 Q (F0 m 29 ls []) := by
    intro x1 x3 H locs ls hf hM hl
    unfold fX12_lacks_L29 at hf
    refine lv_iload_n hC.1 hC.2.1 dX12_lacks_29 rfl (lv_at hl 2 rfl) ?_
    refine lv_i2l (v := (Int32.toInt64 x3)) hC.1 hC.2.1 dX12_lacks_30 rfl ?_
    refine lv_lconst (v := 0) hC.1 hC.2.1 dX12_lacks_31 rfl ?_
    refine lv_aload_n hC.1 hC.2.1 dX12_lacks_32 rfl (lv_at hl 0 rfl) ?_
    refine mw_get (v := .ref (mvA V 11)) hC hM 0 (Nat.le_of_ble_eq_true rfl) (eR_0 V) inW12 rfl 23 (by decide) q_1169 (fun _ h9 => h9) rfl dX12_lacks_33 ?_
    refine lv_iload_n hC.1 hC.2.1 dX12_lacks_36 rfl (lv_at hl 1 rfl) ?_
    obtain ⟨hg6, hf⟩ := o_g hf
    refine mw_iald hC hM 11 0 (Nat.le_of_ble_eq_true rfl) (eR_11 V) rfl hg6 dX12_lacks_37 ?_
    refine lv_iconst hC.1 hC.2.1 dX12_lacks_38 ci_1 ?_
    refine lv_isub hC.1 hC.2.1 dX12_lacks_39 ?_
    refine lv_i2l (v := (Int32.toInt64 ((M 11 (Int32.toNatClampNeg x1)) - 1))) hC.1 hC.2.1 dX12_lacks_40 rfl ?_
    refine mw_cSi (As := [.long (Int32.toInt64 x3), .long 0, .long (Int32.toInt64 ((M 11 (Int32.toNatClampNeg x1)) - 1))]) (rest := []) hC hM (mcX12_in V l M (Int32.toInt64 x3) 0 (Int32.toInt64 ((M 11 (Int32.toNatClampNeg x1)) - 1)) _ rfl) (mw_kS hC q_1257 q_1258 q_120 q_1259 ⟨rfl, rfl⟩ kS_X12_in ⟨Nat.le_of_ble_eq_true rfl, Nat.le_of_ble_eq_true rfl⟩) rfl rfl (Nat.le_of_ble_eq_true rfl) hl.1 dX12_lacks_41 (fun H locs hM hb7 => ?_)
    refine lv_if_eq (tgt := 51) hC.1 hC.2.1 dX12_lacks_44 (by decide) (fun hc8 => ?_) (fun hc8 => ?_)
    · have hf := o_t hc8 hf
      refine lv_bipush hC.1 hC.2.1 dX12_lacks_51 cb_m12 ?_
      exact hret (Option.some.inj hf) hM dX12_lacks_53
    · have hf := o_f hc8 hf
      refine lv_iconst hC.1 hC.2.1 dX12_lacks_47 ci_0 ?_
      refine lv_goto (tgt := 53) hC.1 hC.2.1 dX12_lacks_48 (by decide) ?_
      exact hret (Option.some.inj hf) hM dX12_lacks_53
  refine lv_aload_n hC.1 hC.2.1 dX12_lacks_0 rfl (lv_at hl 0 rfl) ?_
  refine mw_get (v := .ref (mvA V 10)) hC hM 0 (Nat.le_of_ble_eq_true rfl) (eR_0 V) inW12 rfl 22 (by decide) q_1168 (fun _ h9 => h9) rfl dX12_lacks_1 ?_
  refine lv_iload_n hC.1 hC.2.1 dX12_lacks_4 rfl (lv_at hl 1 rfl) ?_
  obtain ⟨hg1, hf⟩ := o_g hf
  refine mw_iald hC hM 10 0 (Nat.le_of_ble_eq_true rfl) (eR_10 V) rfl hg1 dX12_lacks_5 ?_
  refine lv_if_ge (tgt := 12) hC.1 hC.2.1 dX12_lacks_6 (by decide) (fun hc5 => ?_) (fun hc5 => ?_)
  · have hf := o_t hc5 hf
    refine lv_iload_n hC.1 hC.2.1 dX12_lacks_12 rfl (lv_at hl 2 rfl) ?_
    refine lv_if_lt (tgt := 29) hC.1 hC.2.1 dX12_lacks_13 (by decide) (fun hc4 => ?_) (fun hc4 => ?_)
    · have hf := o_t hc4 hf
      exact hL29 _ _ _ _ _ hf hM (lv_sub hl [0, 1, 3] rfl)
    · have hf := o_f hc4 hf
      refine lv_iload_n hC.1 hC.2.1 dX12_lacks_16 rfl (lv_at hl 2 rfl) ?_
      refine lv_aload_n hC.1 hC.2.1 dX12_lacks_17 rfl (lv_at hl 0 rfl) ?_
      refine mw_get (v := .ref (mvA V 10)) hC hM 0 (Nat.le_of_ble_eq_true rfl) (eR_0 V) inW12 rfl 22 (by decide) q_1168 (fun _ h9 => h9) rfl dX12_lacks_18 ?_
      refine lv_iload_n hC.1 hC.2.1 dX12_lacks_21 rfl (lv_at hl 1 rfl) ?_
      obtain ⟨hg2, hf⟩ := o_g hf
      refine mw_iald hC hM 10 0 (Nat.le_of_ble_eq_true rfl) (eR_10 V) rfl hg2 dX12_lacks_22 ?_
      refine lv_icmp_eq (tgt := 29) hC.1 hC.2.1 dX12_lacks_23 (by decide) (fun hc3 => ?_) (fun hc3 => ?_)
      · have hf := o_t hc3 hf
        exact hL29 _ _ _ _ _ hf hM (lv_sub hl [0, 1, 3] rfl)
      · have hf := o_f hc3 hf
        refine lv_bipush hC.1 hC.2.1 dX12_lacks_26 cb_m13 ?_
        exact hret (Option.some.inj hf) hM dX12_lacks_28
  · have hf := o_f hc5 hf
    refine lv_bipush hC.1 hC.2.1 dX12_lacks_9 cb_m11 ?_
    exact hret (Option.some.inj hf) hM dX12_lacks_11
set_option maxHeartbeats 4000000 in
set_option maxRecDepth 100000 in
theorem mcX12_narrowed (V : mV) (l : Launch) (M : mM) (p0 : Int32) (p1 : Int32) (r : Int32) (hf : fX12_narrowed p0 p1 = r) : IR V l yX12_narrowed cX12_narrowed 2 ({ frames := 0, cells := 0, slots := 0, locals := 0 } : Room) [.int p0, .int p1] M r M := by
  unfold fX12_narrowed at hf
  refine mw_enterI RX12 rfl (by decide +kernel) (Nat.le_of_ble_eq_true rfl) (fun {p e s m args below meth c} ls A Q hC hret hM hl => ?_)
  have hl : lv_has ls 2 [(0, .int p0), (1, .int p1)] := hl
  refine lv_iload_n hC.1 hC.2.1 dX12_narrowed_0 rfl (lv_at hl 0 rfl) ?_
  refine lv_if_ne (tgt := 9) hC.1 hC.2.1 dX12_narrowed_1 (by decide) (fun hc4 => ?_) (fun hc4 => ?_)
  · have hf := o_f hc4 hf
    refine lv_iload_n hC.1 hC.2.1 dX12_narrowed_9 rfl (lv_at hl 0 rfl) ?_
    refine lv_iconst hC.1 hC.2.1 dX12_narrowed_10 ci_1 ?_
    refine lv_icmp_ne (tgt := 19) hC.1 hC.2.1 dX12_narrowed_11 (by decide) (fun hc3 => ?_) (fun hc3 => ?_)
    · have hf := o_f hc3 hf
      refine lv_iload_n hC.1 hC.2.1 dX12_narrowed_19 rfl (lv_at hl 0 rfl) ?_
      refine lv_iconst hC.1 hC.2.1 dX12_narrowed_20 ci_4 ?_
      refine lv_icmp_ne (tgt := 36) hC.1 hC.2.1 dX12_narrowed_21 (by decide) (fun hc2 => ?_) (fun hc2 => ?_)
      · have hf := o_f hc2 hf
        refine lv_iload_n hC.1 hC.2.1 dX12_narrowed_36 rfl (lv_at hl 1 rfl) ?_
        exact hret hf hM dX12_narrowed_37
      · have hf := o_t hc2 hf
        refine lv_iload_n hC.1 hC.2.1 dX12_narrowed_24 rfl (lv_at hl 1 rfl) ?_
        refine lv_if_eq (tgt := 32) hC.1 hC.2.1 dX12_narrowed_25 (by decide) (fun hc1 => ?_) (fun hc1 => ?_)
        · have hf := o_t hc1 hf
          refine lv_iconst hC.1 hC.2.1 dX12_narrowed_32 ci_0 ?_
          refine lv_goto (tgt := 37) hC.1 hC.2.1 dX12_narrowed_33 (by decide) ?_
          exact hret hf hM dX12_narrowed_37
        · have hf := o_f hc1 hf
          refine lv_iconst hC.1 hC.2.1 dX12_narrowed_28 ci_1 ?_
          refine lv_goto (tgt := 37) hC.1 hC.2.1 dX12_narrowed_29 (by decide) ?_
          exact hret hf hM dX12_narrowed_37
    · have hf := o_t hc3 hf
      refine lv_iload_n hC.1 hC.2.1 dX12_narrowed_14 rfl (lv_at hl 1 rfl) ?_
      refine lv_i2s (v := (i2s p1)) hC.1 hC.2.1 dX12_narrowed_15 rfl ?_
      refine lv_goto (tgt := 37) hC.1 hC.2.1 dX12_narrowed_16 (by decide) ?_
      exact hret hf hM dX12_narrowed_37
  · have hf := o_t hc4 hf
    refine lv_iload_n hC.1 hC.2.1 dX12_narrowed_4 rfl (lv_at hl 1 rfl) ?_
    refine lv_i2b (v := (i2b p1)) hC.1 hC.2.1 dX12_narrowed_5 rfl ?_
    refine lv_goto (tgt := 37) hC.1 hC.2.1 dX12_narrowed_6 (by decide) ?_
    exact hret hf hM dX12_narrowed_37
set_option maxHeartbeats 4000000 in
set_option maxRecDepth 100000 in
theorem mcX12_write (V : mV) (l : Launch) (M : mM) (p1 : Int32) (p2 : Int32) (p3 : Int32) (r : Int32) (M' : mM) (hf : fX12_write M p1 p2 p3 = some (r, M')) : IR V l yX12_write cX12_write 5 ({ frames := 2, cells := 0, slots := 0, locals := 48 } : Room) [.ref (mvA V 0), .int p1, .int p2, .int p3] M r M' := by
  unfold fX12_write at hf
  refine mw_enterI RX12 rfl (by decide +kernel) (Nat.le_of_ble_eq_true rfl) (fun {p e s m args below meth c} ls A Q hC hret hM hl => ?_)
  have hl : lv_has ls 5 [(0, .ref (mvA V 0)), (1, .int p1), (2, .int p2), (3, .int p3)] := hl
  refine lv_iload_n hC.1 hC.2.1 dX12_write_0 rfl (lv_at hl 1 rfl) ?_
  refine mw_cSi (As := [.int p1]) (rest := []) hC hM (mcX12_isFour V l M p1 _ rfl) (mw_kS hC q_1669 q_1670 q_120 q_1671 ⟨rfl, rfl⟩ kS_X12_isFour ⟨Nat.le_of_ble_eq_true rfl, Nat.le_of_ble_eq_true rfl⟩) rfl rfl (Nat.le_of_ble_eq_true rfl) hl.1 dX12_write_1 (fun H locs hM hb1 => ?_)
  refine lv_if_ne (tgt := 9) hC.1 hC.2.1 dX12_write_4 (by decide) (fun hc7 => ?_) (fun hc7 => ?_)
  · have hf := o_f hc7 hf
    refine lv_aload_n hC.1 hC.2.1 dX12_write_9 rfl (lv_at hl 0 rfl) ?_
    refine lv_iload_n hC.1 hC.2.1 dX12_write_10 rfl (lv_at hl 1 rfl) ?_
    refine lv_iconst hC.1 hC.2.1 dX12_write_11 ci_m1 ?_
    refine lv_iload_n hC.1 hC.2.1 dX12_write_12 rfl (lv_at hl 2 rfl) ?_
    obtain ⟨r2, hq3, hf⟩ := o_b hf
    refine mw_cVi (As := [.int p1, .int (-1), .int p2]) (rest := []) hC hM (mcX12_lacks V l M p1 (-1) p2 r2 hq3) (mw_kV hC q_1677 q_1679 q_94 q_120 q_1680 ⟨rfl, rfl⟩ kV_X12_lacks ⟨Nat.le_of_ble_eq_true rfl, Nat.le_of_ble_eq_true rfl⟩) (Nat.le_of_ble_eq_true rfl) (eR_0 V) rfl rfl rfl (Nat.le_of_ble_eq_true rfl) hl.1 dX12_write_13 (fun H locs hM _ => ?_)
    refine lv_istore (lv' := [(4, .int r2), (0, .ref (mvA V 0)), (1, .int p1), (2, .int p2), (3, .int p3)]) hC.1 hC.2.1 dX12_write_16 hl (Nat.le_of_ble_eq_true rfl) rfl (fun ls hl => ?_)
    refine lv_iload hC.1 hC.2.1 dX12_write_18 (lv_at hl 0 rfl) ?_
    refine lv_if_ge (tgt := 26) hC.1 hC.2.1 dX12_write_20 (by decide) (fun hc6 => ?_) (fun hc6 => ?_)
    · have hf := o_t hc6 hf
      refine lv_aload_n hC.1 hC.2.1 dX12_write_26 rfl (lv_at hl 1 rfl) ?_
      refine mw_get (v := .ref (mvA V 12)) hC hM 0 (Nat.le_of_ble_eq_true rfl) (eR_0 V) inW12 rfl 24 (by decide) q_1170 (fun _ h9 => h9) rfl dX12_write_27 ?_
      refine lv_bipush hC.1 hC.2.1 dX12_write_30 cb_40 ?_
      refine lv_iload_n hC.1 hC.2.1 dX12_write_32 rfl (lv_at hl 2 rfl) ?_
      refine lv_imul hC.1 hC.2.1 dX12_write_33 ?_
      refine lv_iload_n hC.1 hC.2.1 dX12_write_34 rfl (lv_at hl 3 rfl) ?_
      refine lv_iadd hC.1 hC.2.1 dX12_write_35 ?_
      refine lv_aload_n hC.1 hC.2.1 dX12_write_36 rfl (lv_at hl 1 rfl) ?_
      refine mw_get (v := .ref (mvA V 10)) hC hM 0 (Nat.le_of_ble_eq_true rfl) (eR_0 V) inW12 rfl 22 (by decide) q_1168 (fun _ h9 => h9) rfl dX12_write_37 ?_
      refine lv_iload_n hC.1 hC.2.1 dX12_write_40 rfl (lv_at hl 2 rfl) ?_
      obtain ⟨hg4, hf⟩ := o_g hf
      refine mw_iald hC hM 10 0 (Nat.le_of_ble_eq_true rfl) (eR_10 V) rfl hg4 dX12_write_41 ?_
      refine lv_iload_n hC.1 hC.2.1 dX12_write_42 rfl (lv_at hl 4 rfl) ?_
      refine mw_cSi (As := [.int (M 10 (Int32.toNatClampNeg p1)), .int p3]) (rest := [.int ((40 * p1) + p2), .ref (mvA V 12)]) hC hM (mcX12_narrowed V l M (M 10 (Int32.toNatClampNeg p1)) p3 _ rfl) (mw_kS hC q_1681 q_1682 q_120 q_1683 ⟨rfl, rfl⟩ kS_X12_narrowed ⟨Nat.le_of_ble_eq_true rfl, Nat.le_of_ble_eq_true rfl⟩) rfl rfl (Nat.le_of_ble_eq_true rfl) hl.1 dX12_write_43 (fun H locs hM _ => ?_)
      obtain ⟨hg5, hf⟩ := o_g hf
      refine mw_iast hC hM 12 0 (Nat.le_of_ble_eq_true rfl) (eR_12 V) rfl hg5 dX12_write_46 (fun H locs hM => ?_)
      refine lv_iconst hC.1 hC.2.1 dX12_write_47 ci_1 ?_
      exact hret (o_r1 hf) (o_r2 hf hM) dX12_write_48
    · have hf := o_f hc6 hf
      refine lv_iload hC.1 hC.2.1 dX12_write_23 (lv_at hl 0 rfl) ?_
      exact hret (o_r1 hf) (o_r2 hf hM) dX12_write_25
  · have hf := o_t hc7 hf
    refine lv_iconst hC.1 hC.2.1 dX12_write_7 ci_m1 ?_
    exact hret (o_r1 hf) (o_r2 hf hM) dX12_write_8
set_option maxHeartbeats 4000000 in
set_option maxRecDepth 100000 in
theorem mcX12_item (V : mV) (l : Launch) (M : mM) (p1 : Int32) (p2 : Int32) (p3 : Int32) (r : Int32) (hf : fX12_item M p1 p2 p3 = some r) : IR V l yX12_item cX12_item 5 ({ frames := 2, cells := 0, slots := 0, locals := 48 } : Room) [.ref (mvA V 0), .int p1, .int p2, .int p3] M r M := by
  unfold fX12_item at hf
  refine mw_enterI RX12 rfl (by decide +kernel) (Nat.le_of_ble_eq_true rfl) (fun {p e s m args below meth c} ls A Q hC hret hM hl => ?_)
  have hl : lv_has ls 5 [(0, .ref (mvA V 0)), (1, .int p1), (2, .int p2), (3, .int p3)] := hl
  refine lv_iload_n hC.1 hC.2.1 dX12_item_0 rfl (lv_at hl 1 rfl) ?_
  refine mw_cSi (As := [.int p1]) (rest := []) hC hM (mcX12_isFour V l M p1 _ rfl) (mw_kS hC q_1669 q_1670 q_120 q_1671 ⟨rfl, rfl⟩ kS_X12_isFour ⟨Nat.le_of_ble_eq_true rfl, Nat.le_of_ble_eq_true rfl⟩) rfl rfl (Nat.le_of_ble_eq_true rfl) hl.1 dX12_item_1 (fun H locs hM hb1 => ?_)
  refine lv_if_eq (tgt := 19) hC.1 hC.2.1 dX12_item_4 (by decide) (fun hc8 => ?_) (fun hc8 => ?_)
  · have hf := o_t hc8 hf
    refine lv_iconst hC.1 hC.2.1 dX12_item_19 ci_m1 ?_
    exact hret (Option.some.inj hf) hM dX12_item_20
  · have hf := o_f hc8 hf
    refine lv_iload_n hC.1 hC.2.1 dX12_item_7 rfl (lv_at hl 2 rfl) ?_
    refine lv_i2l (v := (Int32.toInt64 p2)) hC.1 hC.2.1 dX12_item_8 rfl ?_
    refine lv_lconst (v := 0) hC.1 hC.2.1 dX12_item_9 rfl ?_
    refine lv_ldc2 hC.1 hC.2.1 hC.2.2.2.1 (mw_w hC q_1562) dX12_item_10 ?_
    refine mw_cSi (As := [.long (Int32.toInt64 p2), .long 0, .long 4]) (rest := []) hC hM (mcX12_in V l M (Int32.toInt64 p2) 0 4 _ rfl) (mw_kS hC q_1257 q_1258 q_120 q_1259 ⟨rfl, rfl⟩ kS_X12_in ⟨Nat.le_of_ble_eq_true rfl, Nat.le_of_ble_eq_true rfl⟩) rfl rfl (Nat.le_of_ble_eq_true rfl) hl.1 dX12_item_13 (fun H locs hM hb2 => ?_)
    refine lv_if_ne (tgt := 21) hC.1 hC.2.1 dX12_item_16 (by decide) (fun hc7 => ?_) (fun hc7 => ?_)
    · have hf := o_f hc7 hf
      refine lv_aload_n hC.1 hC.2.1 dX12_item_21 rfl (lv_at hl 0 rfl) ?_
      refine lv_iload_n hC.1 hC.2.1 dX12_item_22 rfl (lv_at hl 1 rfl) ?_
      refine lv_iload_n hC.1 hC.2.1 dX12_item_23 rfl (lv_at hl 2 rfl) ?_
      refine lv_iload_n hC.1 hC.2.1 dX12_item_24 rfl (lv_at hl 3 rfl) ?_
      obtain ⟨r3, hq4, hf⟩ := o_b hf
      refine mw_cVi (As := [.int p1, .int p2, .int p3]) (rest := []) hC hM (mcX12_lacks V l M p1 p2 p3 r3 hq4) (mw_kV hC q_1677 q_1679 q_94 q_120 q_1680 ⟨rfl, rfl⟩ kV_X12_lacks ⟨Nat.le_of_ble_eq_true rfl, Nat.le_of_ble_eq_true rfl⟩) (Nat.le_of_ble_eq_true rfl) (eR_0 V) rfl rfl rfl (Nat.le_of_ble_eq_true rfl) hl.1 dX12_item_25 (fun H locs hM _ => ?_)
      refine lv_istore (lv' := [(4, .int r3), (0, .ref (mvA V 0)), (1, .int p1), (2, .int p2), (3, .int p3)]) hC.1 hC.2.1 dX12_item_28 hl (Nat.le_of_ble_eq_true rfl) rfl (fun ls hl => ?_)
      refine lv_iload hC.1 hC.2.1 dX12_item_30 (lv_at hl 0 rfl) ?_
      refine lv_if_ge (tgt := 40) hC.1 hC.2.1 dX12_item_32 (by decide) (fun hc6 => ?_) (fun hc6 => ?_)
      · have hf := o_t hc6 hf
        refine lv_aload_n hC.1 hC.2.1 dX12_item_40 rfl (lv_at hl 1 rfl) ?_
        refine mw_get (v := .ref (mvA V 12)) hC hM 0 (Nat.le_of_ble_eq_true rfl) (eR_0 V) inW12 rfl 24 (by decide) q_1170 (fun _ h9 => h9) rfl dX12_item_41 ?_
        refine lv_bipush hC.1 hC.2.1 dX12_item_44 cb_40 ?_
        refine lv_iload_n hC.1 hC.2.1 dX12_item_46 rfl (lv_at hl 2 rfl) ?_
        refine lv_imul hC.1 hC.2.1 dX12_item_47 ?_
        refine lv_iload_n hC.1 hC.2.1 dX12_item_48 rfl (lv_at hl 4 rfl) ?_
        refine lv_iadd hC.1 hC.2.1 dX12_item_49 ?_
        obtain ⟨hg5, hf⟩ := o_g hf
        refine mw_iald hC hM 12 0 (Nat.le_of_ble_eq_true rfl) (eR_12 V) rfl hg5 dX12_item_50 ?_
        exact hret (Option.some.inj hf) hM dX12_item_51
      · have hf := o_f hc6 hf
        refine lv_iload hC.1 hC.2.1 dX12_item_35 (lv_at hl 0 rfl) ?_
        refine lv_goto (tgt := 51) hC.1 hC.2.1 dX12_item_37 (by decide) ?_
        exact hret (Option.some.inj hf) hM dX12_item_51
    · have hf := o_t hc7 hf
      refine lv_iconst hC.1 hC.2.1 dX12_item_19 ci_m1 ?_
      exact hret (Option.some.inj hf) hM dX12_item_20
set_option maxHeartbeats 4000000 in
set_option maxRecDepth 100000 in
theorem mcX12_lacksBytes (V : mV) (l : Launch) (M : mM) (p1 : Int32) (r : Int32) (hf : fX12_lacksBytes M p1 = some r) : IR V l yX12_lacksBytes cX12_lacksBytes 2 ({ frames := 0, cells := 0, slots := 0, locals := 0 } : Room) [.ref (mvA V 0), .int p1] M r M := by
  unfold fX12_lacksBytes at hf
  refine mw_enterI RX12 rfl (by decide +kernel) (Nat.le_of_ble_eq_true rfl) (fun {p e s m args below meth c} ls A Q hC hret hM hl => ?_)
  have hl : lv_has ls 2 [(0, .ref (mvA V 0)), (1, .int p1)] := hl
  refine lv_aload_n hC.1 hC.2.1 dX12_lacksBytes_0 rfl (lv_at hl 0 rfl) ?_
  refine mw_get (v := .ref (mvA V 10)) hC hM 0 (Nat.le_of_ble_eq_true rfl) (eR_0 V) inW12 rfl 22 (by decide) q_1168 (fun _ h9 => h9) rfl dX12_lacksBytes_1 ?_
  refine lv_iload_n hC.1 hC.2.1 dX12_lacksBytes_4 rfl (lv_at hl 1 rfl) ?_
  obtain ⟨hg1, hf⟩ := o_g hf
  refine mw_iald hC hM 10 0 (Nat.le_of_ble_eq_true rfl) (eR_10 V) rfl hg1 dX12_lacksBytes_5 ?_
  refine lv_if_ge (tgt := 14) hC.1 hC.2.1 dX12_lacksBytes_6 (by decide) (fun hc4 => ?_) (fun hc4 => ?_)
  · have hf := o_t hc4 hf
    refine lv_aload_n hC.1 hC.2.1 dX12_lacksBytes_14 rfl (lv_at hl 0 rfl) ?_
    refine mw_get (v := .ref (mvA V 10)) hC hM 0 (Nat.le_of_ble_eq_true rfl) (eR_0 V) inW12 rfl 22 (by decide) q_1168 (fun _ h9 => h9) rfl dX12_lacksBytes_15 ?_
    refine lv_iload_n hC.1 hC.2.1 dX12_lacksBytes_18 rfl (lv_at hl 1 rfl) ?_
    obtain ⟨hg2, hf⟩ := o_g hf
    refine mw_iald hC hM 10 0 (Nat.le_of_ble_eq_true rfl) (eR_10 V) rfl hg2 dX12_lacksBytes_19 ?_
    refine lv_if_eq (tgt := 28) hC.1 hC.2.1 dX12_lacksBytes_20 (by decide) (fun hc3 => ?_) (fun hc3 => ?_)
    · have hf := o_t hc3 hf
      refine lv_iconst hC.1 hC.2.1 dX12_lacksBytes_28 ci_0 ?_
      exact hret (Option.some.inj hf) hM dX12_lacksBytes_29
    · have hf := o_f hc3 hf
      refine lv_bipush hC.1 hC.2.1 dX12_lacksBytes_23 cb_m13 ?_
      refine lv_goto (tgt := 29) hC.1 hC.2.1 dX12_lacksBytes_25 (by decide) ?_
      exact hret (Option.some.inj hf) hM dX12_lacksBytes_29
  · have hf := o_f hc4 hf
    refine lv_bipush hC.1 hC.2.1 dX12_lacksBytes_9 cb_m11 ?_
    refine lv_goto (tgt := 29) hC.1 hC.2.1 dX12_lacksBytes_11 (by decide) ?_
    exact hret (Option.some.inj hf) hM dX12_lacksBytes_29
set_option maxHeartbeats 4000000 in
set_option maxRecDepth 100000 in
theorem mcX12_goAll (V : mV) (l : Launch) (M : mM) (p1 : Int32) (p2 : Int32) (p3 : Int32) (r : Int32) (M' : mM) (hf : fX12_goAll M p1 p2 p3 = some (r, M')) : IR V l yX12_goAll cX12_goAll 10 ({ frames := 7, cells := 0, slots := 0, locals := 161 } : Room) [.ref (mvA V 0), .int p1, .int p2, .int p3] M r M' := by
  unfold fX12_goAll at hf
  refine mw_enterI RX12 rfl (by decide +kernel) (Nat.le_of_ble_eq_true rfl) (fun {p e s m args below meth c} ls A Q hC hret hM hl => ?_)
  have hl : lv_has ls 10 [(0, .ref (mvA V 0)), (1, .int p1), (2, .int p2), (3, .int p3)] := hl
  have hL34 : ∀ (n : Nat) (M : mM) (x1 : Int32) (x2 : Int32) (x3 : Int32) (x4 : Int32) (x5 : Int32) (x6 : Int32) (H : Heap) (locs : List Loc) (ls : Array Slot), fX12_goAll_L34 n M x1 x2 x3 x4 x5 x6 = some (r, M') → PR V M A s H locs → lv_has ls 10 [(0, .ref (mvA V 0)), (1, .int x1), (2, .int x2), (3, .int x3), (4, .int x4), (5, .int x5), (6, .int x6)] → W p l e ({ frames := 7, cells := 0, slots := 0, locals := 161 } : Room) s m args below meth c H locs 0 0 Q (F0 m 34 ls []) := by
    intro n19
    induction n19 with
    | zero => intro M x1 x2 x3 x4 x5 x6 H locs ls hf; cases hf
    | succ n19 ih19 =>
      intro M x1 x2 x3 x4 x5 x6 H locs ls hf hM hl
      have hf : fX12_goAll_L34_b (fX12_goAll_L34 n19) M x1 x2 x3 x4 x5 x6 = some (r, M') := hf
      unfold fX12_goAll_L34_b at hf
      have hL80 : ∀ (M : mM) (x1 : Int32) (x2 : Int32) (x3 : Int32) (x4 : Int32) (x5 : Int32) (x6 : Int32) (t0 : Int32) (H : Heap) (locs : List Loc) (ls : Array Slot), fX12_goAll_L80 (fX12_goAll_L34 n19) M x1 x2 x3 x4 x5 x6 t0 = some (r, M') → PR V M A s H locs → lv_has ls 10 [(0, .ref (mvA V 0)), (1, .int x1), (2, .int x2), (3, .int x3), (4, .int x4), (5, .int x5), (6, .int x6)] → W p l e ({ frames := 7, cells := 0, slots := 0, locals := 161 } : Room) s m args below meth c H locs 0 0 Q (F0 m 80 ls [.int t0]) := by
        intro M x1 x2 x3 x4 x5 x6 t0 H locs ls hf hM hl
        unfold fX12_goAll_L80 at hf
        refine lv_istore (lv' := [(7, .int t0), (0, .ref (mvA V 0)), (1, .int x1), (2, .int x2), (3, .int x3), (4, .int x4), (5, .int x5), (6, .int x6)]) hC.1 hC.2.1 dX12_goAll_80 hl (Nat.le_of_ble_eq_true rfl) rfl (fun ls hl => ?_)
        refine lv_iload hC.1 hC.2.1 dX12_goAll_82 (lv_at hl 0 rfl) ?_
        refine lv_i2l (v := (Int32.toInt64 t0)) hC.1 hC.2.1 dX12_goAll_84 rfl ?_
        refine lv_lconst (v := 0) hC.1 hC.2.1 dX12_goAll_85 rfl ?_
        refine lv_aload_n hC.1 hC.2.1 dX12_goAll_86 rfl (lv_at hl 1 rfl) ?_
        refine mw_get (v := .ref (mvA V 1)) hC hM 0 (Nat.le_of_ble_eq_true rfl) (eR_0 V) inW12 rfl 0 (by decide) q_1146 (fun _ h9 => h9) rfl dX12_goAll_87 ?_
        refine lv_iconst hC.1 hC.2.1 dX12_goAll_90 ci_0 ?_
        obtain ⟨hg15, hf⟩ := o_g hf
        refine mw_iald hC hM 1 0 (Nat.le_of_ble_eq_true rfl) (eR_1 V) rfl hg15 dX12_goAll_91 ?_
        refine lv_i2l (v := (Int32.toInt64 (M 1 (Int32.toNatClampNeg 0)))) hC.1 hC.2.1 dX12_goAll_92 rfl ?_
        refine mw_cSi (As := [.long (Int32.toInt64 t0), .long 0, .long (Int32.toInt64 (M 1 (Int32.toNatClampNeg 0)))]) (rest := []) hC hM (mcX12_in V l M (Int32.toInt64 t0) 0 (Int32.toInt64 (M 1 (Int32.toNatClampNeg 0))) _ rfl) (mw_kS hC q_1257 q_1258 q_120 q_1259 ⟨rfl, rfl⟩ kS_X12_in ⟨Nat.le_of_ble_eq_true rfl, Nat.le_of_ble_eq_true rfl⟩) rfl rfl (Nat.le_of_ble_eq_true rfl) hl.1 dX12_goAll_93 (fun H locs hM hb16 => ?_)
        refine lv_if_eq (tgt := 146) hC.1 hC.2.1 dX12_goAll_96 (by decide) (fun hc29 => ?_) (fun hc29 => ?_)
        · have hf := o_t hc29 hf
          refine lv_iinc (k := 7) (lv' := [(6, .int (x6 + 1)), (7, .int t0), (0, .ref (mvA V 0)), (1, .int x1), (2, .int x2), (3, .int x3), (4, .int x4), (5, .int x5)]) hC.1 hC.2.1 dX12_goAll_146 hl rfl (inc_1 _) (Nat.le_of_ble_eq_true rfl) rfl (fun ls hl => ?_)
          refine lv_goto (tgt := 34) hC.1 hC.2.1 dX12_goAll_149 (by decide) ?_
          exact ih19 _ _ _ _ _ _ _ _ _ _ hf hM (lv_sub hl [2, 3, 4, 5, 6, 7, 0] rfl)
        · have hf := o_f hc29 hf
          refine lv_aload_n hC.1 hC.2.1 dX12_goAll_99 rfl (lv_at hl 1 rfl) ?_
          refine mw_get (v := .ref (mvA V 1)) hC hM 0 (Nat.le_of_ble_eq_true rfl) (eR_0 V) inW12 rfl 0 (by decide) q_1146 (fun _ h9 => h9) rfl dX12_goAll_100 ?_
          refine lv_iconst hC.1 hC.2.1 dX12_goAll_103 ci_2 ?_
          obtain ⟨hg17, hf⟩ := o_g hf
          refine mw_iald hC hM 1 0 (Nat.le_of_ble_eq_true rfl) (eR_1 V) rfl hg17 dX12_goAll_104 ?_
          refine lv_sipush hC.1 hC.2.1 dX12_goAll_105 cs_9999 ?_
          refine lv_icmp_ge (tgt := 146) hC.1 hC.2.1 dX12_goAll_108 (by decide) (fun hc28 => ?_) (fun hc28 => ?_)
          · have hf := o_t hc28 hf
            refine lv_iinc (k := 7) (lv' := [(6, .int (x6 + 1)), (7, .int t0), (0, .ref (mvA V 0)), (1, .int x1), (2, .int x2), (3, .int x3), (4, .int x4), (5, .int x5)]) hC.1 hC.2.1 dX12_goAll_146 hl rfl (inc_1 _) (Nat.le_of_ble_eq_true rfl) rfl (fun ls hl => ?_)
            refine lv_goto (tgt := 34) hC.1 hC.2.1 dX12_goAll_149 (by decide) ?_
            exact ih19 _ _ _ _ _ _ _ _ _ _ hf hM (lv_sub hl [2, 3, 4, 5, 6, 7, 0] rfl)
          · have hf := o_f hc28 hf
            refine lv_aload_n hC.1 hC.2.1 dX12_goAll_111 rfl (lv_at hl 1 rfl) ?_
            refine lv_iload hC.1 hC.2.1 dX12_goAll_112 (lv_at hl 0 rfl) ?_
            obtain ⟨r18, M20, hq19, hf⟩ := o_b2 hf
            refine mw_cVv (As := [.int t0]) (rest := []) hC hM (mcX12_does V l M t0 r18 M20 hq19) (mw_kV hC q_1549 q_1551 q_83 q_120 q_1552 ⟨rfl, rfl⟩ kV_X12_does ⟨Nat.le_of_ble_eq_true rfl, Nat.le_of_ble_eq_true rfl⟩) (Nat.le_of_ble_eq_true rfl) (eR_0 V) rfl rfl rfl (Nat.le_of_ble_eq_true rfl) hl.1 dX12_goAll_114 (fun H locs hM => ?_)
            refine lv_aload_n hC.1 hC.2.1 dX12_goAll_117 rfl (lv_at hl 1 rfl) ?_
            obtain ⟨r21, M23, hq22, hf⟩ := o_b2 hf
            refine mw_cVi (As := []) (rest := []) hC hM (mcX12_sumNow V l M20 r21 M23 hq22) (mw_kV hC q_1460 q_1462 q_72 q_120 q_1463 ⟨rfl, rfl⟩ kV_X12_sumNow ⟨Nat.le_of_ble_eq_true rfl, Nat.le_of_ble_eq_true rfl⟩) (Nat.le_of_ble_eq_true rfl) (eR_0 V) rfl rfl rfl (Nat.le_of_ble_eq_true rfl) hl.1 dX12_goAll_118 (fun H locs hM _ => ?_)
            refine lv_istore (lv' := [(8, .int r21), (7, .int t0), (0, .ref (mvA V 0)), (1, .int x1), (2, .int x2), (3, .int x3), (4, .int x4), (5, .int x5), (6, .int x6)]) hC.1 hC.2.1 dX12_goAll_121 hl (Nat.le_of_ble_eq_true rfl) rfl (fun ls hl => ?_)
            refine lv_aload_n hC.1 hC.2.1 dX12_goAll_123 rfl (lv_at hl 2 rfl) ?_
            refine lv_iload hC.1 hC.2.1 dX12_goAll_124 (lv_at hl 0 rfl) ?_
            obtain ⟨r24, M26, hq25, hf⟩ := o_b2 hf
            refine mw_cVi (As := [.int r21]) (rest := []) hC hM (mcX12_noonBy V l M23 r21 r24 M26 hq25) (mw_kV hC q_1468 q_1470 q_73 q_120 q_1471 ⟨rfl, rfl⟩ kV_X12_noonBy ⟨Nat.le_of_ble_eq_true rfl, Nat.le_of_ble_eq_true rfl⟩) (Nat.le_of_ble_eq_true rfl) (eR_0 V) rfl rfl rfl (Nat.le_of_ble_eq_true rfl) hl.1 dX12_goAll_126 (fun H locs hM _ => ?_)
            refine lv_istore (lv' := [(9, .int r24), (8, .int r21), (7, .int t0), (0, .ref (mvA V 0)), (1, .int x1), (2, .int x2), (3, .int x3), (4, .int x4), (5, .int x5), (6, .int x6)]) hC.1 hC.2.1 dX12_goAll_129 hl (Nat.le_of_ble_eq_true rfl) rfl (fun ls hl => ?_)
            refine lv_iload hC.1 hC.2.1 dX12_goAll_131 (lv_at hl 8 rfl) ?_
            refine lv_iload hC.1 hC.2.1 dX12_goAll_133 (lv_at hl 1 rfl) ?_
            refine lv_if_ne (tgt := 142) hC.1 hC.2.1 dX12_goAll_135 (by decide) (fun hc27 => ?_) (fun hc27 => ?_)
            · have hf := o_f hc27 hf
              refine lv_iconst hC.1 hC.2.1 dX12_goAll_142 ci_1 ?_
              refine lv_iadd hC.1 hC.2.1 dX12_goAll_143 ?_
              refine lv_istore (lv' := [(5, .int (x5 + 1)), (9, .int r24), (8, .int r21), (7, .int t0), (0, .ref (mvA V 0)), (1, .int x1), (2, .int x2), (3, .int x3), (4, .int x4), (6, .int x6)]) hC.1 hC.2.1 dX12_goAll_144 hl (Nat.le_of_ble_eq_true rfl) rfl (fun ls hl => ?_)
              refine lv_iinc (k := 9) (lv' := [(6, .int (x6 + 1)), (5, .int (x5 + 1)), (9, .int r24), (8, .int r21), (7, .int t0), (0, .ref (mvA V 0)), (1, .int x1), (2, .int x2), (3, .int x3), (4, .int x4)]) hC.1 hC.2.1 dX12_goAll_146 hl rfl (inc_1 _) (Nat.le_of_ble_eq_true rfl) rfl (fun ls hl => ?_)
              refine lv_goto (tgt := 34) hC.1 hC.2.1 dX12_goAll_149 (by decide) ?_
              exact ih19 _ _ _ _ _ _ _ _ _ _ hf hM (lv_sub hl [5, 6, 7, 8, 9, 1, 0] rfl)
            · have hf := o_t hc27 hf
              refine lv_iconst hC.1 hC.2.1 dX12_goAll_138 ci_0 ?_
              refine lv_goto (tgt := 143) hC.1 hC.2.1 dX12_goAll_139 (by decide) ?_
              refine lv_iadd hC.1 hC.2.1 dX12_goAll_143 ?_
              refine lv_istore (lv' := [(5, .int (x5 + 0)), (9, .int r24), (8, .int r21), (7, .int t0), (0, .ref (mvA V 0)), (1, .int x1), (2, .int x2), (3, .int x3), (4, .int x4), (6, .int x6)]) hC.1 hC.2.1 dX12_goAll_144 hl (Nat.le_of_ble_eq_true rfl) rfl (fun ls hl => ?_)
              refine lv_iinc (k := 9) (lv' := [(6, .int (x6 + 1)), (5, .int (x5 + 0)), (9, .int r24), (8, .int r21), (7, .int t0), (0, .ref (mvA V 0)), (1, .int x1), (2, .int x2), (3, .int x3), (4, .int x4)]) hC.1 hC.2.1 dX12_goAll_146 hl rfl (inc_1 _) (Nat.le_of_ble_eq_true rfl) rfl (fun ls hl => ?_)
              refine lv_goto (tgt := 34) hC.1 hC.2.1 dX12_goAll_149 (by decide) ?_
              exact ih19 _ _ _ _ _ _ _ _ _ _ hf hM (lv_sub hl [5, 6, 7, 8, 9, 1, 0] rfl)
      refine lv_iload hC.1 hC.2.1 dX12_goAll_34 (lv_at hl 6 rfl) ?_
      refine lv_iload_n hC.1 hC.2.1 dX12_goAll_36 rfl (lv_at hl 3 rfl) ?_
      refine lv_icmp_ge (tgt := 152) hC.1 hC.2.1 dX12_goAll_37 (by decide) (fun hc14 => ?_) (fun hc14 => ?_)
      · have hf := o_t hc14 hf
        refine lv_iload hC.1 hC.2.1 dX12_goAll_152 (lv_at hl 4 rfl) ?_
        refine lv_if_ge (tgt := 162) hC.1 hC.2.1 dX12_goAll_154 (by decide) (fun hc7 => ?_) (fun hc7 => ?_)
        · have hf := o_t hc7 hf
          refine lv_iload hC.1 hC.2.1 dX12_goAll_162 (lv_at hl 5 rfl) ?_
          exact hret (o_r1 hf) (o_r2 hf hM) dX12_goAll_164
        · have hf := o_f hc7 hf
          refine lv_iload hC.1 hC.2.1 dX12_goAll_157 (lv_at hl 4 rfl) ?_
          refine lv_goto (tgt := 164) hC.1 hC.2.1 dX12_goAll_159 (by decide) ?_
          exact hret (o_r1 hf) (o_r2 hf hM) dX12_goAll_164
      · have hf := o_f hc14 hf
        refine lv_iload hC.1 hC.2.1 dX12_goAll_40 (lv_at hl 4 rfl) ?_
        refine lv_if_ne (tgt := 152) hC.1 hC.2.1 dX12_goAll_42 (by decide) (fun hc13 => ?_) (fun hc13 => ?_)
        · have hf := o_f hc13 hf
          refine lv_iload hC.1 hC.2.1 dX12_goAll_152 (lv_at hl 4 rfl) ?_
          refine lv_if_ge (tgt := 162) hC.1 hC.2.1 dX12_goAll_154 (by decide) (fun hc8 => ?_) (fun hc8 => ?_)
          · have hf := o_t hc8 hf
            refine lv_iload hC.1 hC.2.1 dX12_goAll_162 (lv_at hl 5 rfl) ?_
            exact hret (o_r1 hf) (o_r2 hf hM) dX12_goAll_164
          · have hf := o_f hc8 hf
            refine lv_iload hC.1 hC.2.1 dX12_goAll_157 (lv_at hl 4 rfl) ?_
            refine lv_goto (tgt := 164) hC.1 hC.2.1 dX12_goAll_159 (by decide) ?_
            exact hret (o_r1 hf) (o_r2 hf hM) dX12_goAll_164
        · have hf := o_t hc13 hf
          refine lv_aload_n hC.1 hC.2.1 dX12_goAll_45 rfl (lv_at hl 0 rfl) ?_
          refine lv_iload_n hC.1 hC.2.1 dX12_goAll_46 rfl (lv_at hl 1 rfl) ?_
          refine lv_iconst hC.1 hC.2.1 dX12_goAll_47 ci_0 ?_
          refine lv_iload_n hC.1 hC.2.1 dX12_goAll_48 rfl (lv_at hl 2 rfl) ?_
          refine lv_iload hC.1 hC.2.1 dX12_goAll_49 (lv_at hl 6 rfl) ?_
          refine lv_iadd hC.1 hC.2.1 dX12_goAll_51 ?_
          obtain ⟨r9, hq10, hf⟩ := o_b hf
          refine mw_cVi (As := [.int x1, .int 0, .int (x2 + x6)]) (rest := []) hC hM (mcX12_lacks V l M x1 0 (x2 + x6) r9 hq10) (mw_kV hC q_1677 q_1679 q_94 q_120 q_1680 ⟨rfl, rfl⟩ kV_X12_lacks ⟨Nat.le_of_ble_eq_true rfl, Nat.le_of_ble_eq_true rfl⟩) (Nat.le_of_ble_eq_true rfl) (eR_0 V) rfl rfl rfl (Nat.le_of_ble_eq_true rfl) hl.1 dX12_goAll_52 (fun H locs hM _ => ?_)
          refine lv_istore (lv' := [(4, .int r9), (0, .ref (mvA V 0)), (1, .int x1), (2, .int x2), (3, .int x3), (5, .int x5), (6, .int x6)]) hC.1 hC.2.1 dX12_goAll_55 hl (Nat.le_of_ble_eq_true rfl) rfl (fun ls hl => ?_)
          refine lv_iload hC.1 hC.2.1 dX12_goAll_57 (lv_at hl 0 rfl) ?_
          refine lv_if_ne (tgt := 79) hC.1 hC.2.1 dX12_goAll_59 (by decide) (fun hc12 => ?_) (fun hc12 => ?_)
          · have hf := o_f hc12 hf
            refine lv_iconst hC.1 hC.2.1 dX12_goAll_79 ci_m1 ?_
            exact hL80 _ _ _ _ _ _ _ _ _ _ _ hf hM (lv_sub hl [1, 2, 3, 4, 0, 5, 6] rfl)
          · have hf := o_t hc12 hf
            refine lv_aload_n hC.1 hC.2.1 dX12_goAll_62 rfl (lv_at hl 1 rfl) ?_
            refine mw_get (v := .ref (mvA V 12)) hC hM 0 (Nat.le_of_ble_eq_true rfl) (eR_0 V) inW12 rfl 24 (by decide) q_1170 (fun _ h9 => h9) rfl dX12_goAll_63 ?_
            refine lv_bipush hC.1 hC.2.1 dX12_goAll_66 cb_40 ?_
            refine lv_iload_n hC.1 hC.2.1 dX12_goAll_68 rfl (lv_at hl 2 rfl) ?_
            refine lv_imul hC.1 hC.2.1 dX12_goAll_69 ?_
            refine lv_iload_n hC.1 hC.2.1 dX12_goAll_70 rfl (lv_at hl 3 rfl) ?_
            refine lv_iadd hC.1 hC.2.1 dX12_goAll_71 ?_
            refine lv_iload hC.1 hC.2.1 dX12_goAll_72 (lv_at hl 6 rfl) ?_
            refine lv_iadd hC.1 hC.2.1 dX12_goAll_74 ?_
            obtain ⟨hg11, hf⟩ := o_g hf
            refine mw_iald hC hM 12 0 (Nat.le_of_ble_eq_true rfl) (eR_12 V) rfl hg11 dX12_goAll_75 ?_
            refine lv_goto (tgt := 80) hC.1 hC.2.1 dX12_goAll_76 (by decide) ?_
            exact hL80 _ _ _ _ _ _ _ _ _ _ _ hf hM (lv_sub hl [1, 2, 3, 4, 0, 5, 6] rfl)
  refine lv_iload_n hC.1 hC.2.1 dX12_goAll_0 rfl (lv_at hl 1 rfl) ?_
  refine mw_cSi (As := [.int p1]) (rest := []) hC hM (mcX12_isFour V l M p1 _ rfl) (mw_kS hC q_1669 q_1670 q_120 q_1671 ⟨rfl, rfl⟩ kS_X12_isFour ⟨Nat.le_of_ble_eq_true rfl, Nat.le_of_ble_eq_true rfl⟩) rfl rfl (Nat.le_of_ble_eq_true rfl) hl.1 dX12_goAll_1 (fun H locs hM hb1 => ?_)
  refine lv_if_eq (tgt := 19) hC.1 hC.2.1 dX12_goAll_4 (by decide) (fun hc6 => ?_) (fun hc6 => ?_)
  · have hf := o_t hc6 hf
    refine lv_iconst hC.1 hC.2.1 dX12_goAll_19 ci_m1 ?_
    exact hret (o_r1 hf) (o_r2 hf hM) dX12_goAll_20
  · have hf := o_f hc6 hf
    refine lv_iload_n hC.1 hC.2.1 dX12_goAll_7 rfl (lv_at hl 3 rfl) ?_
    refine lv_i2l (v := (Int32.toInt64 p3)) hC.1 hC.2.1 dX12_goAll_8 rfl ?_
    refine lv_lconst (v := 0) hC.1 hC.2.1 dX12_goAll_9 rfl ?_
    refine lv_ldc2 hC.1 hC.2.1 hC.2.2.2.1 (mw_w hC q_1692) dX12_goAll_10 ?_
    refine mw_cSi (As := [.long (Int32.toInt64 p3), .long 0, .long 20]) (rest := []) hC hM (mcX12_in V l M (Int32.toInt64 p3) 0 20 _ rfl) (mw_kS hC q_1257 q_1258 q_120 q_1259 ⟨rfl, rfl⟩ kS_X12_in ⟨Nat.le_of_ble_eq_true rfl, Nat.le_of_ble_eq_true rfl⟩) rfl rfl (Nat.le_of_ble_eq_true rfl) hl.1 dX12_goAll_13 (fun H locs hM hb2 => ?_)
    refine lv_if_ne (tgt := 21) hC.1 hC.2.1 dX12_goAll_16 (by decide) (fun hc5 => ?_) (fun hc5 => ?_)
    · have hf := o_f hc5 hf
      refine lv_aload_n hC.1 hC.2.1 dX12_goAll_21 rfl (lv_at hl 0 rfl) ?_
      refine lv_iload_n hC.1 hC.2.1 dX12_goAll_22 rfl (lv_at hl 1 rfl) ?_
      obtain ⟨r3, hq4, hf⟩ := o_b hf
      refine mw_cVi (As := [.int p1]) (rest := []) hC hM (mcX12_lacksBytes V l M p1 r3 hq4) (mw_kV hC q_1693 q_1695 q_95 q_120 q_1696 ⟨rfl, rfl⟩ kV_X12_lacksBytes ⟨Nat.le_of_ble_eq_true rfl, Nat.le_of_ble_eq_true rfl⟩) (Nat.le_of_ble_eq_true rfl) (eR_0 V) rfl rfl rfl (Nat.le_of_ble_eq_true rfl) hl.1 dX12_goAll_23 (fun H locs hM _ => ?_)
      refine lv_istore (lv' := [(4, .int r3), (0, .ref (mvA V 0)), (1, .int p1), (2, .int p2), (3, .int p3)]) hC.1 hC.2.1 dX12_goAll_26 hl (Nat.le_of_ble_eq_true rfl) rfl (fun ls hl => ?_)
      refine lv_iconst hC.1 hC.2.1 dX12_goAll_28 ci_0 ?_
      refine lv_istore (lv' := [(5, .int 0), (4, .int r3), (0, .ref (mvA V 0)), (1, .int p1), (2, .int p2), (3, .int p3)]) hC.1 hC.2.1 dX12_goAll_29 hl (Nat.le_of_ble_eq_true rfl) rfl (fun ls hl => ?_)
      refine lv_iconst hC.1 hC.2.1 dX12_goAll_31 ci_0 ?_
      refine lv_istore (lv' := [(6, .int 0), (5, .int 0), (4, .int r3), (0, .ref (mvA V 0)), (1, .int p1), (2, .int p2), (3, .int p3)]) hC.1 hC.2.1 dX12_goAll_32 hl (Nat.le_of_ble_eq_true rfl) rfl (fun ls hl => ?_)
      exact hL34 _ _ _ _ _ _ _ _ _ _ _ hf hM (lv_sub hl [3, 4, 5, 6, 2, 1, 0] rfl)
    · have hf := o_t hc5 hf
      refine lv_iconst hC.1 hC.2.1 dX12_goAll_19 ci_m1 ?_
      exact hret (o_r1 hf) (o_r2 hf hM) dX12_goAll_20
