set_option maxHeartbeats 4000000 in
set_option maxRecDepth 100000 in
theorem mcX12_clock (V : mV) (l : Launch) (M : mM) (p1 : Int32) (r : Int32) (M' : mM) (hf : fX12_clock M p1 = some (r, M')) : IR V l yX12_clock cX12_clock 2 ({ frames := 2, cells := 0, slots := 0, locals := 45 } : Room) [.ref (mvA V 0), .int p1] M r M' := by
  unfold fX12_clock at hf
  refine mw_enterI RX12 rfl (by decide +kernel) (Nat.le_of_ble_eq_true rfl) (fun {p e s m args below meth c} ls A Q hC hret hM hl => ?_)
  have hl : lv_has ls 2 [(0, .ref (mvA V 0)), (1, .int p1)] := hl
  refine lv_iload_n hC.1 hC.2.1 dX12_clock_0 rfl (lv_at hl 1 rfl) ?_
  refine mw_cSi (As := [.int p1]) (rest := []) hC hM (mcX12_isHour V l M p1 _ rfl) (mw_kS hC q_1263 q_1264 q_120 q_1265 ⟨rfl, rfl⟩ kS_X12_isHour ⟨Nat.le_of_ble_eq_true rfl, Nat.le_of_ble_eq_true rfl⟩) rfl rfl (Nat.le_of_ble_eq_true rfl) hl.1 dX12_clock_1 (fun H locs hM hb1 => ?_)
  refine lv_if_eq (tgt := 16) hC.1 hC.2.1 dX12_clock_4 (by decide) (fun hc5 => ?_) (fun hc5 => ?_)
  · have hf := o_t hc5 hf
    refine lv_iconst hC.1 hC.2.1 dX12_clock_16 ci_m1 ?_
    exact hret (o_r1 hf) (o_r2 hf hM) dX12_clock_17
  · have hf := o_f hc5 hf
    refine lv_aload_n hC.1 hC.2.1 dX12_clock_7 rfl (lv_at hl 0 rfl) ?_
    refine lv_iconst hC.1 hC.2.1 dX12_clock_8 ci_1 ?_
    refine lv_iload_n hC.1 hC.2.1 dX12_clock_9 rfl (lv_at hl 1 rfl) ?_
    obtain ⟨r2, M4, hq3, hf⟩ := o_b2 hf
    refine mw_cVi (As := [.int 1, .int p1]) (rest := []) hC hM (mcX12_becomes V l M 1 p1 r2 M4 hq3) (mw_kV hC q_1324 q_1326 q_53 q_120 q_1327 ⟨rfl, rfl⟩ kV_X12_becomes ⟨Nat.le_of_ble_eq_true rfl, Nat.le_of_ble_eq_true rfl⟩) (Nat.le_of_ble_eq_true rfl) (eR_0 V) rfl rfl rfl (Nat.le_of_ble_eq_true rfl) hl.1 dX12_clock_10 (fun H locs hM _ => ?_)
    refine lv_goto (tgt := 17) hC.1 hC.2.1 dX12_clock_13 (by decide) ?_
    exact hret (o_r1 hf) (o_r2 hf hM) dX12_clock_17
set_option maxHeartbeats 4000000 in
set_option maxRecDepth 100000 in
theorem mcX12_limit (V : mV) (l : Launch) (M : mM) (p1 : Int32) (r : Int32) (M' : mM) (hf : fX12_limit M p1 = some (r, M')) : IR V l yX12_limit cX12_limit 2 ({ frames := 1, cells := 0, slots := 0, locals := 25 } : Room) [.ref (mvA V 0), .int p1] M r M' := by
  unfold fX12_limit at hf
  refine mw_enterI RX12 rfl (by decide +kernel) (Nat.le_of_ble_eq_true rfl) (fun {p e s m args below meth c} ls A Q hC hret hM hl => ?_)
  have hl : lv_has ls 2 [(0, .ref (mvA V 0)), (1, .int p1)] := hl
  refine lv_iload_n hC.1 hC.2.1 dX12_limit_0 rfl (lv_at hl 1 rfl) ?_
  refine lv_i2l (v := (Int32.toInt64 p1)) hC.1 hC.2.1 dX12_limit_1 rfl ?_
  refine lv_lconst (v := 0) hC.1 hC.2.1 dX12_limit_2 rfl ?_
  refine lv_ldc2 hC.1 hC.2.1 hC.2.2.2.1 (mw_w hC q_1268) dX12_limit_3 ?_
  refine mw_cSi (As := [.long (Int32.toInt64 p1), .long 0, .long 99]) (rest := []) hC hM (mcX12_in V l M (Int32.toInt64 p1) 0 99 _ rfl) (mw_kS hC q_1257 q_1258 q_120 q_1259 ⟨rfl, rfl⟩ kS_X12_in ⟨Nat.le_of_ble_eq_true rfl, Nat.le_of_ble_eq_true rfl⟩) rfl rfl (Nat.le_of_ble_eq_true rfl) hl.1 dX12_limit_6 (fun H locs hM hb1 => ?_)
  refine lv_if_eq (tgt := 21) hC.1 hC.2.1 dX12_limit_9 (by decide) (fun hc5 => ?_) (fun hc5 => ?_)
  · have hf := o_t hc5 hf
    refine lv_iconst hC.1 hC.2.1 dX12_limit_21 ci_m1 ?_
    exact hret (o_r1 hf) (o_r2 hf hM) dX12_limit_22
  · have hf := o_f hc5 hf
    refine lv_aload_n hC.1 hC.2.1 dX12_limit_12 rfl (lv_at hl 0 rfl) ?_
    refine lv_iconst hC.1 hC.2.1 dX12_limit_13 ci_3 ?_
    refine lv_iload_n hC.1 hC.2.1 dX12_limit_14 rfl (lv_at hl 1 rfl) ?_
    obtain ⟨r2, M4, hq3, hf⟩ := o_b2 hf
    refine mw_cVi (As := [.int 3, .int p1]) (rest := []) hC hM (mcX12_becomes V l M 3 p1 r2 M4 hq3) (mw_kV hC q_1324 q_1326 q_53 q_120 q_1327 ⟨rfl, rfl⟩ kV_X12_becomes ⟨Nat.le_of_ble_eq_true rfl, Nat.le_of_ble_eq_true rfl⟩) (Nat.le_of_ble_eq_true rfl) (eR_0 V) rfl rfl rfl (Nat.le_of_ble_eq_true rfl) hl.1 dX12_limit_15 (fun H locs hM _ => ?_)
    refine lv_goto (tgt := 22) hC.1 hC.2.1 dX12_limit_18 (by decide) ?_
    exact hret (o_r1 hf) (o_r2 hf hM) dX12_limit_22
set_option maxHeartbeats 4000000 in
set_option maxRecDepth 100000 in
theorem mcX12_awakeSet (V : mV) (l : Launch) (M : mM) (r : Int32) (hf : fX12_awakeSet M = some r) : IR V l yX12_awakeSet cX12_awakeSet 3 ({ frames := 1, cells := 0, slots := 0, locals := 22 } : Room) [.ref (mvA V 0)] M r M := by
  unfold fX12_awakeSet at hf
  refine mw_enterI RX12 rfl (by decide +kernel) (Nat.le_of_ble_eq_true rfl) (fun {p e s m args below meth c} ls A Q hC hret hM hl => ?_)
  have hl : lv_has ls 3 [(0, .ref (mvA V 0))] := hl
  have hL4 : ∀ (n : Nat) (x1 : Int32) (x2 : Int32) (H : Heap) (locs : List Loc) (ls : Array Slot), fX12_awakeSet_L4 n M x1 x2 = some r → PR V M A s H locs → lv_has ls 3 [(0, .ref (mvA V 0)), (1, .int x1), (2, .int x2)] → W p l e ({ frames := 1, cells := 0, slots := 0, locals := 22 } : Room) s m args below meth c H locs 0 0 Q (F0 m 4 ls []) := by
    intro n4
    induction n4 with
    | zero => intro x1 x2 H locs ls hf; cases hf
    | succ n4 ih4 =>
      intro x1 x2 H locs ls hf hM hl
      have hf : fX12_awakeSet_L4_b (fX12_awakeSet_L4 n4) M x1 x2 = some r := hf
      unfold fX12_awakeSet_L4_b at hf
      refine lv_iload_n hC.1 hC.2.1 dX12_awakeSet_4 rfl (lv_at hl 2 rfl) ?_
      refine lv_aload_n hC.1 hC.2.1 dX12_awakeSet_5 rfl (lv_at hl 0 rfl) ?_
      refine mw_get (v := .ref (mvA V 1)) hC hM 0 (Nat.le_of_ble_eq_true rfl) (eR_0 V) inW12 rfl 0 (by decide) q_1146 (fun _ h9 => h9) rfl dX12_awakeSet_6 ?_
      refine lv_iconst hC.1 hC.2.1 dX12_awakeSet_9 ci_0 ?_
      obtain ⟨hg1, hf⟩ := o_g hf
      refine mw_iald hC hM 1 0 (Nat.le_of_ble_eq_true rfl) (eR_1 V) rfl hg1 dX12_awakeSet_10 ?_
      refine lv_icmp_ge (tgt := 31) hC.1 hC.2.1 dX12_awakeSet_11 (by decide) (fun hc4 => ?_) (fun hc4 => ?_)
      · have hf := o_t hc4 hf
        refine lv_iload_n hC.1 hC.2.1 dX12_awakeSet_31 rfl (lv_at hl 1 rfl) ?_
        exact hret (Option.some.inj hf) hM dX12_awakeSet_32
      · have hf := o_f hc4 hf
        refine lv_iload_n hC.1 hC.2.1 dX12_awakeSet_14 rfl (lv_at hl 1 rfl) ?_
        refine lv_aload_n hC.1 hC.2.1 dX12_awakeSet_15 rfl (lv_at hl 0 rfl) ?_
        refine lv_iload_n hC.1 hC.2.1 dX12_awakeSet_16 rfl (lv_at hl 2 rfl) ?_
        refine lv_iconst hC.1 hC.2.1 dX12_awakeSet_17 ci_4 ?_
        obtain ⟨r2, hq3, hf⟩ := o_b hf
        refine mw_cVi (As := [.int x2, .int 4]) (rest := [.int x1]) hC hM (mcX12_its V l M x2 4 r2 hq3) (mw_kV hC q_1282 q_1284 q_46 q_120 q_1285 ⟨rfl, rfl⟩ kV_X12_its ⟨Nat.le_of_ble_eq_true rfl, Nat.le_of_ble_eq_true rfl⟩) (Nat.le_of_ble_eq_true rfl) (eR_0 V) rfl rfl rfl (Nat.le_of_ble_eq_true rfl) hl.1 dX12_awakeSet_18 (fun H locs hM _ => ?_)
        refine lv_iload_n hC.1 hC.2.1 dX12_awakeSet_21 rfl (lv_at hl 2 rfl) ?_
        refine lv_ishl hC.1 hC.2.1 dX12_awakeSet_22 ?_
        refine lv_ior hC.1 hC.2.1 dX12_awakeSet_23 ?_
        refine lv_istore_n (lv' := [(1, .int (x1 ||| (r2 <<< (x2 &&& 31)))), (0, .ref (mvA V 0)), (2, .int x2)]) hC.1 hC.2.1 dX12_awakeSet_24 rfl hl (Nat.le_of_ble_eq_true rfl) rfl (fun ls hl => ?_)
        refine lv_iinc (k := 2) (lv' := [(2, .int (x2 + 1)), (1, .int (x1 ||| (r2 <<< (x2 &&& 31)))), (0, .ref (mvA V 0))]) hC.1 hC.2.1 dX12_awakeSet_25 hl rfl (inc_1 _) (Nat.le_of_ble_eq_true rfl) rfl (fun ls hl => ?_)
        refine lv_goto (tgt := 4) hC.1 hC.2.1 dX12_awakeSet_28 (by decide) ?_
        exact ih4 _ _ _ _ _ hf hM (lv_sub hl [2, 1, 0] rfl)
  refine lv_iconst hC.1 hC.2.1 dX12_awakeSet_0 ci_0 ?_
  refine lv_istore_n (lv' := [(1, .int 0), (0, .ref (mvA V 0))]) hC.1 hC.2.1 dX12_awakeSet_1 rfl hl (Nat.le_of_ble_eq_true rfl) rfl (fun ls hl => ?_)
  refine lv_iconst hC.1 hC.2.1 dX12_awakeSet_2 ci_0 ?_
  refine lv_istore_n (lv' := [(2, .int 0), (1, .int 0), (0, .ref (mvA V 0))]) hC.1 hC.2.1 dX12_awakeSet_3 rfl hl (Nat.le_of_ble_eq_true rfl) rfl (fun ls hl => ?_)
  exact hL4 _ _ _ _ _ _ hf hM (lv_sub hl [2, 1, 0] rfl)
set_option maxHeartbeats 4000000 in
set_option maxRecDepth 100000 in
theorem mcX12_state (V : mV) (l : Launch) (M : mM) (p1 : Int32) (r : Int32) (hf : fX12_state M p1 = some r) : IR V l yX12_state cX12_state 2 ({ frames := 2, cells := 0, slots := 0, locals := 44 } : Room) [.ref (mvA V 0), .int p1] M r M := by
  unfold fX12_state at hf
  refine mw_enterI RX12 rfl (by decide +kernel) (Nat.le_of_ble_eq_true rfl) (fun {p e s m args below meth c} ls A Q hC hret hM hl => ?_)
  have hl : lv_has ls 2 [(0, .ref (mvA V 0)), (1, .int p1)] := hl
  refine lv_iload_n hC.1 hC.2.1 dX12_state_0 rfl (lv_at hl 1 rfl) ?_
  by_cases hc2 : p1 = 0
  · have hf := o_t hc2 hf
    refine lv_tableIn (off := 35) (tgt := 36) hC.1 hC.2.1 dX12_state_1 (by rw [hc2]; decide) (by rw [hc2]; decide) (by rw [hc2]; rfl) (by decide) ?_
    refine lv_aload_n hC.1 hC.2.1 dX12_state_36 rfl (lv_at hl 0 rfl) ?_
    refine mw_get (v := .ref (mvA V 1)) hC hM 0 (Nat.le_of_ble_eq_true rfl) (eR_0 V) inW12 rfl 0 (by decide) q_1146 (fun _ h9 => h9) rfl dX12_state_37 ?_
    refine lv_iconst hC.1 hC.2.1 dX12_state_40 ci_1 ?_
    obtain ⟨hg1, hf⟩ := o_g hf
    refine mw_iald hC hM 1 0 (Nat.le_of_ble_eq_true rfl) (eR_1 V) rfl hg1 dX12_state_41 ?_
    exact hret (Option.some.inj hf) hM dX12_state_42
  have hf := o_f hc2 hf
  by_cases hc4 : p1 = 1
  · have hf := o_t hc4 hf
    refine lv_tableIn (off := 42) (tgt := 43) hC.1 hC.2.1 dX12_state_1 (by rw [hc4]; decide) (by rw [hc4]; decide) (by rw [hc4]; rfl) (by decide) ?_
    refine lv_aload_n hC.1 hC.2.1 dX12_state_43 rfl (lv_at hl 0 rfl) ?_
    refine mw_get (v := .ref (mvA V 1)) hC hM 0 (Nat.le_of_ble_eq_true rfl) (eR_0 V) inW12 rfl 0 (by decide) q_1146 (fun _ h9 => h9) rfl dX12_state_44 ?_
    refine lv_iconst hC.1 hC.2.1 dX12_state_47 ci_2 ?_
    obtain ⟨hg3, hf⟩ := o_g hf
    refine mw_iald hC hM 1 0 (Nat.le_of_ble_eq_true rfl) (eR_1 V) rfl hg3 dX12_state_48 ?_
    exact hret (Option.some.inj hf) hM dX12_state_49
  have hf := o_f hc4 hf
  by_cases hc6 : p1 = 2
  · have hf := o_t hc6 hf
    refine lv_tableIn (off := 49) (tgt := 50) hC.1 hC.2.1 dX12_state_1 (by rw [hc6]; decide) (by rw [hc6]; decide) (by rw [hc6]; rfl) (by decide) ?_
    refine lv_aload_n hC.1 hC.2.1 dX12_state_50 rfl (lv_at hl 0 rfl) ?_
    refine mw_get (v := .ref (mvA V 1)) hC hM 0 (Nat.le_of_ble_eq_true rfl) (eR_0 V) inW12 rfl 0 (by decide) q_1146 (fun _ h9 => h9) rfl dX12_state_51 ?_
    refine lv_iconst hC.1 hC.2.1 dX12_state_54 ci_3 ?_
    obtain ⟨hg5, hf⟩ := o_g hf
    refine mw_iald hC hM 1 0 (Nat.le_of_ble_eq_true rfl) (eR_1 V) rfl hg5 dX12_state_55 ?_
    exact hret (Option.some.inj hf) hM dX12_state_56
  have hf := o_f hc6 hf
  by_cases hc9 : p1 = 3
  · have hf := o_t hc9 hf
    refine lv_tableIn (off := 56) (tgt := 57) hC.1 hC.2.1 dX12_state_1 (by rw [hc9]; decide) (by rw [hc9]; decide) (by rw [hc9]; rfl) (by decide) ?_
    refine lv_aload_n hC.1 hC.2.1 dX12_state_57 rfl (lv_at hl 0 rfl) ?_
    obtain ⟨r7, hq8, hf⟩ := o_b hf
    refine mw_cVi (As := []) (rest := []) hC hM (mcX12_awakeSet V l M r7 hq8) (mw_kV hC q_1348 q_1350 q_54 q_120 q_1351 ⟨rfl, rfl⟩ kV_X12_awakeSet ⟨Nat.le_of_ble_eq_true rfl, Nat.le_of_ble_eq_true rfl⟩) (Nat.le_of_ble_eq_true rfl) (eR_0 V) rfl rfl rfl (Nat.le_of_ble_eq_true rfl) hl.1 dX12_state_58 (fun H locs hM _ => ?_)
    exact hret (Option.some.inj hf) hM dX12_state_61
  have hf := o_f hc9 hf
  by_cases hc11 : p1 = 4
  · have hf := o_t hc11 hf
    refine lv_tableIn (off := 61) (tgt := 62) hC.1 hC.2.1 dX12_state_1 (by rw [hc11]; decide) (by rw [hc11]; decide) (by rw [hc11]; rfl) (by decide) ?_
    refine lv_aload_n hC.1 hC.2.1 dX12_state_62 rfl (lv_at hl 0 rfl) ?_
    refine mw_get (v := .ref (mvA V 1)) hC hM 0 (Nat.le_of_ble_eq_true rfl) (eR_0 V) inW12 rfl 0 (by decide) q_1146 (fun _ h9 => h9) rfl dX12_state_63 ?_
    refine lv_iconst hC.1 hC.2.1 dX12_state_66 ci_4 ?_
    obtain ⟨hg10, hf⟩ := o_g hf
    refine mw_iald hC hM 1 0 (Nat.le_of_ble_eq_true rfl) (eR_1 V) rfl hg10 dX12_state_67 ?_
    exact hret (Option.some.inj hf) hM dX12_state_68
  have hf := o_f hc11 hf
  have hc2 := sw_ne (k := 0) (v := 0) rfl hc2
  have hc4 := sw_ne (k := 1) (v := 1) rfl hc4
  have hc6 := sw_ne (k := 2) (v := 2) rfl hc6
  have hc9 := sw_ne (k := 3) (v := 3) rfl hc9
  have hc11 := sw_ne (k := 4) (v := 4) rfl hc11
  refine lv_tableOut (tgt := 69) hC.1 hC.2.1 dX12_state_1 (by omega) (by decide) ?_
  refine lv_iconst hC.1 hC.2.1 dX12_state_69 ci_m1 ?_
  exact hret (Option.some.inj hf) hM dX12_state_70
set_option maxHeartbeats 4000000 in
set_option maxRecDepth 100000 in
theorem mcX12_feed (V : mV) (l : Launch) (M : mM) (p1 : Int64) (p3 : Int32) (r : Int32) (M' : mM) (hf : fX12_feed M p1 p3 = some (r, M')) : IR V l yX12_feed cX12_feed 5 ({ frames := 1, cells := 0, slots := 0, locals := 25 } : Room) [.ref (mvA V 0), .long p1, .int p3] M r M' := by
  unfold fX12_feed at hf
  refine mw_enterI RX12 rfl (by decide +kernel) (Nat.le_of_ble_eq_true rfl) (fun {p e s m args below meth c} ls A Q hC hret hM hl => ?_)
  have hl : lv_has ls 5 [(0, .ref (mvA V 0)), (1, .long p1), (3, .int p3)] := hl
  have hL32 : ∀ (n : Nat) (M : mM) (x1 : Int64) (x3 : Int32) (x4 : Int32) (H : Heap) (locs : List Loc) (ls : Array Slot), fX12_feed_L32 n M x1 x3 x4 = some (r, M') → PR V M A s H locs → lv_has ls 5 [(0, .ref (mvA V 0)), (1, .long x1), (3, .int x3), (4, .int x4)] → W p l e ({ frames := 1, cells := 0, slots := 0, locals := 25 } : Room) s m args below meth c H locs 0 0 Q (F0 m 32 ls []) := by
    intro n18
    induction n18 with
    | zero => intro M x1 x3 x4 H locs ls hf; cases hf
    | succ n18 ih18 =>
      intro M x1 x3 x4 H locs ls hf hM hl
      have hf : fX12_feed_L32_b (fX12_feed_L32 n18) M x1 x3 x4 = some (r, M') := hf
      unfold fX12_feed_L32_b at hf
      refine lv_iload hC.1 hC.2.1 dX12_feed_32 (lv_at hl 3 rfl) ?_
      refine lv_iload_n hC.1 hC.2.1 dX12_feed_34 rfl (lv_at hl 2 rfl) ?_
      refine lv_icmp_ge (tgt := 75) hC.1 hC.2.1 dX12_feed_35 (by decide) (fun hc5 => ?_) (fun hc5 => ?_)
      · have hf := o_t hc5 hf
        refine lv_aload_n hC.1 hC.2.1 dX12_feed_75 rfl (lv_at hl 0 rfl) ?_
        refine mw_get (v := .int (M 0 5)) hC hM 0 (Nat.le_of_ble_eq_true rfl) (eR_0 V) inW12 rfl 5 (by decide) q_1151 (fun _ h9 => h9) rfl dX12_feed_76 ?_
        exact hret (o_r1 hf) (o_r2 hf hM) dX12_feed_79
      · have hf := o_f hc5 hf
        refine lv_aload_n hC.1 hC.2.1 dX12_feed_38 rfl (lv_at hl 0 rfl) ?_
        refine mw_get (v := .ref (mvA V 4)) hC hM 0 (Nat.le_of_ble_eq_true rfl) (eR_0 V) inW12 rfl 4 (by decide) q_1150 (fun _ h9 => h9) rfl dX12_feed_39 ?_
        refine lv_aload_n hC.1 hC.2.1 dX12_feed_42 rfl (lv_at hl 0 rfl) ?_
        refine mw_get (v := .int (M 0 5)) hC hM 0 (Nat.le_of_ble_eq_true rfl) (eR_0 V) inW12 rfl 5 (by decide) q_1151 (fun _ h9 => h9) rfl dX12_feed_43 ?_
        refine lv_lload_n hC.1 hC.2.1 dX12_feed_46 rfl (lv_at hl 1 rfl) ?_
        refine lv_bipush hC.1 hC.2.1 dX12_feed_47 cb_8 ?_
        refine lv_iload hC.1 hC.2.1 dX12_feed_49 (lv_at hl 3 rfl) ?_
        refine lv_imul hC.1 hC.2.1 dX12_feed_51 ?_
        refine lv_lshr (v := (x1 >>> (Int32.toInt64 (8 * x4) &&& 63))) hC.1 hC.2.1 dX12_feed_52 rfl ?_
        refine lv_ldc2 hC.1 hC.2.1 hC.2.2.2.1 (mw_w hC q_1357) dX12_feed_53 ?_
        refine lv_land hC.1 hC.2.1 dX12_feed_56 ?_
        refine lv_l2i (v := (Int64.toInt32 ((x1 >>> (Int32.toInt64 (8 * x4) &&& 63)) &&& 255))) hC.1 hC.2.1 dX12_feed_57 rfl ?_
        obtain ⟨hg4, hf⟩ := o_g hf
        refine mw_iast hC hM 4 0 (Nat.le_of_ble_eq_true rfl) (eR_4 V) rfl hg4 dX12_feed_58 (fun H locs hM => ?_)
        refine lv_aload_n hC.1 hC.2.1 dX12_feed_59 rfl (lv_at hl 0 rfl) ?_
        refine lv_dup hC.1 hC.2.1 dX12_feed_60 rfl ?_
        refine mw_get (v := .int ((wr M 4 (Int32.toNatClampNeg (M 0 5)) (Int64.toInt32 ((x1 >>> (Int32.toInt64 (8 * x4) &&& 63)) &&& 255))) 0 5)) hC hM 0 (Nat.le_of_ble_eq_true rfl) (eR_0 V) inW12 rfl 5 (by decide) q_1151 (fun _ h9 => h9) rfl dX12_feed_61 ?_
        refine lv_iconst hC.1 hC.2.1 dX12_feed_64 ci_1 ?_
        refine lv_iadd hC.1 hC.2.1 dX12_feed_65 ?_
        refine mw_put hC hM 0 (Nat.le_of_ble_eq_true rfl) (eR_0 V) inW12 tyX12 tyX12_ok nmX12 rfl 5 (by decide) q_1151 (fun _ h9 => h9) rfl rfl rfl (Nat.le_of_ble_eq_true rfl) rfl dX12_feed_66 (fun H locs hM => ?_)
        refine lv_iinc (k := 3) (lv' := [(4, .int (x4 + 1)), (0, .ref (mvA V 0)), (1, .long x1), (3, .int x3)]) hC.1 hC.2.1 dX12_feed_69 hl rfl (inc_1 _) (Nat.le_of_ble_eq_true rfl) rfl (fun ls hl => ?_)
        refine lv_goto (tgt := 32) hC.1 hC.2.1 dX12_feed_72 (by decide) ?_
        exact ih18 _ _ _ _ _ _ _ hf hM (lv_sub hl [1, 2, 3, 0] rfl)
  refine lv_iload_n hC.1 hC.2.1 dX12_feed_0 rfl (lv_at hl 2 rfl) ?_
  refine lv_i2l (v := (Int32.toInt64 p3)) hC.1 hC.2.1 dX12_feed_1 rfl ?_
  refine lv_lconst (v := 1) hC.1 hC.2.1 dX12_feed_2 rfl ?_
  refine lv_ldc2 hC.1 hC.2.1 hC.2.2.2.1 (mw_w hC q_1356) dX12_feed_3 ?_
  refine mw_cSi (As := [.long (Int32.toInt64 p3), .long 1, .long 8]) (rest := []) hC hM (mcX12_in V l M (Int32.toInt64 p3) 1 8 _ rfl) (mw_kS hC q_1257 q_1258 q_120 q_1259 ⟨rfl, rfl⟩ kS_X12_in ⟨Nat.le_of_ble_eq_true rfl, Nat.le_of_ble_eq_true rfl⟩) rfl rfl (Nat.le_of_ble_eq_true rfl) hl.1 dX12_feed_6 (fun H locs hM hb1 => ?_)
  refine lv_if_ne (tgt := 14) hC.1 hC.2.1 dX12_feed_9 (by decide) (fun hc3 => ?_) (fun hc3 => ?_)
  · have hf := o_f hc3 hf
    refine lv_aload_n hC.1 hC.2.1 dX12_feed_14 rfl (lv_at hl 0 rfl) ?_
    refine mw_get (v := .int (M 0 5)) hC hM 0 (Nat.le_of_ble_eq_true rfl) (eR_0 V) inW12 rfl 5 (by decide) q_1151 (fun _ h9 => h9) rfl dX12_feed_15 ?_
    refine lv_iload_n hC.1 hC.2.1 dX12_feed_18 rfl (lv_at hl 2 rfl) ?_
    refine lv_iadd hC.1 hC.2.1 dX12_feed_19 ?_
    refine lv_sipush hC.1 hC.2.1 dX12_feed_20 cs_200 ?_
    refine lv_icmp_le (tgt := 29) hC.1 hC.2.1 dX12_feed_23 (by decide) (fun hc2 => ?_) (fun hc2 => ?_)
    · have hf := o_t hc2 hf
      refine lv_iconst hC.1 hC.2.1 dX12_feed_29 ci_0 ?_
      refine lv_istore (lv' := [(4, .int 0), (0, .ref (mvA V 0)), (1, .long p1), (3, .int p3)]) hC.1 hC.2.1 dX12_feed_30 hl (Nat.le_of_ble_eq_true rfl) rfl (fun ls hl => ?_)
      exact hL32 _ _ _ _ _ _ _ _ hf hM (lv_sub hl [1, 2, 3, 0] rfl)
    · have hf := o_f hc2 hf
      refine lv_bipush hC.1 hC.2.1 dX12_feed_26 cb_m2 ?_
      exact hret (o_r1 hf) (o_r2 hf hM) dX12_feed_28
  · have hf := o_t hc3 hf
    refine lv_iconst hC.1 hC.2.1 dX12_feed_12 ci_m1 ?_
    exact hret (o_r1 hf) (o_r2 hf hM) dX12_feed_13
set_option maxHeartbeats 4000000 in
set_option maxRecDepth 100000 in
theorem mcX12_isByte (V : mV) (l : Launch) (M : mM) (p1 : Int32) (p2 : Int32) (p3 : Int32) (r : Int32) (hf : fX12_isByte M p1 p2 p3 = some r) : ZR V l yX12_isByte cX12_isByte 4 ({ frames := 1, cells := 0, slots := 0, locals := 25 } : Room) [.ref (mvA V 0), .int p1, .int p2, .int p3] M r M := by
  unfold fX12_isByte at hf
  refine mw_enterZ RX12 rfl (by decide +kernel) (Nat.le_of_ble_eq_true rfl) (fun {p e s m args below meth c} ls A Q hC hret hM hl => ?_)
  have hl : lv_has ls 4 [(0, .ref (mvA V 0)), (1, .int p1), (2, .int p2), (3, .int p3)] := hl
  refine lv_iload_n hC.1 hC.2.1 dX12_isByte_0 rfl (lv_at hl 1 rfl) ?_
  refine lv_aload_n hC.1 hC.2.1 dX12_isByte_1 rfl (lv_at hl 0 rfl) ?_
  refine mw_get (v := .int (M 0 5)) hC hM 0 (Nat.le_of_ble_eq_true rfl) (eR_0 V) inW12 rfl 5 (by decide) q_1151 (fun _ h9 => h9) rfl dX12_isByte_2 ?_
  refine lv_icmp_ge (tgt := 29) hC.1 hC.2.1 dX12_isByte_5 (by decide) (fun hc4 => ?_) (fun hc4 => ?_)
  · have hf := o_t hc4 hf
    refine lv_iconst hC.1 hC.2.1 dX12_isByte_29 ci_0 ?_
    exact hret (Option.some.inj hf) (Or.inl rfl) hM dX12_isByte_30
  · have hf := o_f hc4 hf
    refine lv_aload_n hC.1 hC.2.1 dX12_isByte_8 rfl (lv_at hl 0 rfl) ?_
    refine mw_get (v := .ref (mvA V 4)) hC hM 0 (Nat.le_of_ble_eq_true rfl) (eR_0 V) inW12 rfl 4 (by decide) q_1150 (fun _ h9 => h9) rfl dX12_isByte_9 ?_
    refine lv_iload_n hC.1 hC.2.1 dX12_isByte_12 rfl (lv_at hl 1 rfl) ?_
    obtain ⟨hg1, hf⟩ := o_g hf
    refine mw_iald hC hM 4 0 (Nat.le_of_ble_eq_true rfl) (eR_4 V) rfl hg1 dX12_isByte_13 ?_
    refine lv_i2l (v := (Int32.toInt64 (M 4 (Int32.toNatClampNeg p1)))) hC.1 hC.2.1 dX12_isByte_14 rfl ?_
    refine lv_iload_n hC.1 hC.2.1 dX12_isByte_15 rfl (lv_at hl 2 rfl) ?_
    refine lv_i2l (v := (Int32.toInt64 p2)) hC.1 hC.2.1 dX12_isByte_16 rfl ?_
    refine lv_iload_n hC.1 hC.2.1 dX12_isByte_17 rfl (lv_at hl 3 rfl) ?_
    refine lv_i2l (v := (Int32.toInt64 p3)) hC.1 hC.2.1 dX12_isByte_18 rfl ?_
    refine mw_cSi (As := [.long (Int32.toInt64 (M 4 (Int32.toNatClampNeg p1))), .long (Int32.toInt64 p2), .long (Int32.toInt64 p3)]) (rest := []) hC hM (mcX12_in V l M (Int32.toInt64 (M 4 (Int32.toNatClampNeg p1))) (Int32.toInt64 p2) (Int32.toInt64 p3) _ rfl) (mw_kS hC q_1257 q_1258 q_120 q_1259 ⟨rfl, rfl⟩ kS_X12_in ⟨Nat.le_of_ble_eq_true rfl, Nat.le_of_ble_eq_true rfl⟩) rfl rfl (Nat.le_of_ble_eq_true rfl) hl.1 dX12_isByte_19 (fun H locs hM hb2 => ?_)
    refine lv_if_eq (tgt := 29) hC.1 hC.2.1 dX12_isByte_22 (by decide) (fun hc3 => ?_) (fun hc3 => ?_)
    · have hf := o_t hc3 hf
      refine lv_iconst hC.1 hC.2.1 dX12_isByte_29 ci_0 ?_
      exact hret (Option.some.inj hf) (Or.inl rfl) hM dX12_isByte_30
    · have hf := o_f hc3 hf
      refine lv_iconst hC.1 hC.2.1 dX12_isByte_25 ci_1 ?_
      refine lv_goto (tgt := 30) hC.1 hC.2.1 dX12_isByte_26 (by decide) ?_
      exact hret (Option.some.inj hf) (Or.inr rfl) hM dX12_isByte_30
set_option maxHeartbeats 4000000 in
set_option maxRecDepth 100000 in
theorem mcX12_next (V : mV) (l : Launch) (M : mM) (r : Int32) (M' : mM) (hf : fX12_next M = some (r, M')) : UR V l yX12_next cX12_next 3 ({ frames := 2, cells := 0, slots := 0, locals := 48 } : Room) [.ref (mvA V 0)] M M' := by
  unfold fX12_next at hf
  refine mw_enterV RX12 rfl (by decide +kernel) (Nat.le_of_ble_eq_true rfl) (fun {p e s m args below meth c} ls A Q hC hret hM hl => ?_)
  have hl : lv_has ls 3 [(0, .ref (mvA V 0))] := hl
  have hL121 : ∀ (M : mM) (x1 : Int32) (x2 : Int32) (H : Heap) (locs : List Loc) (ls : Array Slot), fX12_next_L121 M x1 x2 = some (r, M') → PR V M A s H locs → lv_has ls 3 [(0, .ref (mvA V 0)), (1, .int x1), (2, .int x2)] → W p l e ({ frames := 2, cells := 0, slots := 0, locals := 48 } : Room) s m args below meth c H locs 0 0 Q (F0 m 121 ls []) := by
    intro M x1 x2 H locs ls hf hM hl
    unfold fX12_next_L121 at hf
    refine lv_aload_n hC.1 hC.2.1 dX12_next_121 rfl (lv_at hl 0 rfl) ?_
    refine lv_dup hC.1 hC.2.1 dX12_next_122 rfl ?_
    refine mw_get (v := .int (M 0 9)) hC hM 0 (Nat.le_of_ble_eq_true rfl) (eR_0 V) inW12 rfl 9 (by decide) q_1155 (fun _ h9 => h9) rfl dX12_next_123 ?_
    refine lv_iload_n hC.1 hC.2.1 dX12_next_126 rfl (lv_at hl 1 rfl) ?_
    refine lv_if_ne (tgt := 149) hC.1 hC.2.1 dX12_next_127 (by decide) (fun hc23 => ?_) (fun hc23 => ?_)
    · have hf := o_f hc23 hf
      refine lv_iconst hC.1 hC.2.1 dX12_next_149 ci_0 ?_
      refine lv_iadd hC.1 hC.2.1 dX12_next_150 ?_
      refine mw_put hC hM 0 (Nat.le_of_ble_eq_true rfl) (eR_0 V) inW12 tyX12 tyX12_ok nmX12 rfl 9 (by decide) q_1155 (fun _ h9 => h9) rfl rfl rfl (Nat.le_of_ble_eq_true rfl) rfl dX12_next_151 (fun H locs hM => ?_)
      exact hret (o_r2 hf hM) dX12_next_154
    · have hf := o_t hc23 hf
      refine lv_iload_n hC.1 hC.2.1 dX12_next_130 rfl (lv_at hl 2 rfl) ?_
      refine lv_if_ne (tgt := 149) hC.1 hC.2.1 dX12_next_131 (by decide) (fun hc22 => ?_) (fun hc22 => ?_)
      · have hf := o_f hc22 hf
        refine lv_iconst hC.1 hC.2.1 dX12_next_149 ci_0 ?_
        refine lv_iadd hC.1 hC.2.1 dX12_next_150 ?_
        refine mw_put hC hM 0 (Nat.le_of_ble_eq_true rfl) (eR_0 V) inW12 tyX12 tyX12_ok nmX12 rfl 9 (by decide) q_1155 (fun _ h9 => h9) rfl rfl rfl (Nat.le_of_ble_eq_true rfl) rfl dX12_next_151 (fun H locs hM => ?_)
        exact hret (o_r2 hf hM) dX12_next_154
      · have hf := o_t hc22 hf
        refine lv_aload_n hC.1 hC.2.1 dX12_next_134 rfl (lv_at hl 0 rfl) ?_
        refine mw_get (v := .int (M 0 8)) hC hM 0 (Nat.le_of_ble_eq_true rfl) (eR_0 V) inW12 rfl 8 (by decide) q_1154 (fun _ h9 => h9) rfl dX12_next_135 ?_
        refine lv_aload_n hC.1 hC.2.1 dX12_next_138 rfl (lv_at hl 0 rfl) ?_
        refine mw_get (v := .int (M 0 5)) hC hM 0 (Nat.le_of_ble_eq_true rfl) (eR_0 V) inW12 rfl 5 (by decide) q_1151 (fun _ h9 => h9) rfl dX12_next_139 ?_
        refine lv_icmp_ge (tgt := 149) hC.1 hC.2.1 dX12_next_142 (by decide) (fun hc21 => ?_) (fun hc21 => ?_)
        · have hf := o_t hc21 hf
          refine lv_iconst hC.1 hC.2.1 dX12_next_149 ci_0 ?_
          refine lv_iadd hC.1 hC.2.1 dX12_next_150 ?_
          refine mw_put hC hM 0 (Nat.le_of_ble_eq_true rfl) (eR_0 V) inW12 tyX12 tyX12_ok nmX12 rfl 9 (by decide) q_1155 (fun _ h9 => h9) rfl rfl rfl (Nat.le_of_ble_eq_true rfl) rfl dX12_next_151 (fun H locs hM => ?_)
          exact hret (o_r2 hf hM) dX12_next_154
        · have hf := o_f hc21 hf
          refine lv_iconst hC.1 hC.2.1 dX12_next_145 ci_1 ?_
          refine lv_goto (tgt := 150) hC.1 hC.2.1 dX12_next_146 (by decide) ?_
          refine lv_iadd hC.1 hC.2.1 dX12_next_150 ?_
          refine mw_put hC hM 0 (Nat.le_of_ble_eq_true rfl) (eR_0 V) inW12 tyX12 tyX12_ok nmX12 rfl 9 (by decide) q_1155 (fun _ h9 => h9) rfl rfl rfl (Nat.le_of_ble_eq_true rfl) rfl dX12_next_151 (fun H locs hM => ?_)
          exact hret (o_r2 hf hM) dX12_next_154
  have hL70 : ∀ (n : Nat) (M : mM) (x1 : Int32) (x2 : Int32) (H : Heap) (locs : List Loc) (ls : Array Slot), fX12_next_L70 n M x1 x2 = some (r, M') → PR V M A s H locs → lv_has ls 3 [(0, .ref (mvA V 0)), (1, .int x1), (2, .int x2)] → W p l e ({ frames := 2, cells := 0, slots := 0, locals := 48 } : Room) s m args below meth c H locs 0 0 Q (F0 m 70 ls []) := by
    intro n36
    induction n36 with
    | zero => intro M x1 x2 H locs ls hf; cases hf
    | succ n36 ih36 =>
      intro M x1 x2 H locs ls hf hM hl
      have hf : fX12_next_L70_b (fX12_next_L70 n36) M x1 x2 = some (r, M') := hf
      unfold fX12_next_L70_b at hf
      have hL89 : ∀ (M : mM) (x1 : Int32) (x2 : Int32) (H : Heap) (locs : List Loc) (ls : Array Slot), fX12_next_L89 (fX12_next_L70 n36) M x1 x2 = some (r, M') → PR V M A s H locs → lv_has ls 3 [(0, .ref (mvA V 0)), (1, .int x1), (2, .int x2)] → W p l e ({ frames := 2, cells := 0, slots := 0, locals := 48 } : Room) s m args below meth c H locs 0 0 Q (F0 m 89 ls []) := by
        intro M x1 x2 H locs ls hf hM hl
        unfold fX12_next_L89 at hf
        refine lv_iload_n hC.1 hC.2.1 dX12_next_89 rfl (lv_at hl 2 rfl) ?_
        refine lv_if_eq (tgt := 121) hC.1 hC.2.1 dX12_next_90 (by decide) (fun hc20 => ?_) (fun hc20 => ?_)
        · have hf := o_t hc20 hf
          exact hL121 _ _ _ _ _ _ hf hM (lv_sub hl [0, 1, 2] rfl)
        · have hf := o_f hc20 hf
          refine lv_aload_n hC.1 hC.2.1 dX12_next_93 rfl (lv_at hl 0 rfl) ?_
          refine lv_aload_n hC.1 hC.2.1 dX12_next_94 rfl (lv_at hl 0 rfl) ?_
          refine mw_get (v := .int (M 0 9)) hC hM 0 (Nat.le_of_ble_eq_true rfl) (eR_0 V) inW12 rfl 9 (by decide) q_1155 (fun _ h9 => h9) rfl dX12_next_95 ?_
          refine lv_bipush hC.1 hC.2.1 dX12_next_98 cb_48 ?_
          refine lv_bipush hC.1 hC.2.1 dX12_next_100 cb_57 ?_
          obtain ⟨r16, hq17, hf⟩ := o_b hf
          refine mw_cVi (As := [.int (M 0 9), .int 48, .int 57]) (rest := []) hC hM (mcX12_isByte V l M (M 0 9) 48 57 r16 hq17) (mw_kV hC q_1366 q_1368 q_56 q_120 q_1369 ⟨rfl, rfl⟩ kV_X12_isByte ⟨Nat.le_of_ble_eq_true rfl, Nat.le_of_ble_eq_true rfl⟩) (Nat.le_of_ble_eq_true rfl) (eR_0 V) rfl rfl rfl (Nat.le_of_ble_eq_true rfl) hl.1 dX12_next_102 (fun H locs hM hb18 => ?_)
          refine lv_if_eq (tgt := 121) hC.1 hC.2.1 dX12_next_105 (by decide) (fun hc19 => ?_) (fun hc19 => ?_)
          · have hf := o_t hc19 hf
            exact hL121 _ _ _ _ _ _ hf hM (lv_sub hl [0, 1, 2] rfl)
          · have hf := o_f hc19 hf
            refine lv_aload_n hC.1 hC.2.1 dX12_next_108 rfl (lv_at hl 0 rfl) ?_
            refine lv_dup hC.1 hC.2.1 dX12_next_109 rfl ?_
            refine mw_get (v := .int (M 0 9)) hC hM 0 (Nat.le_of_ble_eq_true rfl) (eR_0 V) inW12 rfl 9 (by decide) q_1155 (fun _ h9 => h9) rfl dX12_next_110 ?_
            refine lv_iconst hC.1 hC.2.1 dX12_next_113 ci_1 ?_
            refine lv_iadd hC.1 hC.2.1 dX12_next_114 ?_
            refine mw_put hC hM 0 (Nat.le_of_ble_eq_true rfl) (eR_0 V) inW12 tyX12 tyX12_ok nmX12 rfl 9 (by decide) q_1155 (fun _ h9 => h9) rfl rfl rfl (Nat.le_of_ble_eq_true rfl) rfl dX12_next_115 (fun H locs hM => ?_)
            refine lv_goto (tgt := 70) hC.1 hC.2.1 dX12_next_118 (by decide) ?_
            exact ih36 _ _ _ _ _ _ hf hM (lv_sub hl [0, 1, 2] rfl)
      refine lv_iload_n hC.1 hC.2.1 dX12_next_70 rfl (lv_at hl 1 rfl) ?_
      refine lv_if_eq (tgt := 89) hC.1 hC.2.1 dX12_next_71 (by decide) (fun hc15 => ?_) (fun hc15 => ?_)
      · have hf := o_t hc15 hf
        exact hL89 _ _ _ _ _ _ hf hM (lv_sub hl [0, 1, 2] rfl)
      · have hf := o_f hc15 hf
        refine lv_aload_n hC.1 hC.2.1 dX12_next_74 rfl (lv_at hl 0 rfl) ?_
        refine lv_aload_n hC.1 hC.2.1 dX12_next_75 rfl (lv_at hl 0 rfl) ?_
        refine mw_get (v := .int (M 0 9)) hC hM 0 (Nat.le_of_ble_eq_true rfl) (eR_0 V) inW12 rfl 9 (by decide) q_1155 (fun _ h9 => h9) rfl dX12_next_76 ?_
        refine lv_bipush hC.1 hC.2.1 dX12_next_79 cb_97 ?_
        refine lv_bipush hC.1 hC.2.1 dX12_next_81 cb_122 ?_
        obtain ⟨r11, hq12, hf⟩ := o_b hf
        refine mw_cVi (As := [.int (M 0 9), .int 97, .int 122]) (rest := []) hC hM (mcX12_isByte V l M (M 0 9) 97 122 r11 hq12) (mw_kV hC q_1366 q_1368 q_56 q_120 q_1369 ⟨rfl, rfl⟩ kV_X12_isByte ⟨Nat.le_of_ble_eq_true rfl, Nat.le_of_ble_eq_true rfl⟩) (Nat.le_of_ble_eq_true rfl) (eR_0 V) rfl rfl rfl (Nat.le_of_ble_eq_true rfl) hl.1 dX12_next_83 (fun H locs hM hb13 => ?_)
        refine lv_if_ne (tgt := 108) hC.1 hC.2.1 dX12_next_86 (by decide) (fun hc14 => ?_) (fun hc14 => ?_)
        · have hf := o_f hc14 hf
          refine lv_aload_n hC.1 hC.2.1 dX12_next_108 rfl (lv_at hl 0 rfl) ?_
          refine lv_dup hC.1 hC.2.1 dX12_next_109 rfl ?_
          refine mw_get (v := .int (M 0 9)) hC hM 0 (Nat.le_of_ble_eq_true rfl) (eR_0 V) inW12 rfl 9 (by decide) q_1155 (fun _ h9 => h9) rfl dX12_next_110 ?_
          refine lv_iconst hC.1 hC.2.1 dX12_next_113 ci_1 ?_
          refine lv_iadd hC.1 hC.2.1 dX12_next_114 ?_
          refine mw_put hC hM 0 (Nat.le_of_ble_eq_true rfl) (eR_0 V) inW12 tyX12 tyX12_ok nmX12 rfl 9 (by decide) q_1155 (fun _ h9 => h9) rfl rfl rfl (Nat.le_of_ble_eq_true rfl) rfl dX12_next_115 (fun H locs hM => ?_)
          refine lv_goto (tgt := 70) hC.1 hC.2.1 dX12_next_118 (by decide) ?_
          exact ih36 _ _ _ _ _ _ hf hM (lv_sub hl [0, 1, 2] rfl)
        · have hf := o_t hc14 hf
          exact hL89 _ _ _ _ _ _ hf hM (lv_sub hl [0, 1, 2] rfl)
  have hL8 : ∀ (n : Nat) (M : mM) (H : Heap) (locs : List Loc) (ls : Array Slot), fX12_next_L8 n M = some (r, M') → PR V M A s H locs → lv_has ls 3 [(0, .ref (mvA V 0))] → W p l e ({ frames := 2, cells := 0, slots := 0, locals := 48 } : Room) s m args below meth c H locs 0 0 Q (F0 m 8 ls []) := by
    intro n4
    induction n4 with
    | zero => intro M H locs ls hf; cases hf
    | succ n4 ih4 =>
      intro M H locs ls hf hM hl
      have hf : fX12_next_L8_b (fX12_next_L8 n4) M = some (r, M') := hf
      unfold fX12_next_L8_b at hf
      refine lv_aload_n hC.1 hC.2.1 dX12_next_8 rfl (lv_at hl 0 rfl) ?_
      refine lv_aload_n hC.1 hC.2.1 dX12_next_9 rfl (lv_at hl 0 rfl) ?_
      refine mw_get (v := .int (M 0 8)) hC hM 0 (Nat.le_of_ble_eq_true rfl) (eR_0 V) inW12 rfl 8 (by decide) q_1154 (fun _ h9 => h9) rfl dX12_next_10 ?_
      refine lv_bipush hC.1 hC.2.1 dX12_next_13 cb_32 ?_
      refine lv_bipush hC.1 hC.2.1 dX12_next_15 cb_32 ?_
      obtain ⟨r1, hq2, hf⟩ := o_b hf
      refine mw_cVi (As := [.int (M 0 8), .int 32, .int 32]) (rest := []) hC hM (mcX12_isByte V l M (M 0 8) 32 32 r1 hq2) (mw_kV hC q_1366 q_1368 q_56 q_120 q_1369 ⟨rfl, rfl⟩ kV_X12_isByte ⟨Nat.le_of_ble_eq_true rfl, Nat.le_of_ble_eq_true rfl⟩) (Nat.le_of_ble_eq_true rfl) (eR_0 V) rfl rfl rfl (Nat.le_of_ble_eq_true rfl) hl.1 dX12_next_17 (fun H locs hM hb3 => ?_)
      refine lv_if_eq (tgt := 36) hC.1 hC.2.1 dX12_next_20 (by decide) (fun hc10 => ?_) (fun hc10 => ?_)
      · have hf := o_t hc10 hf
        refine lv_aload_n hC.1 hC.2.1 dX12_next_36 rfl (lv_at hl 0 rfl) ?_
        refine lv_aload_n hC.1 hC.2.1 dX12_next_37 rfl (lv_at hl 0 rfl) ?_
        refine mw_get (v := .int (M 0 8)) hC hM 0 (Nat.le_of_ble_eq_true rfl) (eR_0 V) inW12 rfl 8 (by decide) q_1154 (fun _ h9 => h9) rfl dX12_next_38 ?_
        refine mw_put hC hM 0 (Nat.le_of_ble_eq_true rfl) (eR_0 V) inW12 tyX12 tyX12_ok nmX12 rfl 9 (by decide) q_1155 (fun _ h9 => h9) rfl rfl rfl (Nat.le_of_ble_eq_true rfl) rfl dX12_next_41 (fun H locs hM => ?_)
        refine lv_aload_n hC.1 hC.2.1 dX12_next_44 rfl (lv_at hl 0 rfl) ?_
        refine lv_aload_n hC.1 hC.2.1 dX12_next_45 rfl (lv_at hl 0 rfl) ?_
        refine mw_get (v := .int ((wr M 0 9 (M 0 8)) 0 8)) hC hM 0 (Nat.le_of_ble_eq_true rfl) (eR_0 V) inW12 rfl 8 (by decide) q_1154 (fun _ h9 => h9) rfl dX12_next_46 ?_
        refine lv_bipush hC.1 hC.2.1 dX12_next_49 cb_97 ?_
        refine lv_bipush hC.1 hC.2.1 dX12_next_51 cb_122 ?_
        obtain ⟨r4, hq5, hf⟩ := o_b hf
        refine mw_cVi (As := [.int ((wr M 0 9 (M 0 8)) 0 8), .int 97, .int 122]) (rest := []) hC hM (mcX12_isByte V l (wr M 0 9 (M 0 8)) ((wr M 0 9 (M 0 8)) 0 8) 97 122 r4 hq5) (mw_kV hC q_1366 q_1368 q_56 q_120 q_1369 ⟨rfl, rfl⟩ kV_X12_isByte ⟨Nat.le_of_ble_eq_true rfl, Nat.le_of_ble_eq_true rfl⟩) (Nat.le_of_ble_eq_true rfl) (eR_0 V) rfl rfl rfl (Nat.le_of_ble_eq_true rfl) hl.1 dX12_next_53 (fun H locs hM hb6 => ?_)
        refine lv_istore_n (lv' := [(1, .int r4), (0, .ref (mvA V 0))]) hC.1 hC.2.1 dX12_next_56 rfl hl (Nat.le_of_ble_eq_true rfl) rfl (fun ls hl => ?_)
        refine lv_aload_n hC.1 hC.2.1 dX12_next_57 rfl (lv_at hl 1 rfl) ?_
        refine lv_aload_n hC.1 hC.2.1 dX12_next_58 rfl (lv_at hl 1 rfl) ?_
        refine mw_get (v := .int ((wr M 0 9 (M 0 8)) 0 8)) hC hM 0 (Nat.le_of_ble_eq_true rfl) (eR_0 V) inW12 rfl 8 (by decide) q_1154 (fun _ h9 => h9) rfl dX12_next_59 ?_
        refine lv_bipush hC.1 hC.2.1 dX12_next_62 cb_48 ?_
        refine lv_bipush hC.1 hC.2.1 dX12_next_64 cb_57 ?_
        obtain ⟨r7, hq8, hf⟩ := o_b hf
        refine mw_cVi (As := [.int ((wr M 0 9 (M 0 8)) 0 8), .int 48, .int 57]) (rest := []) hC hM (mcX12_isByte V l (wr M 0 9 (M 0 8)) ((wr M 0 9 (M 0 8)) 0 8) 48 57 r7 hq8) (mw_kV hC q_1366 q_1368 q_56 q_120 q_1369 ⟨rfl, rfl⟩ kV_X12_isByte ⟨Nat.le_of_ble_eq_true rfl, Nat.le_of_ble_eq_true rfl⟩) (Nat.le_of_ble_eq_true rfl) (eR_0 V) rfl rfl rfl (Nat.le_of_ble_eq_true rfl) hl.1 dX12_next_66 (fun H locs hM hb9 => ?_)
        refine lv_istore_n (lv' := [(2, .int r7), (1, .int r4), (0, .ref (mvA V 0))]) hC.1 hC.2.1 dX12_next_69 rfl hl (Nat.le_of_ble_eq_true rfl) rfl (fun ls hl => ?_)
        exact hL70 _ _ _ _ _ _ _ hf hM (lv_sub hl [2, 1, 0] rfl)
      · have hf := o_f hc10 hf
        refine lv_aload_n hC.1 hC.2.1 dX12_next_23 rfl (lv_at hl 0 rfl) ?_
        refine lv_dup hC.1 hC.2.1 dX12_next_24 rfl ?_
        refine mw_get (v := .int (M 0 8)) hC hM 0 (Nat.le_of_ble_eq_true rfl) (eR_0 V) inW12 rfl 8 (by decide) q_1154 (fun _ h9 => h9) rfl dX12_next_25 ?_
        refine lv_iconst hC.1 hC.2.1 dX12_next_28 ci_1 ?_
        refine lv_iadd hC.1 hC.2.1 dX12_next_29 ?_
        refine mw_put hC hM 0 (Nat.le_of_ble_eq_true rfl) (eR_0 V) inW12 tyX12 tyX12_ok nmX12 rfl 8 (by decide) q_1154 (fun _ h9 => h9) rfl rfl rfl (Nat.le_of_ble_eq_true rfl) rfl dX12_next_30 (fun H locs hM => ?_)
        refine lv_goto (tgt := 8) hC.1 hC.2.1 dX12_next_33 (by decide) ?_
        exact ih4 _ _ _ _ hf hM (lv_sub hl [0] rfl)
  refine lv_aload_n hC.1 hC.2.1 dX12_next_0 rfl (lv_at hl 0 rfl) ?_
  refine lv_aload_n hC.1 hC.2.1 dX12_next_1 rfl (lv_at hl 0 rfl) ?_
  refine mw_get (v := .int (M 0 9)) hC hM 0 (Nat.le_of_ble_eq_true rfl) (eR_0 V) inW12 rfl 9 (by decide) q_1155 (fun _ h9 => h9) rfl dX12_next_2 ?_
  refine mw_put hC hM 0 (Nat.le_of_ble_eq_true rfl) (eR_0 V) inW12 tyX12 tyX12_ok nmX12 rfl 8 (by decide) q_1154 (fun _ h9 => h9) rfl rfl rfl (Nat.le_of_ble_eq_true rfl) rfl dX12_next_5 (fun H locs hM => ?_)
  exact hL8 _ _ _ _ _ hf hM (lv_sub hl [0] rfl)
set_option maxHeartbeats 4000000 in
set_option maxRecDepth 100000 in
theorem mcX12_isWord (V : mV) (l : Launch) (M : mM) (p1 : Nat) (r : Int32) (hf : fX12_isWord M p1 = some r) : ZR V l yX12_isWord cX12_isWord 4 ({ frames := 9, cells := 0, slots := 0, locals := 300 } : Room) [.ref (mvA V 0), .ref (mvK V p1)] M r M := by
  unfold fX12_isWord at hf
  refine mw_enterZ RX12 rfl (by decide +kernel) (Nat.le_of_ble_eq_true rfl) (fun {p e s m args below meth c} ls A Q hC hret hM hl => ?_)
  have hl : lv_has ls 4 [(0, .ref (mvA V 0)), (1, .ref (mvK V p1))] := hl
  have hL31 : ∀ (n : Nat) (x1 : Nat) (x2 : Int32) (x3 : Int32) (H : Heap) (locs : List Loc) (ls : Array Slot), fX12_isWord_L31 n M x1 x2 x3 = some r → PR V M A s H locs → lv_has ls 4 [(0, .ref (mvA V 0)), (1, .ref (mvK V x1)), (2, .int x2), (3, .int x3)] → W p l e ({ frames := 9, cells := 0, slots := 0, locals := 300 } : Room) s m args below meth c H locs 0 0 Q (F0 m 31 ls []) := by
    intro n17
    induction n17 with
    | zero => intro x1 x2 x3 H locs ls hf; cases hf
    | succ n17 ih17 =>
      intro x1 x2 x3 H locs ls hf hM hl
      have hf : fX12_isWord_L31_b (fX12_isWord_L31 n17) M x1 x2 x3 = some r := hf
      unfold fX12_isWord_L31_b at hf
      refine lv_iload_n hC.1 hC.2.1 dX12_isWord_31 rfl (lv_at hl 2 rfl) ?_
      refine lv_if_eq (tgt := 74) hC.1 hC.2.1 dX12_isWord_32 (by decide) (fun hc12 => ?_) (fun hc12 => ?_)
      · have hf := o_t hc12 hf
        refine lv_iload_n hC.1 hC.2.1 dX12_isWord_74 rfl (lv_at hl 2 rfl) ?_
        obtain ⟨hg4, hf⟩ := o_g hf
        exact hret (Option.some.inj hf) (isB_or hg4) hM dX12_isWord_75
      · have hf := o_f hc12 hf
        refine lv_iload_n hC.1 hC.2.1 dX12_isWord_35 rfl (lv_at hl 3 rfl) ?_
        refine lv_aload_n hC.1 hC.2.1 dX12_isWord_36 rfl (lv_at hl 1 rfl) ?_
        obtain ⟨hg5, hf⟩ := o_g hf
        refine mw_slen (rest := [.int x3]) hC hM hg5 q_1383 q_601 q_602 q_123 q_603 (Nat.le_of_ble_eq_true rfl) (Nat.le_of_ble_eq_true rfl) (Nat.le_of_ble_eq_true rfl) hl.1 dX12_isWord_37 (fun H locs hM => ?_)
        refine lv_icmp_ge (tgt := 74) hC.1 hC.2.1 dX12_isWord_40 (by decide) (fun hc11 => ?_) (fun hc11 => ?_)
        · have hf := o_t hc11 hf
          refine lv_iload_n hC.1 hC.2.1 dX12_isWord_74 rfl (lv_at hl 2 rfl) ?_
          obtain ⟨hg6, hf⟩ := o_g hf
          exact hret (Option.some.inj hf) (isB_or hg6) hM dX12_isWord_75
        · have hf := o_f hc11 hf
          refine lv_aload_n hC.1 hC.2.1 dX12_isWord_43 rfl (lv_at hl 0 rfl) ?_
          refine mw_get (v := .ref (mvA V 4)) hC hM 0 (Nat.le_of_ble_eq_true rfl) (eR_0 V) inW12 rfl 4 (by decide) q_1150 (fun _ h9 => h9) rfl dX12_isWord_44 ?_
          refine lv_aload_n hC.1 hC.2.1 dX12_isWord_47 rfl (lv_at hl 0 rfl) ?_
          refine mw_get (v := .int (M 0 8)) hC hM 0 (Nat.le_of_ble_eq_true rfl) (eR_0 V) inW12 rfl 8 (by decide) q_1154 (fun _ h9 => h9) rfl dX12_isWord_48 ?_
          refine lv_iload_n hC.1 hC.2.1 dX12_isWord_51 rfl (lv_at hl 3 rfl) ?_
          refine lv_iadd hC.1 hC.2.1 dX12_isWord_52 ?_
          obtain ⟨hg7, hf⟩ := o_g hf
          refine mw_iald hC hM 4 0 (Nat.le_of_ble_eq_true rfl) (eR_4 V) rfl hg7 dX12_isWord_53 ?_
          refine lv_aload_n hC.1 hC.2.1 dX12_isWord_54 rfl (lv_at hl 1 rfl) ?_
          refine lv_iload_n hC.1 hC.2.1 dX12_isWord_55 rfl (lv_at hl 3 rfl) ?_
          obtain ⟨hg8, hf⟩ := o_g hf
          obtain ⟨hg9, hf⟩ := o_g hf
          refine mw_sch (rest := [.int (M 4 (Int32.toNatClampNeg ((M 0 8) + x3)))]) hC hM hg8 hg9 q_1384 q_611 q_612 q_123 q_613 (Nat.le_of_ble_eq_true rfl) (Nat.le_of_ble_eq_true rfl) (Nat.le_of_ble_eq_true rfl) hl.1 dX12_isWord_56 (fun H locs hM => ?_)
          refine lv_icmp_ne (tgt := 66) hC.1 hC.2.1 dX12_isWord_59 (by decide) (fun hc10 => ?_) (fun hc10 => ?_)
          · have hf := o_f hc10 hf
            refine lv_iconst hC.1 hC.2.1 dX12_isWord_66 ci_0 ?_
            refine lv_istore_n (lv' := [(2, .int 0), (0, .ref (mvA V 0)), (1, .ref (mvK V x1)), (3, .int x3)]) hC.1 hC.2.1 dX12_isWord_67 rfl hl (Nat.le_of_ble_eq_true rfl) rfl (fun ls hl => ?_)
            refine lv_iinc (k := 3) (lv' := [(3, .int (x3 + 1)), (2, .int 0), (0, .ref (mvA V 0)), (1, .ref (mvK V x1))]) hC.1 hC.2.1 dX12_isWord_68 hl rfl (inc_1 _) (Nat.le_of_ble_eq_true rfl) rfl (fun ls hl => ?_)
            refine lv_goto (tgt := 31) hC.1 hC.2.1 dX12_isWord_71 (by decide) ?_
            exact ih17 _ _ _ _ _ _ hf hM (lv_sub hl [2, 3, 1, 0] rfl)
          · have hf := o_t hc10 hf
            refine lv_iconst hC.1 hC.2.1 dX12_isWord_62 ci_1 ?_
            refine lv_goto (tgt := 67) hC.1 hC.2.1 dX12_isWord_63 (by decide) ?_
            refine lv_istore_n (lv' := [(2, .int 1), (0, .ref (mvA V 0)), (1, .ref (mvK V x1)), (3, .int x3)]) hC.1 hC.2.1 dX12_isWord_67 rfl hl (Nat.le_of_ble_eq_true rfl) rfl (fun ls hl => ?_)
            refine lv_iinc (k := 3) (lv' := [(3, .int (x3 + 1)), (2, .int 1), (0, .ref (mvA V 0)), (1, .ref (mvK V x1))]) hC.1 hC.2.1 dX12_isWord_68 hl rfl (inc_1 _) (Nat.le_of_ble_eq_true rfl) rfl (fun ls hl => ?_)
            refine lv_goto (tgt := 31) hC.1 hC.2.1 dX12_isWord_71 (by decide) ?_
            exact ih17 _ _ _ _ _ _ hf hM (lv_sub hl [2, 3, 1, 0] rfl)
  have hL28 : ∀ (x1 : Nat) (t0 : Int32) (H : Heap) (locs : List Loc) (ls : Array Slot), fX12_isWord_L28 M x1 t0 = some r → PR V M A s H locs → lv_has ls 4 [(0, .ref (mvA V 0)), (1, .ref (mvK V x1))] → W p l e ({ frames := 9, cells := 0, slots := 0, locals := 300 } : Room) s m args below meth c H locs 0 0 Q (F0 m 28 ls [.int t0]) := by
    intro x1 t0 H locs ls hf hM hl
    unfold fX12_isWord_L28 at hf
    refine lv_istore_n (lv' := [(2, .int t0), (0, .ref (mvA V 0)), (1, .ref (mvK V x1))]) hC.1 hC.2.1 dX12_isWord_28 rfl hl (Nat.le_of_ble_eq_true rfl) rfl (fun ls hl => ?_)
    refine lv_iconst hC.1 hC.2.1 dX12_isWord_29 ci_0 ?_
    refine lv_istore_n (lv' := [(3, .int 0), (2, .int t0), (0, .ref (mvA V 0)), (1, .ref (mvK V x1))]) hC.1 hC.2.1 dX12_isWord_30 rfl hl (Nat.le_of_ble_eq_true rfl) rfl (fun ls hl => ?_)
    exact hL31 _ _ _ _ _ _ _ hf hM (lv_sub hl [2, 3, 1, 0] rfl)
  have hL27 : ∀ (x1 : Nat) (H : Heap) (locs : List Loc) (ls : Array Slot), fX12_isWord_L27 M x1 = some r → PR V M A s H locs → lv_has ls 4 [(0, .ref (mvA V 0)), (1, .ref (mvK V x1))] → W p l e ({ frames := 9, cells := 0, slots := 0, locals := 300 } : Room) s m args below meth c H locs 0 0 Q (F0 m 27 ls []) := by
    intro x1 H locs ls hf hM hl
    unfold fX12_isWord_L27 at hf
    refine lv_iconst hC.1 hC.2.1 dX12_isWord_27 ci_0 ?_
    exact hL28 _ _ _ _ _ hf hM (lv_sub hl [0, 1] rfl)
  refine lv_aload_n hC.1 hC.2.1 dX12_isWord_0 rfl (lv_at hl 0 rfl) ?_
  refine mw_get (v := .int (M 0 11)) hC hM 0 (Nat.le_of_ble_eq_true rfl) (eR_0 V) inW12 rfl 11 (by decide) q_1157 (fun _ h9 => h9) rfl dX12_isWord_1 ?_
  refine lv_if_ne (tgt := 27) hC.1 hC.2.1 dX12_isWord_4 (by decide) (fun hc3 => ?_) (fun hc3 => ?_)
  · have hf := o_f hc3 hf
    exact hL27 _ _ _ _ hf hM (lv_sub hl [0, 1] rfl)
  · have hf := o_t hc3 hf
    refine lv_aload_n hC.1 hC.2.1 dX12_isWord_7 rfl (lv_at hl 0 rfl) ?_
    refine mw_get (v := .int (M 0 9)) hC hM 0 (Nat.le_of_ble_eq_true rfl) (eR_0 V) inW12 rfl 9 (by decide) q_1155 (fun _ h9 => h9) rfl dX12_isWord_8 ?_
    refine lv_aload_n hC.1 hC.2.1 dX12_isWord_11 rfl (lv_at hl 0 rfl) ?_
    refine mw_get (v := .int (M 0 8)) hC hM 0 (Nat.le_of_ble_eq_true rfl) (eR_0 V) inW12 rfl 8 (by decide) q_1154 (fun _ h9 => h9) rfl dX12_isWord_12 ?_
    refine lv_isub hC.1 hC.2.1 dX12_isWord_15 ?_
    refine lv_aload_n hC.1 hC.2.1 dX12_isWord_16 rfl (lv_at hl 1 rfl) ?_
    obtain ⟨hg1, hf⟩ := o_g hf
    refine mw_slen (rest := [.int ((M 0 9) - (M 0 8))]) hC hM hg1 q_1383 q_601 q_602 q_123 q_603 (Nat.le_of_ble_eq_true rfl) (Nat.le_of_ble_eq_true rfl) (Nat.le_of_ble_eq_true rfl) hl.1 dX12_isWord_17 (fun H locs hM => ?_)
    refine lv_icmp_ne (tgt := 27) hC.1 hC.2.1 dX12_isWord_20 (by decide) (fun hc2 => ?_) (fun hc2 => ?_)
    · have hf := o_f hc2 hf
      exact hL27 _ _ _ _ hf hM (lv_sub hl [0, 1] rfl)
    · have hf := o_t hc2 hf
      refine lv_iconst hC.1 hC.2.1 dX12_isWord_23 ci_1 ?_
      refine lv_goto (tgt := 28) hC.1 hC.2.1 dX12_isWord_24 (by decide) ?_
      exact hL28 _ _ _ _ _ hf hM (lv_sub hl [0, 1] rfl)
set_option maxHeartbeats 4000000 in
set_option maxRecDepth 100000 in
theorem mcX12_kindHere (V : mV) (l : Launch) (M : mM) (r : Int32) (hf : fX12_kindHere M = some r) : IR V l yX12_kindHere cX12_kindHere 2 ({ frames := 10, cells := 0, slots := 0, locals := 323 } : Room) [.ref (mvA V 0)] M r M := by
  unfold fX12_kindHere at hf
  refine mw_enterI RX12 rfl (by decide +kernel) (Nat.le_of_ble_eq_true rfl) (fun {p e s m args below meth c} ls A Q hC hret hM hl => ?_)
  have hl : lv_has ls 2 [(0, .ref (mvA V 0))] := hl
  have hL40 : ∀ (t0 : Int32) (H : Heap) (locs : List Loc) (ls : Array Slot), fX12_kindHere_L40 M t0 = some r → PR V M A s H locs → lv_has ls 2 [(0, .ref (mvA V 0))] → W p l e ({ frames := 10, cells := 0, slots := 0, locals := 323 } : Room) s m args below meth c H locs 0 0 Q (F0 m 40 ls [.int t0]) := by
    intro t0 H locs ls hf hM hl
    unfold fX12_kindHere_L40 at hf
    refine lv_istore_n (lv' := [(1, .int t0), (0, .ref (mvA V 0))]) hC.1 hC.2.1 dX12_kindHere_40 rfl hl (Nat.le_of_ble_eq_true rfl) rfl (fun ls hl => ?_)
    refine lv_iload_n hC.1 hC.2.1 dX12_kindHere_41 rfl (lv_at hl 0 rfl) ?_
    refine lv_if_lt (tgt := 49) hC.1 hC.2.1 dX12_kindHere_42 (by decide) (fun hc25 => ?_) (fun hc25 => ?_)
    · have hf := o_t hc25 hf
      refine lv_aload_n hC.1 hC.2.1 dX12_kindHere_49 rfl (lv_at hl 1 rfl) ?_
      refine va_ldcS (own := RX12) (index := 246) (tx := "shift") (q := mvK V 3) hC.1 hC.2.1 hC.2.2.2.1 (st_21 hC) dX12_kindHere_50 ?_
      obtain ⟨r13, hq14, hf⟩ := o_b hf
      refine mw_cVi (As := [.ref (mvK V 3)]) (rest := []) hC hM (mcX12_isWord V l M 3 r13 hq14) (mw_kV hC q_1379 q_1381 q_59 q_120 q_1382 ⟨rfl, rfl⟩ kV_X12_isWord ⟨Nat.le_of_ble_eq_true rfl, Nat.le_of_ble_eq_true rfl⟩) (Nat.le_of_ble_eq_true rfl) (eR_0 V) rfl rfl rfl (Nat.le_of_ble_eq_true rfl) hl.1 dX12_kindHere_52 (fun H locs hM hb15 => ?_)
      refine lv_if_eq (tgt := 62) hC.1 hC.2.1 dX12_kindHere_55 (by decide) (fun hc24 => ?_) (fun hc24 => ?_)
      · have hf := o_t hc24 hf
        refine lv_aload_n hC.1 hC.2.1 dX12_kindHere_62 rfl (lv_at hl 1 rfl) ?_
        refine va_ldcS (own := RX12) (index := 248) (tx := "baker") (q := mvK V 4) hC.1 hC.2.1 hC.2.2.2.1 (st_22 hC) dX12_kindHere_63 ?_
        obtain ⟨r16, hq17, hf⟩ := o_b hf
        refine mw_cVi (As := [.ref (mvK V 4)]) (rest := []) hC hM (mcX12_isWord V l M 4 r16 hq17) (mw_kV hC q_1379 q_1381 q_59 q_120 q_1382 ⟨rfl, rfl⟩ kV_X12_isWord ⟨Nat.le_of_ble_eq_true rfl, Nat.le_of_ble_eq_true rfl⟩) (Nat.le_of_ble_eq_true rfl) (eR_0 V) rfl rfl rfl (Nat.le_of_ble_eq_true rfl) hl.1 dX12_kindHere_65 (fun H locs hM hb18 => ?_)
        refine lv_if_eq (tgt := 75) hC.1 hC.2.1 dX12_kindHere_68 (by decide) (fun hc23 => ?_) (fun hc23 => ?_)
        · have hf := o_t hc23 hf
          refine lv_aload_n hC.1 hC.2.1 dX12_kindHere_75 rfl (lv_at hl 1 rfl) ?_
          refine va_ldcS (own := RX12) (index := 250) (tx := "sleeper") (q := mvK V 5) hC.1 hC.2.1 hC.2.2.2.1 (st_23 hC) dX12_kindHere_76 ?_
          obtain ⟨r19, hq20, hf⟩ := o_b hf
          refine mw_cVi (As := [.ref (mvK V 5)]) (rest := []) hC hM (mcX12_isWord V l M 5 r19 hq20) (mw_kV hC q_1379 q_1381 q_59 q_120 q_1382 ⟨rfl, rfl⟩ kV_X12_isWord ⟨Nat.le_of_ble_eq_true rfl, Nat.le_of_ble_eq_true rfl⟩) (Nat.le_of_ble_eq_true rfl) (eR_0 V) rfl rfl rfl (Nat.le_of_ble_eq_true rfl) hl.1 dX12_kindHere_78 (fun H locs hM hb21 => ?_)
          refine lv_if_eq (tgt := 88) hC.1 hC.2.1 dX12_kindHere_81 (by decide) (fun hc22 => ?_) (fun hc22 => ?_)
          · have hf := o_t hc22 hf
            refine lv_iconst hC.1 hC.2.1 dX12_kindHere_88 ci_m1 ?_
            exact hret (Option.some.inj hf) hM dX12_kindHere_89
          · have hf := o_f hc22 hf
            refine lv_iconst hC.1 hC.2.1 dX12_kindHere_84 ci_5 ?_
            refine lv_goto (tgt := 89) hC.1 hC.2.1 dX12_kindHere_85 (by decide) ?_
            exact hret (Option.some.inj hf) hM dX12_kindHere_89
        · have hf := o_f hc23 hf
          refine lv_iconst hC.1 hC.2.1 dX12_kindHere_71 ci_4 ?_
          refine lv_goto (tgt := 89) hC.1 hC.2.1 dX12_kindHere_72 (by decide) ?_
          exact hret (Option.some.inj hf) hM dX12_kindHere_89
      · have hf := o_f hc24 hf
        refine lv_iconst hC.1 hC.2.1 dX12_kindHere_58 ci_3 ?_
        refine lv_goto (tgt := 89) hC.1 hC.2.1 dX12_kindHere_59 (by decide) ?_
        exact hret (Option.some.inj hf) hM dX12_kindHere_89
    · have hf := o_f hc25 hf
      refine lv_iload_n hC.1 hC.2.1 dX12_kindHere_45 rfl (lv_at hl 0 rfl) ?_
      refine lv_goto (tgt := 89) hC.1 hC.2.1 dX12_kindHere_46 (by decide) ?_
      exact hret (Option.some.inj hf) hM dX12_kindHere_89
  refine lv_aload_n hC.1 hC.2.1 dX12_kindHere_0 rfl (lv_at hl 0 rfl) ?_
  refine va_ldcS (own := RX12) (index := 240) (tx := "voter") (q := mvK V 0) hC.1 hC.2.1 hC.2.2.2.1 (st_18 hC) dX12_kindHere_1 ?_
  obtain ⟨r1, hq2, hf⟩ := o_b hf
  refine mw_cVi (As := [.ref (mvK V 0)]) (rest := []) hC hM (mcX12_isWord V l M 0 r1 hq2) (mw_kV hC q_1379 q_1381 q_59 q_120 q_1382 ⟨rfl, rfl⟩ kV_X12_isWord ⟨Nat.le_of_ble_eq_true rfl, Nat.le_of_ble_eq_true rfl⟩) (Nat.le_of_ble_eq_true rfl) (eR_0 V) rfl rfl rfl (Nat.le_of_ble_eq_true rfl) hl.1 dX12_kindHere_3 (fun H locs hM hb3 => ?_)
  refine lv_if_eq (tgt := 13) hC.1 hC.2.1 dX12_kindHere_6 (by decide) (fun hc12 => ?_) (fun hc12 => ?_)
  · have hf := o_t hc12 hf
    refine lv_aload_n hC.1 hC.2.1 dX12_kindHere_13 rfl (lv_at hl 0 rfl) ?_
    refine va_ldcS (own := RX12) (index := 242) (tx := "lover") (q := mvK V 1) hC.1 hC.2.1 hC.2.2.2.1 (st_19 hC) dX12_kindHere_14 ?_
    obtain ⟨r4, hq5, hf⟩ := o_b hf
    refine mw_cVi (As := [.ref (mvK V 1)]) (rest := []) hC hM (mcX12_isWord V l M 1 r4 hq5) (mw_kV hC q_1379 q_1381 q_59 q_120 q_1382 ⟨rfl, rfl⟩ kV_X12_isWord ⟨Nat.le_of_ble_eq_true rfl, Nat.le_of_ble_eq_true rfl⟩) (Nat.le_of_ble_eq_true rfl) (eR_0 V) rfl rfl rfl (Nat.le_of_ble_eq_true rfl) hl.1 dX12_kindHere_16 (fun H locs hM hb6 => ?_)
    refine lv_if_eq (tgt := 26) hC.1 hC.2.1 dX12_kindHere_19 (by decide) (fun hc11 => ?_) (fun hc11 => ?_)
    · have hf := o_t hc11 hf
      refine lv_aload_n hC.1 hC.2.1 dX12_kindHere_26 rfl (lv_at hl 0 rfl) ?_
      refine va_ldcS (own := RX12) (index := 244) (tx := "debtor") (q := mvK V 2) hC.1 hC.2.1 hC.2.2.2.1 (st_20 hC) dX12_kindHere_27 ?_
      obtain ⟨r7, hq8, hf⟩ := o_b hf
      refine mw_cVi (As := [.ref (mvK V 2)]) (rest := []) hC hM (mcX12_isWord V l M 2 r7 hq8) (mw_kV hC q_1379 q_1381 q_59 q_120 q_1382 ⟨rfl, rfl⟩ kV_X12_isWord ⟨Nat.le_of_ble_eq_true rfl, Nat.le_of_ble_eq_true rfl⟩) (Nat.le_of_ble_eq_true rfl) (eR_0 V) rfl rfl rfl (Nat.le_of_ble_eq_true rfl) hl.1 dX12_kindHere_29 (fun H locs hM hb9 => ?_)
      refine lv_if_eq (tgt := 39) hC.1 hC.2.1 dX12_kindHere_32 (by decide) (fun hc10 => ?_) (fun hc10 => ?_)
      · have hf := o_t hc10 hf
        refine lv_iconst hC.1 hC.2.1 dX12_kindHere_39 ci_m1 ?_
        exact hL40 _ _ _ _ hf hM (lv_sub hl [0] rfl)
      · have hf := o_f hc10 hf
        refine lv_iconst hC.1 hC.2.1 dX12_kindHere_35 ci_2 ?_
        refine lv_goto (tgt := 40) hC.1 hC.2.1 dX12_kindHere_36 (by decide) ?_
        exact hL40 _ _ _ _ hf hM (lv_sub hl [0] rfl)
    · have hf := o_f hc11 hf
      refine lv_iconst hC.1 hC.2.1 dX12_kindHere_22 ci_1 ?_
      refine lv_goto (tgt := 40) hC.1 hC.2.1 dX12_kindHere_23 (by decide) ?_
      exact hL40 _ _ _ _ hf hM (lv_sub hl [0] rfl)
  · have hf := o_f hc12 hf
    refine lv_iconst hC.1 hC.2.1 dX12_kindHere_9 ci_0 ?_
    refine lv_goto (tgt := 40) hC.1 hC.2.1 dX12_kindHere_10 (by decide) ?_
    exact hL40 _ _ _ _ hf hM (lv_sub hl [0] rfl)
set_option maxHeartbeats 4000000 in
set_option maxRecDepth 100000 in
theorem mcX12_takes (V : mV) (l : Launch) (M : mM) (p1 : Nat) (r : Int32) (M' : mM) (hf : fX12_takes M p1 = some (r, M')) : ZR V l yX12_takes cX12_takes 3 ({ frames := 10, cells := 0, slots := 0, locals := 323 } : Room) [.ref (mvA V 0), .ref (mvK V p1)] M r M' := by
  unfold fX12_takes at hf
  refine mw_enterZ RX12 rfl (by decide +kernel) (Nat.le_of_ble_eq_true rfl) (fun {p e s m args below meth c} ls A Q hC hret hM hl => ?_)
  have hl : lv_has ls 3 [(0, .ref (mvA V 0)), (1, .ref (mvK V p1))] := hl
  refine lv_aload_n hC.1 hC.2.1 dX12_takes_0 rfl (lv_at hl 0 rfl) ?_
  refine lv_aload_n hC.1 hC.2.1 dX12_takes_1 rfl (lv_at hl 1 rfl) ?_
  obtain ⟨r1, hq2, hf⟩ := o_b hf
  refine mw_cVi (As := [.ref (mvK V p1)]) (rest := []) hC hM (mcX12_isWord V l M p1 r1 hq2) (mw_kV hC q_1379 q_1381 q_59 q_120 q_1382 ⟨rfl, rfl⟩ kV_X12_isWord ⟨Nat.le_of_ble_eq_true rfl, Nat.le_of_ble_eq_true rfl⟩) (Nat.le_of_ble_eq_true rfl) (eR_0 V) rfl rfl rfl (Nat.le_of_ble_eq_true rfl) hl.1 dX12_takes_2 (fun H locs hM hb3 => ?_)
  refine lv_istore_n (lv' := [(2, .int r1), (0, .ref (mvA V 0)), (1, .ref (mvK V p1))]) hC.1 hC.2.1 dX12_takes_5 rfl hl (Nat.le_of_ble_eq_true rfl) rfl (fun ls hl => ?_)
  refine lv_iload_n hC.1 hC.2.1 dX12_takes_6 rfl (lv_at hl 0 rfl) ?_
  refine lv_if_eq (tgt := 14) hC.1 hC.2.1 dX12_takes_7 (by decide) (fun hc7 => ?_) (fun hc7 => ?_)
  · have hf := o_t hc7 hf
    refine lv_iload_n hC.1 hC.2.1 dX12_takes_14 rfl (lv_at hl 0 rfl) ?_
    exact hret (o_r1 hf) hb3 (o_r2 hf hM) dX12_takes_15
  · have hf := o_f hc7 hf
    refine lv_aload_n hC.1 hC.2.1 dX12_takes_10 rfl (lv_at hl 1 rfl) ?_
    obtain ⟨r4, M6, hq5, hf⟩ := o_b2 hf
    refine mw_cVv (As := []) (rest := []) hC hM (mcX12_next V l M r4 M6 hq5) (mw_kV hC q_1362 q_1364 q_55 q_120 q_1365 ⟨rfl, rfl⟩ kV_X12_next ⟨Nat.le_of_ble_eq_true rfl, Nat.le_of_ble_eq_true rfl⟩) (Nat.le_of_ble_eq_true rfl) (eR_0 V) rfl rfl rfl (Nat.le_of_ble_eq_true rfl) hl.1 dX12_takes_11 (fun H locs hM => ?_)
    refine lv_iload_n hC.1 hC.2.1 dX12_takes_14 rfl (lv_at hl 0 rfl) ?_
    exact hret (o_r1 hf) hb3 (o_r2 hf hM) dX12_takes_15
set_option maxHeartbeats 4000000 in
set_option maxRecDepth 100000 in
theorem mcX12_factHere (V : mV) (l : Launch) (M : mM) (r : Int32) (hf : fX12_factHere M = some r) : IR V l yX12_factHere cX12_factHere 2 ({ frames := 10, cells := 0, slots := 0, locals := 323 } : Room) [.ref (mvA V 0)] M r M := by
  unfold fX12_factHere at hf
  refine mw_enterI RX12 rfl (by decide +kernel) (Nat.le_of_ble_eq_true rfl) (fun {p e s m args below meth c} ls A Q hC hret hM hl => ?_)
  have hl : lv_has ls 2 [(0, .ref (mvA V 0))] := hl
  have hL40 : ∀ (t0 : Int32) (H : Heap) (locs : List Loc) (ls : Array Slot), fX12_factHere_L40 M t0 = some r → PR V M A s H locs → lv_has ls 2 [(0, .ref (mvA V 0))] → W p l e ({ frames := 10, cells := 0, slots := 0, locals := 323 } : Room) s m args below meth c H locs 0 0 Q (F0 m 40 ls [.int t0]) := by
    intro t0 H locs ls hf hM hl
    unfold fX12_factHere_L40 at hf
    refine lv_istore_n (lv' := [(1, .int t0), (0, .ref (mvA V 0))]) hC.1 hC.2.1 dX12_factHere_40 rfl hl (Nat.le_of_ble_eq_true rfl) rfl (fun ls hl => ?_)
    refine lv_iload_n hC.1 hC.2.1 dX12_factHere_41 rfl (lv_at hl 0 rfl) ?_
    refine lv_if_lt (tgt := 49) hC.1 hC.2.1 dX12_factHere_42 (by decide) (fun hc21 => ?_) (fun hc21 => ?_)
    · have hf := o_t hc21 hf
      refine lv_aload_n hC.1 hC.2.1 dX12_factHere_49 rfl (lv_at hl 1 rfl) ?_
      refine va_ldcS (own := RX12) (index := 184) (tx := "awake") (q := mvK V 9) hC.1 hC.2.1 hC.2.2.2.1 (st_31 hC) dX12_factHere_50 ?_
      obtain ⟨r13, hq14, hf⟩ := o_b hf
      refine mw_cVi (As := [.ref (mvK V 9)]) (rest := []) hC hM (mcX12_isWord V l M 9 r13 hq14) (mw_kV hC q_1379 q_1381 q_59 q_120 q_1382 ⟨rfl, rfl⟩ kV_X12_isWord ⟨Nat.le_of_ble_eq_true rfl, Nat.le_of_ble_eq_true rfl⟩) (Nat.le_of_ble_eq_true rfl) (eR_0 V) rfl rfl rfl (Nat.le_of_ble_eq_true rfl) hl.1 dX12_factHere_52 (fun H locs hM hb15 => ?_)
      refine lv_if_eq (tgt := 62) hC.1 hC.2.1 dX12_factHere_55 (by decide) (fun hc20 => ?_) (fun hc20 => ?_)
      · have hf := o_t hc20 hf
        refine lv_aload_n hC.1 hC.2.1 dX12_factHere_62 rfl (lv_at hl 1 rfl) ?_
        refine va_ldcS (own := RX12) (index := 185) (tx := "number") (q := mvK V 10) hC.1 hC.2.1 hC.2.2.2.1 (st_32 hC) dX12_factHere_63 ?_
        obtain ⟨r16, hq17, hf⟩ := o_b hf
        refine mw_cVi (As := [.ref (mvK V 10)]) (rest := []) hC hM (mcX12_isWord V l M 10 r16 hq17) (mw_kV hC q_1379 q_1381 q_59 q_120 q_1382 ⟨rfl, rfl⟩ kV_X12_isWord ⟨Nat.le_of_ble_eq_true rfl, Nat.le_of_ble_eq_true rfl⟩) (Nat.le_of_ble_eq_true rfl) (eR_0 V) rfl rfl rfl (Nat.le_of_ble_eq_true rfl) hl.1 dX12_factHere_65 (fun H locs hM hb18 => ?_)
        refine lv_if_eq (tgt := 75) hC.1 hC.2.1 dX12_factHere_68 (by decide) (fun hc19 => ?_) (fun hc19 => ?_)
        · have hf := o_t hc19 hf
          refine lv_iconst hC.1 hC.2.1 dX12_factHere_75 ci_m1 ?_
          exact hret (Option.some.inj hf) hM dX12_factHere_76
        · have hf := o_f hc19 hf
          refine lv_iconst hC.1 hC.2.1 dX12_factHere_71 ci_4 ?_
          refine lv_goto (tgt := 76) hC.1 hC.2.1 dX12_factHere_72 (by decide) ?_
          exact hret (Option.some.inj hf) hM dX12_factHere_76
      · have hf := o_f hc20 hf
        refine lv_iconst hC.1 hC.2.1 dX12_factHere_58 ci_3 ?_
        refine lv_goto (tgt := 76) hC.1 hC.2.1 dX12_factHere_59 (by decide) ?_
        exact hret (Option.some.inj hf) hM dX12_factHere_76
    · have hf := o_f hc21 hf
      refine lv_iload_n hC.1 hC.2.1 dX12_factHere_45 rfl (lv_at hl 0 rfl) ?_
      refine lv_goto (tgt := 76) hC.1 hC.2.1 dX12_factHere_46 (by decide) ?_
      exact hret (Option.some.inj hf) hM dX12_factHere_76
  refine lv_aload_n hC.1 hC.2.1 dX12_factHere_0 rfl (lv_at hl 0 rfl) ?_
  refine va_ldcS (own := RX12) (index := 178) (tx := "hour") (q := mvK V 6) hC.1 hC.2.1 hC.2.2.2.1 (st_28 hC) dX12_factHere_1 ?_
  obtain ⟨r1, hq2, hf⟩ := o_b hf
  refine mw_cVi (As := [.ref (mvK V 6)]) (rest := []) hC hM (mcX12_isWord V l M 6 r1 hq2) (mw_kV hC q_1379 q_1381 q_59 q_120 q_1382 ⟨rfl, rfl⟩ kV_X12_isWord ⟨Nat.le_of_ble_eq_true rfl, Nat.le_of_ble_eq_true rfl⟩) (Nat.le_of_ble_eq_true rfl) (eR_0 V) rfl rfl rfl (Nat.le_of_ble_eq_true rfl) hl.1 dX12_factHere_3 (fun H locs hM hb3 => ?_)
  refine lv_if_eq (tgt := 13) hC.1 hC.2.1 dX12_factHere_6 (by decide) (fun hc12 => ?_) (fun hc12 => ?_)
  · have hf := o_t hc12 hf
    refine lv_aload_n hC.1 hC.2.1 dX12_factHere_13 rfl (lv_at hl 0 rfl) ?_
    refine va_ldcS (own := RX12) (index := 180) (tx := "want") (q := mvK V 7) hC.1 hC.2.1 hC.2.2.2.1 (st_29 hC) dX12_factHere_14 ?_
    obtain ⟨r4, hq5, hf⟩ := o_b hf
    refine mw_cVi (As := [.ref (mvK V 7)]) (rest := []) hC hM (mcX12_isWord V l M 7 r4 hq5) (mw_kV hC q_1379 q_1381 q_59 q_120 q_1382 ⟨rfl, rfl⟩ kV_X12_isWord ⟨Nat.le_of_ble_eq_true rfl, Nat.le_of_ble_eq_true rfl⟩) (Nat.le_of_ble_eq_true rfl) (eR_0 V) rfl rfl rfl (Nat.le_of_ble_eq_true rfl) hl.1 dX12_factHere_16 (fun H locs hM hb6 => ?_)
    refine lv_if_eq (tgt := 26) hC.1 hC.2.1 dX12_factHere_19 (by decide) (fun hc11 => ?_) (fun hc11 => ?_)
    · have hf := o_t hc11 hf
      refine lv_aload_n hC.1 hC.2.1 dX12_factHere_26 rfl (lv_at hl 0 rfl) ?_
      refine va_ldcS (own := RX12) (index := 182) (tx := "weight") (q := mvK V 8) hC.1 hC.2.1 hC.2.2.2.1 (st_30 hC) dX12_factHere_27 ?_
      obtain ⟨r7, hq8, hf⟩ := o_b hf
      refine mw_cVi (As := [.ref (mvK V 8)]) (rest := []) hC hM (mcX12_isWord V l M 8 r7 hq8) (mw_kV hC q_1379 q_1381 q_59 q_120 q_1382 ⟨rfl, rfl⟩ kV_X12_isWord ⟨Nat.le_of_ble_eq_true rfl, Nat.le_of_ble_eq_true rfl⟩) (Nat.le_of_ble_eq_true rfl) (eR_0 V) rfl rfl rfl (Nat.le_of_ble_eq_true rfl) hl.1 dX12_factHere_29 (fun H locs hM hb9 => ?_)
      refine lv_if_eq (tgt := 39) hC.1 hC.2.1 dX12_factHere_32 (by decide) (fun hc10 => ?_) (fun hc10 => ?_)
      · have hf := o_t hc10 hf
        refine lv_iconst hC.1 hC.2.1 dX12_factHere_39 ci_m1 ?_
        exact hL40 _ _ _ _ hf hM (lv_sub hl [0] rfl)
      · have hf := o_f hc10 hf
        refine lv_iconst hC.1 hC.2.1 dX12_factHere_35 ci_2 ?_
        refine lv_goto (tgt := 40) hC.1 hC.2.1 dX12_factHere_36 (by decide) ?_
        exact hL40 _ _ _ _ hf hM (lv_sub hl [0] rfl)
    · have hf := o_f hc11 hf
      refine lv_iconst hC.1 hC.2.1 dX12_factHere_22 ci_1 ?_
      refine lv_goto (tgt := 40) hC.1 hC.2.1 dX12_factHere_23 (by decide) ?_
      exact hL40 _ _ _ _ hf hM (lv_sub hl [0] rfl)
  · have hf := o_f hc12 hf
    refine lv_iconst hC.1 hC.2.1 dX12_factHere_9 ci_0 ?_
    refine lv_goto (tgt := 40) hC.1 hC.2.1 dX12_factHere_10 (by decide) ?_
    exact hL40 _ _ _ _ hf hM (lv_sub hl [0] rfl)
set_option maxHeartbeats 4000000 in
set_option maxRecDepth 100000 in
theorem mcX12_numberHere (V : mV) (l : Launch) (M : mM) (r : Int32) (hf : fX12_numberHere M = some r) : IR V l yX12_numberHere cX12_numberHere 3 ({ frames := 2, cells := 0, slots := 0, locals := 48 } : Room) [.ref (mvA V 0)] M r M := by
  unfold fX12_numberHere at hf
  refine mw_enterI RX12 rfl (by decide +kernel) (Nat.le_of_ble_eq_true rfl) (fun {p e s m args below meth c} ls A Q hC hret hM hl => ?_)
  have hl : lv_has ls 3 [(0, .ref (mvA V 0))] := hl
  have hL39 : ∀ (n : Nat) (x1 : Int32) (x2 : Int32) (H : Heap) (locs : List Loc) (ls : Array Slot), fX12_numberHere_L39 n M x1 x2 = some r → PR V M A s H locs → lv_has ls 3 [(0, .ref (mvA V 0)), (1, .int x1), (2, .int x2)] → W p l e ({ frames := 2, cells := 0, slots := 0, locals := 48 } : Room) s m args below meth c H locs 0 0 Q (F0 m 39 ls []) := by
    intro n21
    induction n21 with
    | zero => intro x1 x2 H locs ls hf; cases hf
    | succ n21 ih21 =>
      intro x1 x2 H locs ls hf hM hl
      have hf : fX12_numberHere_L39_b (fX12_numberHere_L39 n21) M x1 x2 = some r := hf
      unfold fX12_numberHere_L39_b at hf
      refine lv_iload_n hC.1 hC.2.1 dX12_numberHere_39 rfl (lv_at hl 2 rfl) ?_
      refine lv_aload_n hC.1 hC.2.1 dX12_numberHere_40 rfl (lv_at hl 0 rfl) ?_
      refine mw_get (v := .int (M 0 9)) hC hM 0 (Nat.le_of_ble_eq_true rfl) (eR_0 V) inW12 rfl 9 (by decide) q_1155 (fun _ h9 => h9) rfl dX12_numberHere_41 ?_
      refine lv_icmp_ge (tgt := 72) hC.1 hC.2.1 dX12_numberHere_44 (by decide) (fun hc8 => ?_) (fun hc8 => ?_)
      · have hf := o_t hc8 hf
        refine lv_iload_n hC.1 hC.2.1 dX12_numberHere_72 rfl (lv_at hl 1 rfl) ?_
        exact hret (Option.some.inj hf) hM dX12_numberHere_73
      · have hf := o_f hc8 hf
        refine lv_iload_n hC.1 hC.2.1 dX12_numberHere_47 rfl (lv_at hl 1 rfl) ?_
        refine lv_if_lt (tgt := 72) hC.1 hC.2.1 dX12_numberHere_48 (by decide) (fun hc7 => ?_) (fun hc7 => ?_)
        · have hf := o_t hc7 hf
          refine lv_iload_n hC.1 hC.2.1 dX12_numberHere_72 rfl (lv_at hl 1 rfl) ?_
          exact hret (Option.some.inj hf) hM dX12_numberHere_73
        · have hf := o_f hc7 hf
          refine lv_bipush hC.1 hC.2.1 dX12_numberHere_51 cb_10 ?_
          refine lv_iload_n hC.1 hC.2.1 dX12_numberHere_53 rfl (lv_at hl 1 rfl) ?_
          refine lv_imul hC.1 hC.2.1 dX12_numberHere_54 ?_
          refine lv_aload_n hC.1 hC.2.1 dX12_numberHere_55 rfl (lv_at hl 0 rfl) ?_
          refine mw_get (v := .ref (mvA V 4)) hC hM 0 (Nat.le_of_ble_eq_true rfl) (eR_0 V) inW12 rfl 4 (by decide) q_1150 (fun _ h9 => h9) rfl dX12_numberHere_56 ?_
          refine lv_iload_n hC.1 hC.2.1 dX12_numberHere_59 rfl (lv_at hl 2 rfl) ?_
          obtain ⟨hg6, hf⟩ := o_g hf
          refine mw_iald hC hM 4 0 (Nat.le_of_ble_eq_true rfl) (eR_4 V) rfl hg6 dX12_numberHere_60 ?_
          refine lv_iadd hC.1 hC.2.1 dX12_numberHere_61 ?_
          refine lv_bipush hC.1 hC.2.1 dX12_numberHere_62 cb_48 ?_
          refine lv_isub hC.1 hC.2.1 dX12_numberHere_64 ?_
          refine lv_istore_n (lv' := [(1, .int (((10 * x1) + (M 4 (Int32.toNatClampNeg x2))) - 48)), (0, .ref (mvA V 0)), (2, .int x2)]) hC.1 hC.2.1 dX12_numberHere_65 rfl hl (Nat.le_of_ble_eq_true rfl) rfl (fun ls hl => ?_)
          refine lv_iinc (k := 2) (lv' := [(2, .int (x2 + 1)), (1, .int (((10 * x1) + (M 4 (Int32.toNatClampNeg x2))) - 48)), (0, .ref (mvA V 0))]) hC.1 hC.2.1 dX12_numberHere_66 hl rfl (inc_1 _) (Nat.le_of_ble_eq_true rfl) rfl (fun ls hl => ?_)
          refine lv_goto (tgt := 39) hC.1 hC.2.1 dX12_numberHere_69 (by decide) ?_
          exact ih21 _ _ _ _ _ hf hM (lv_sub hl [2, 1, 0] rfl)
  have hL33 : ∀ (t0 : Int32) (H : Heap) (locs : List Loc) (ls : Array Slot), fX12_numberHere_L33 M t0 = some r → PR V M A s H locs → lv_has ls 3 [(0, .ref (mvA V 0))] → W p l e ({ frames := 2, cells := 0, slots := 0, locals := 48 } : Room) s m args below meth c H locs 0 0 Q (F0 m 33 ls [.int t0]) := by
    intro t0 H locs ls hf hM hl
    unfold fX12_numberHere_L33 at hf
    refine lv_istore_n (lv' := [(1, .int t0), (0, .ref (mvA V 0))]) hC.1 hC.2.1 dX12_numberHere_33 rfl hl (Nat.le_of_ble_eq_true rfl) rfl (fun ls hl => ?_)
    refine lv_aload_n hC.1 hC.2.1 dX12_numberHere_34 rfl (lv_at hl 1 rfl) ?_
    refine mw_get (v := .int (M 0 8)) hC hM 0 (Nat.le_of_ble_eq_true rfl) (eR_0 V) inW12 rfl 8 (by decide) q_1154 (fun _ h9 => h9) rfl dX12_numberHere_35 ?_
    refine lv_istore_n (lv' := [(2, .int (M 0 8)), (1, .int t0), (0, .ref (mvA V 0))]) hC.1 hC.2.1 dX12_numberHere_38 rfl hl (Nat.le_of_ble_eq_true rfl) rfl (fun ls hl => ?_)
    exact hL39 _ _ _ _ _ _ hf hM (lv_sub hl [2, 1, 0] rfl)
  have hL32 : ∀ (H : Heap) (locs : List Loc) (ls : Array Slot), fX12_numberHere_L32 M = some r → PR V M A s H locs → lv_has ls 3 [(0, .ref (mvA V 0))] → W p l e ({ frames := 2, cells := 0, slots := 0, locals := 48 } : Room) s m args below meth c H locs 0 0 Q (F0 m 32 ls []) := by
    intro H locs ls hf hM hl
    unfold fX12_numberHere_L32 at hf
    refine lv_iconst hC.1 hC.2.1 dX12_numberHere_32 ci_m1 ?_
    exact hL33 _ _ _ _ hf hM (lv_sub hl [0] rfl)
  refine lv_aload_n hC.1 hC.2.1 dX12_numberHere_0 rfl (lv_at hl 0 rfl) ?_
  refine lv_aload_n hC.1 hC.2.1 dX12_numberHere_1 rfl (lv_at hl 0 rfl) ?_
  refine mw_get (v := .int (M 0 8)) hC hM 0 (Nat.le_of_ble_eq_true rfl) (eR_0 V) inW12 rfl 8 (by decide) q_1154 (fun _ h9 => h9) rfl dX12_numberHere_2 ?_
  refine lv_bipush hC.1 hC.2.1 dX12_numberHere_5 cb_48 ?_
  refine lv_bipush hC.1 hC.2.1 dX12_numberHere_7 cb_57 ?_
  obtain ⟨r1, hq2, hf⟩ := o_b hf
  refine mw_cVi (As := [.int (M 0 8), .int 48, .int 57]) (rest := []) hC hM (mcX12_isByte V l M (M 0 8) 48 57 r1 hq2) (mw_kV hC q_1366 q_1368 q_56 q_120 q_1369 ⟨rfl, rfl⟩ kV_X12_isByte ⟨Nat.le_of_ble_eq_true rfl, Nat.le_of_ble_eq_true rfl⟩) (Nat.le_of_ble_eq_true rfl) (eR_0 V) rfl rfl rfl (Nat.le_of_ble_eq_true rfl) hl.1 dX12_numberHere_9 (fun H locs hM hb3 => ?_)
  refine lv_if_eq (tgt := 32) hC.1 hC.2.1 dX12_numberHere_12 (by decide) (fun hc5 => ?_) (fun hc5 => ?_)
  · have hf := o_t hc5 hf
    exact hL32 _ _ _ hf hM (lv_sub hl [0] rfl)
  · have hf := o_f hc5 hf
    refine lv_aload_n hC.1 hC.2.1 dX12_numberHere_15 rfl (lv_at hl 0 rfl) ?_
    refine mw_get (v := .int (M 0 9)) hC hM 0 (Nat.le_of_ble_eq_true rfl) (eR_0 V) inW12 rfl 9 (by decide) q_1155 (fun _ h9 => h9) rfl dX12_numberHere_16 ?_
    refine lv_aload_n hC.1 hC.2.1 dX12_numberHere_19 rfl (lv_at hl 0 rfl) ?_
    refine mw_get (v := .int (M 0 8)) hC hM 0 (Nat.le_of_ble_eq_true rfl) (eR_0 V) inW12 rfl 8 (by decide) q_1154 (fun _ h9 => h9) rfl dX12_numberHere_20 ?_
    refine lv_isub hC.1 hC.2.1 dX12_numberHere_23 ?_
    refine lv_iconst hC.1 hC.2.1 dX12_numberHere_24 ci_4 ?_
    refine lv_icmp_gt (tgt := 32) hC.1 hC.2.1 dX12_numberHere_25 (by decide) (fun hc4 => ?_) (fun hc4 => ?_)
    · have hf := o_t hc4 hf
      exact hL32 _ _ _ hf hM (lv_sub hl [0] rfl)
    · have hf := o_f hc4 hf
      refine lv_iconst hC.1 hC.2.1 dX12_numberHere_28 ci_0 ?_
      refine lv_goto (tgt := 33) hC.1 hC.2.1 dX12_numberHere_29 (by decide) ?_
      exact hL33 _ _ _ _ hf hM (lv_sub hl [0] rfl)
set_option maxHeartbeats 4000000 in
set_option maxRecDepth 100000 in
theorem mcX12_number (V : mV) (l : Launch) (M : mM) (p1 : Int32) (r : Int32) (M' : mM) (hf : fX12_number M p1 = some (r, M')) : IR V l yX12_number cX12_number 3 ({ frames := 3, cells := 0, slots := 0, locals := 70 } : Room) [.ref (mvA V 0), .int p1] M r M' := by
  unfold fX12_number at hf
  refine mw_enterI RX12 rfl (by decide +kernel) (Nat.le_of_ble_eq_true rfl) (fun {p e s m args below meth c} ls A Q hC hret hM hl => ?_)
  have hl : lv_has ls 3 [(0, .ref (mvA V 0)), (1, .int p1)] := hl
  have hL29 : ∀ (M : mM) (x2 : Int32) (t1 : Int32) (H : Heap) (locs : List Loc) (ls : Array Slot), fX12_number_L29 M x2 t1 = some (r, M') → PR V M A s H locs → lv_has ls 3 [(0, .ref (mvA V 0)), (2, .int x2)] → W p l e ({ frames := 3, cells := 0, slots := 0, locals := 70 } : Room) s m args below meth c H locs 0 0 Q (F0 m 29 ls [.int t1, .ref (mvA V 0)]) := by
    intro M x2 t1 H locs ls hf hM hl
    unfold fX12_number_L29 at hf
    obtain ⟨hg6, hf⟩ := o_g hf
    refine mw_put hC hM 0 (Nat.le_of_ble_eq_true rfl) (eR_0 V) inW12 tyX12 tyX12_ok nmX12 rfl 11 (by decide) q_1157 (fun _ h9 => h9) rfl (nar_b (isB_or hg6)) (fit_b (isB_or hg6)) (Nat.le_of_ble_eq_true rfl) rfl dX12_number_29 (fun H locs hM => ?_)
    refine lv_aload_n hC.1 hC.2.1 dX12_number_32 rfl (lv_at hl 0 rfl) ?_
    refine mw_get (v := .int ((wr M 0 11 t1) 0 11)) hC hM 0 (Nat.le_of_ble_eq_true rfl) (eR_0 V) inW12 rfl 11 (by decide) q_1157 (fun _ h9 => h9) rfl dX12_number_33 ?_
    refine lv_if_ne (tgt := 43) hC.1 hC.2.1 dX12_number_36 (by decide) (fun hc10 => ?_) (fun hc10 => ?_)
    · have hf := o_f hc10 hf
      refine lv_iload_n hC.1 hC.2.1 dX12_number_43 rfl (lv_at hl 1 rfl) ?_
      exact hret (o_r1 hf) (o_r2 hf hM) dX12_number_44
    · have hf := o_t hc10 hf
      refine lv_aload_n hC.1 hC.2.1 dX12_number_39 rfl (lv_at hl 0 rfl) ?_
      obtain ⟨r7, M9, hq8, hf⟩ := o_b2 hf
      refine mw_cVv (As := []) (rest := []) hC hM (mcX12_next V l (wr M 0 11 t1) r7 M9 hq8) (mw_kV hC q_1362 q_1364 q_55 q_120 q_1365 ⟨rfl, rfl⟩ kV_X12_next ⟨Nat.le_of_ble_eq_true rfl, Nat.le_of_ble_eq_true rfl⟩) (Nat.le_of_ble_eq_true rfl) (eR_0 V) rfl rfl rfl (Nat.le_of_ble_eq_true rfl) hl.1 dX12_number_40 (fun H locs hM => ?_)
      refine lv_iload_n hC.1 hC.2.1 dX12_number_43 rfl (lv_at hl 1 rfl) ?_
      exact hret (o_r1 hf) (o_r2 hf hM) dX12_number_44
  have hL24 : ∀ (M : mM) (x2 : Int32) (H : Heap) (locs : List Loc) (ls : Array Slot), fX12_number_L24 M x2 = some (r, M') → PR V M A s H locs → lv_has ls 3 [(0, .ref (mvA V 0)), (2, .int x2)] → W p l e ({ frames := 3, cells := 0, slots := 0, locals := 70 } : Room) s m args below meth c H locs 0 0 Q (F0 m 24 ls [.ref (mvA V 0)]) := by
    intro M x2 H locs ls hf hM hl
    unfold fX12_number_L24 at hf
    refine lv_iconst hC.1 hC.2.1 dX12_number_24 ci_1 ?_
    refine lv_goto (tgt := 29) hC.1 hC.2.1 dX12_number_25 (by decide) ?_
    exact hL29 _ _ _ _ _ _ hf hM (lv_sub hl [0, 1] rfl)
  refine lv_aload_n hC.1 hC.2.1 dX12_number_0 rfl (lv_at hl 0 rfl) ?_
  obtain ⟨r1, hq2, hf⟩ := o_b hf
  refine mw_cVi (As := []) (rest := []) hC hM (mcX12_numberHere V l M r1 hq2) (mw_kV hC q_1443 q_1445 q_71 q_120 q_1446 ⟨rfl, rfl⟩ kV_X12_numberHere ⟨Nat.le_of_ble_eq_true rfl, Nat.le_of_ble_eq_true rfl⟩) (Nat.le_of_ble_eq_true rfl) (eR_0 V) rfl rfl rfl (Nat.le_of_ble_eq_true rfl) hl.1 dX12_number_1 (fun H locs hM _ => ?_)
  refine lv_istore_n (lv' := [(2, .int r1), (0, .ref (mvA V 0)), (1, .int p1)]) hC.1 hC.2.1 dX12_number_4 rfl hl (Nat.le_of_ble_eq_true rfl) rfl (fun ls hl => ?_)
  refine lv_aload_n hC.1 hC.2.1 dX12_number_5 rfl (lv_at hl 1 rfl) ?_
  refine lv_aload_n hC.1 hC.2.1 dX12_number_6 rfl (lv_at hl 1 rfl) ?_
  refine mw_get (v := .int (M 0 11)) hC hM 0 (Nat.le_of_ble_eq_true rfl) (eR_0 V) inW12 rfl 11 (by decide) q_1157 (fun _ h9 => h9) rfl dX12_number_7 ?_
  refine lv_if_ne (tgt := 24) hC.1 hC.2.1 dX12_number_10 (by decide) (fun hc5 => ?_) (fun hc5 => ?_)
  · have hf := o_f hc5 hf
    exact hL24 _ _ _ _ _ hf hM (lv_sub hl [1, 0] rfl)
  · have hf := o_t hc5 hf
    refine lv_iload_n hC.1 hC.2.1 dX12_number_13 rfl (lv_at hl 0 rfl) ?_
    refine lv_i2l (v := (Int32.toInt64 r1)) hC.1 hC.2.1 dX12_number_14 rfl ?_
    refine lv_lconst (v := 0) hC.1 hC.2.1 dX12_number_15 rfl ?_
    refine lv_iload_n hC.1 hC.2.1 dX12_number_16 rfl (lv_at hl 2 rfl) ?_
    refine lv_i2l (v := (Int32.toInt64 p1)) hC.1 hC.2.1 dX12_number_17 rfl ?_
    refine mw_cSi (As := [.long (Int32.toInt64 r1), .long 0, .long (Int32.toInt64 p1)]) (rest := [.ref (mvA V 0)]) hC hM (mcX12_in V l M (Int32.toInt64 r1) 0 (Int32.toInt64 p1) _ rfl) (mw_kS hC q_1257 q_1258 q_120 q_1259 ⟨rfl, rfl⟩ kS_X12_in ⟨Nat.le_of_ble_eq_true rfl, Nat.le_of_ble_eq_true rfl⟩) rfl rfl (Nat.le_of_ble_eq_true rfl) hl.1 dX12_number_18 (fun H locs hM hb3 => ?_)
    refine lv_if_ne (tgt := 28) hC.1 hC.2.1 dX12_number_21 (by decide) (fun hc4 => ?_) (fun hc4 => ?_)
    · have hf := o_f hc4 hf
      refine lv_iconst hC.1 hC.2.1 dX12_number_28 ci_0 ?_
      exact hL29 _ _ _ _ _ _ hf hM (lv_sub hl [1, 0] rfl)
    · have hf := o_t hc4 hf
      exact hL24 _ _ _ _ _ hf hM (lv_sub hl [1, 0] rfl)
set_option maxHeartbeats 4000000 in
set_option maxRecDepth 100000 in
theorem mcX12_puts (V : mV) (l : Launch) (M : mM) (p1 : Int32) (r : Int32) (M' : mM) (hf : fX12_puts M p1 = some (r, M')) : UR V l yX12_puts cX12_puts 2 ({ frames := 0, cells := 0, slots := 0, locals := 0 } : Room) [.ref (mvA V 0), .int p1] M M' := by
  unfold fX12_puts at hf
  refine mw_enterV RX12 rfl (by decide +kernel) (Nat.le_of_ble_eq_true rfl) (fun {p e s m args below meth c} ls A Q hC hret hM hl => ?_)
  have hl : lv_has ls 2 [(0, .ref (mvA V 0)), (1, .int p1)] := hl
  refine lv_aload_n hC.1 hC.2.1 dX12_puts_0 rfl (lv_at hl 0 rfl) ?_
  refine mw_get (v := .int (M 0 11)) hC hM 0 (Nat.le_of_ble_eq_true rfl) (eR_0 V) inW12 rfl 11 (by decide) q_1157 (fun _ h9 => h9) rfl dX12_puts_1 ?_
  refine lv_if_ne (tgt := 30) hC.1 hC.2.1 dX12_puts_4 (by decide) (fun hc2 => ?_) (fun hc2 => ?_)
  · have hf := o_f hc2 hf
    exact hret (o_r2 hf hM) dX12_puts_30
  · have hf := o_t hc2 hf
    refine lv_aload_n hC.1 hC.2.1 dX12_puts_7 rfl (lv_at hl 0 rfl) ?_
    refine mw_get (v := .ref (mvA V 5)) hC hM 0 (Nat.le_of_ble_eq_true rfl) (eR_0 V) inW12 rfl 6 (by decide) q_1152 (fun _ h9 => h9) rfl dX12_puts_8 ?_
    refine lv_bipush hC.1 hC.2.1 dX12_puts_11 cb_95 ?_
    refine lv_aload_n hC.1 hC.2.1 dX12_puts_13 rfl (lv_at hl 0 rfl) ?_
    refine mw_get (v := .int (M 0 7)) hC hM 0 (Nat.le_of_ble_eq_true rfl) (eR_0 V) inW12 rfl 7 (by decide) q_1153 (fun _ h9 => h9) rfl dX12_puts_14 ?_
    refine lv_iadd hC.1 hC.2.1 dX12_puts_17 ?_
    refine lv_iload_n hC.1 hC.2.1 dX12_puts_18 rfl (lv_at hl 1 rfl) ?_
    obtain ⟨hg1, hf⟩ := o_g hf
    refine mw_iast hC hM 5 0 (Nat.le_of_ble_eq_true rfl) (eR_5 V) rfl hg1 dX12_puts_19 (fun H locs hM => ?_)
    refine lv_aload_n hC.1 hC.2.1 dX12_puts_20 rfl (lv_at hl 0 rfl) ?_
    refine lv_dup hC.1 hC.2.1 dX12_puts_21 rfl ?_
    refine mw_get (v := .int ((wr M 5 (Int32.toNatClampNeg (95 + (M 0 7))) p1) 0 7)) hC hM 0 (Nat.le_of_ble_eq_true rfl) (eR_0 V) inW12 rfl 7 (by decide) q_1153 (fun _ h9 => h9) rfl dX12_puts_22 ?_
    refine lv_iconst hC.1 hC.2.1 dX12_puts_25 ci_1 ?_
    refine lv_iadd hC.1 hC.2.1 dX12_puts_26 ?_
    refine mw_put hC hM 0 (Nat.le_of_ble_eq_true rfl) (eR_0 V) inW12 tyX12 tyX12_ok nmX12 rfl 7 (by decide) q_1153 (fun _ h9 => h9) rfl rfl rfl (Nat.le_of_ble_eq_true rfl) rfl dX12_puts_27 (fun H locs hM => ?_)
    exact hret (o_r2 hf hM) dX12_puts_30
set_option maxHeartbeats 4000000 in
set_option maxRecDepth 100000 in
theorem mcX12_value (V : mV) (l : Launch) (M : mM) (r : Int32) (M' : mM) (hf : fX12_value M = some (r, M')) : UR V l yX12_value cX12_value 2 ({ frames := 11, cells := 0, slots := 0, locals := 344 } : Room) [.ref (mvA V 0)] M M' := by
  unfold fX12_value at hf
  refine mw_enterV RX12 rfl (by decide +kernel) (Nat.le_of_ble_eq_true rfl) (fun {p e s m args below meth c} ls A Q hC hret hM hl => ?_)
  have hl : lv_has ls 2 [(0, .ref (mvA V 0))] := hl
  refine lv_aload_n hC.1 hC.2.1 dX12_value_0 rfl (lv_at hl 0 rfl) ?_
  obtain ⟨r1, hq2, hf⟩ := o_b hf
  refine mw_cVi (As := []) (rest := []) hC hM (mcX12_factHere V l M r1 hq2) (mw_kV hC q_1426 q_1428 q_68 q_120 q_1429 ⟨rfl, rfl⟩ kV_X12_factHere ⟨Nat.le_of_ble_eq_true rfl, Nat.le_of_ble_eq_true rfl⟩) (Nat.le_of_ble_eq_true rfl) (eR_0 V) rfl rfl rfl (Nat.le_of_ble_eq_true rfl) hl.1 dX12_value_1 (fun H locs hM _ => ?_)
  refine lv_istore_n (lv' := [(1, .int r1), (0, .ref (mvA V 0))]) hC.1 hC.2.1 dX12_value_4 rfl hl (Nat.le_of_ble_eq_true rfl) rfl (fun ls hl => ?_)
  refine lv_iload_n hC.1 hC.2.1 dX12_value_5 rfl (lv_at hl 0 rfl) ?_
  refine lv_if_lt (tgt := 23) hC.1 hC.2.1 dX12_value_6 (by decide) (fun hc15 => ?_) (fun hc15 => ?_)
  · have hf := o_t hc15 hf
    refine lv_aload_n hC.1 hC.2.1 dX12_value_23 rfl (lv_at hl 1 rfl) ?_
    refine lv_aload_n hC.1 hC.2.1 dX12_value_24 rfl (lv_at hl 1 rfl) ?_
    refine lv_sipush hC.1 hC.2.1 dX12_value_25 cs_9999 ?_
    obtain ⟨r3, M5, hq4, hf⟩ := o_b2 hf
    refine mw_cVi (As := [.int 9999]) (rest := [.ref (mvA V 0)]) hC hM (mcX12_number V l M 9999 r3 M5 hq4) (mw_kV hC q_1439 q_1441 q_70 q_120 q_1442 ⟨rfl, rfl⟩ kV_X12_number ⟨Nat.le_of_ble_eq_true rfl, Nat.le_of_ble_eq_true rfl⟩) (Nat.le_of_ble_eq_true rfl) (eR_0 V) rfl rfl rfl (Nat.le_of_ble_eq_true rfl) hl.1 dX12_value_28 (fun H locs hM _ => ?_)
    obtain ⟨r6, M8, hq7, hf⟩ := o_b2 hf
    refine mw_cVv (As := [.int r3]) (rest := []) hC hM (mcX12_puts V l M5 r3 r6 M8 hq7) (mw_kV hC q_1435 q_1437 q_69 q_120 q_1438 ⟨rfl, rfl⟩ kV_X12_puts ⟨Nat.le_of_ble_eq_true rfl, Nat.le_of_ble_eq_true rfl⟩) (Nat.le_of_ble_eq_true rfl) (eR_0 V) rfl rfl rfl (Nat.le_of_ble_eq_true rfl) hl.1 dX12_value_31 (fun H locs hM => ?_)
    exact hret (o_r2 hf hM) dX12_value_34
  · have hf := o_f hc15 hf
    refine lv_aload_n hC.1 hC.2.1 dX12_value_9 rfl (lv_at hl 1 rfl) ?_
    obtain ⟨r9, M11, hq10, hf⟩ := o_b2 hf
    refine mw_cVv (As := []) (rest := []) hC hM (mcX12_next V l M r9 M11 hq10) (mw_kV hC q_1362 q_1364 q_55 q_120 q_1365 ⟨rfl, rfl⟩ kV_X12_next ⟨Nat.le_of_ble_eq_true rfl, Nat.le_of_ble_eq_true rfl⟩) (Nat.le_of_ble_eq_true rfl) (eR_0 V) rfl rfl rfl (Nat.le_of_ble_eq_true rfl) hl.1 dX12_value_10 (fun H locs hM => ?_)
    refine lv_aload_n hC.1 hC.2.1 dX12_value_13 rfl (lv_at hl 1 rfl) ?_
    refine lv_iconst hC.1 hC.2.1 dX12_value_14 ci_m1 ?_
    refine lv_iload_n hC.1 hC.2.1 dX12_value_15 rfl (lv_at hl 0 rfl) ?_
    refine lv_isub hC.1 hC.2.1 dX12_value_16 ?_
    obtain ⟨r12, M14, hq13, hf⟩ := o_b2 hf
    refine mw_cVv (As := [.int ((-1) - r1)]) (rest := []) hC hM (mcX12_puts V l M11 ((-1) - r1) r12 M14 hq13) (mw_kV hC q_1435 q_1437 q_69 q_120 q_1438 ⟨rfl, rfl⟩ kV_X12_puts ⟨Nat.le_of_ble_eq_true rfl, Nat.le_of_ble_eq_true rfl⟩) (Nat.le_of_ble_eq_true rfl) (eR_0 V) rfl rfl rfl (Nat.le_of_ble_eq_true rfl) hl.1 dX12_value_17 (fun H locs hM => ?_)
    refine lv_goto (tgt := 34) hC.1 hC.2.1 dX12_value_20 (by decide) ?_
    exact hret (o_r2 hf hM) dX12_value_34
set_option maxHeartbeats 4000000 in
set_option maxRecDepth 100000 in
theorem mcX12_test (V : mV) (l : Launch) (M : mM) (r : Int32) (M' : mM) (hf : fX12_test M = some (r, M')) : UR V l yX12_test cX12_test 2 ({ frames := 12, cells := 0, slots := 0, locals := 365 } : Room) [.ref (mvA V 0)] M M' := by
  unfold fX12_test at hf
  refine mw_enterV RX12 rfl (by decide +kernel) (Nat.le_of_ble_eq_true rfl) (fun {p e s m args below meth c} ls A Q hC hret hM hl => ?_)
  have hl : lv_has ls 2 [(0, .ref (mvA V 0))] := hl
  have hL63 : ∀ (M : mM) (x1 : Int32) (t1 : Int32) (H : Heap) (locs : List Loc) (ls : Array Slot), fX12_test_L63 M x1 t1 = some (r, M') → PR V M A s H locs → lv_has ls 2 [(0, .ref (mvA V 0)), (1, .int x1)] → W p l e ({ frames := 12, cells := 0, slots := 0, locals := 365 } : Room) s m args below meth c H locs 0 0 Q (F0 m 63 ls [.int t1, .ref (mvA V 0)]) := by
    intro M x1 t1 H locs ls hf hM hl
    unfold fX12_test_L63 at hf
    obtain ⟨hg18, hf⟩ := o_g hf
    refine mw_put hC hM 0 (Nat.le_of_ble_eq_true rfl) (eR_0 V) inW12 tyX12 tyX12_ok nmX12 rfl 11 (by decide) q_1157 (fun _ h9 => h9) rfl (nar_b (isB_or hg18)) (fit_b (isB_or hg18)) (Nat.le_of_ble_eq_true rfl) rfl dX12_test_63 (fun H locs hM => ?_)
    refine lv_aload_n hC.1 hC.2.1 dX12_test_66 rfl (lv_at hl 0 rfl) ?_
    refine mw_get (v := .int ((wr M 0 11 t1) 0 11)) hC hM 0 (Nat.le_of_ble_eq_true rfl) (eR_0 V) inW12 rfl 11 (by decide) q_1157 (fun _ h9 => h9) rfl dX12_test_67 ?_
    refine lv_if_ne (tgt := 77) hC.1 hC.2.1 dX12_test_70 (by decide) (fun hc34 => ?_) (fun hc34 => ?_)
    · have hf := o_f hc34 hf
      refine lv_aload_n hC.1 hC.2.1 dX12_test_77 rfl (lv_at hl 0 rfl) ?_
      obtain ⟨r19, M21, hq20, hf⟩ := o_b2 hf
      refine mw_cVv (As := []) (rest := []) hC hM (mcX12_value V l (wr M 0 11 t1) r19 M21 hq20) (mw_kV hC q_1422 q_1424 q_67 q_120 q_1425 ⟨rfl, rfl⟩ kV_X12_value ⟨Nat.le_of_ble_eq_true rfl, Nat.le_of_ble_eq_true rfl⟩) (Nat.le_of_ble_eq_true rfl) (eR_0 V) rfl rfl rfl (Nat.le_of_ble_eq_true rfl) hl.1 dX12_test_78 (fun H locs hM => ?_)
      refine lv_aload_n hC.1 hC.2.1 dX12_test_81 rfl (lv_at hl 0 rfl) ?_
      refine lv_iload_n hC.1 hC.2.1 dX12_test_82 rfl (lv_at hl 1 rfl) ?_
      obtain ⟨r22, M24, hq23, hf⟩ := o_b2 hf
      refine mw_cVv (As := [.int x1]) (rest := []) hC hM (mcX12_puts V l M21 x1 r22 M24 hq23) (mw_kV hC q_1435 q_1437 q_69 q_120 q_1438 ⟨rfl, rfl⟩ kV_X12_puts ⟨Nat.le_of_ble_eq_true rfl, Nat.le_of_ble_eq_true rfl⟩) (Nat.le_of_ble_eq_true rfl) (eR_0 V) rfl rfl rfl (Nat.le_of_ble_eq_true rfl) hl.1 dX12_test_83 (fun H locs hM => ?_)
      exact hret (o_r2 hf hM) dX12_test_86
    · have hf := o_t hc34 hf
      refine lv_aload_n hC.1 hC.2.1 dX12_test_73 rfl (lv_at hl 0 rfl) ?_
      obtain ⟨r25, M27, hq26, hf⟩ := o_b2 hf
      refine mw_cVv (As := []) (rest := []) hC hM (mcX12_next V l (wr M 0 11 t1) r25 M27 hq26) (mw_kV hC q_1362 q_1364 q_55 q_120 q_1365 ⟨rfl, rfl⟩ kV_X12_next ⟨Nat.le_of_ble_eq_true rfl, Nat.le_of_ble_eq_true rfl⟩) (Nat.le_of_ble_eq_true rfl) (eR_0 V) rfl rfl rfl (Nat.le_of_ble_eq_true rfl) hl.1 dX12_test_74 (fun H locs hM => ?_)
      refine lv_aload_n hC.1 hC.2.1 dX12_test_77 rfl (lv_at hl 0 rfl) ?_
      obtain ⟨r28, M30, hq29, hf⟩ := o_b2 hf
      refine mw_cVv (As := []) (rest := []) hC hM (mcX12_value V l M27 r28 M30 hq29) (mw_kV hC q_1422 q_1424 q_67 q_120 q_1425 ⟨rfl, rfl⟩ kV_X12_value ⟨Nat.le_of_ble_eq_true rfl, Nat.le_of_ble_eq_true rfl⟩) (Nat.le_of_ble_eq_true rfl) (eR_0 V) rfl rfl rfl (Nat.le_of_ble_eq_true rfl) hl.1 dX12_test_78 (fun H locs hM => ?_)
      refine lv_aload_n hC.1 hC.2.1 dX12_test_81 rfl (lv_at hl 0 rfl) ?_
      refine lv_iload_n hC.1 hC.2.1 dX12_test_82 rfl (lv_at hl 1 rfl) ?_
      obtain ⟨r31, M33, hq32, hf⟩ := o_b2 hf
      refine mw_cVv (As := [.int x1]) (rest := []) hC hM (mcX12_puts V l M30 x1 r31 M33 hq32) (mw_kV hC q_1435 q_1437 q_69 q_120 q_1438 ⟨rfl, rfl⟩ kV_X12_puts ⟨Nat.le_of_ble_eq_true rfl, Nat.le_of_ble_eq_true rfl⟩) (Nat.le_of_ble_eq_true rfl) (eR_0 V) rfl rfl rfl (Nat.le_of_ble_eq_true rfl) hl.1 dX12_test_83 (fun H locs hM => ?_)
      exact hret (o_r2 hf hM) dX12_test_86
  have hL62 : ∀ (M : mM) (x1 : Int32) (H : Heap) (locs : List Loc) (ls : Array Slot), fX12_test_L62 M x1 = some (r, M') → PR V M A s H locs → lv_has ls 2 [(0, .ref (mvA V 0)), (1, .int x1)] → W p l e ({ frames := 12, cells := 0, slots := 0, locals := 365 } : Room) s m args below meth c H locs 0 0 Q (F0 m 62 ls [.ref (mvA V 0)]) := by
    intro M x1 H locs ls hf hM hl
    unfold fX12_test_L62 at hf
    refine lv_iconst hC.1 hC.2.1 dX12_test_62 ci_0 ?_
    exact hL63 _ _ _ _ _ _ hf hM (lv_sub hl [0, 1] rfl)
  have hL58 : ∀ (M : mM) (x1 : Int32) (H : Heap) (locs : List Loc) (ls : Array Slot), fX12_test_L58 M x1 = some (r, M') → PR V M A s H locs → lv_has ls 2 [(0, .ref (mvA V 0)), (1, .int x1)] → W p l e ({ frames := 12, cells := 0, slots := 0, locals := 365 } : Room) s m args below meth c H locs 0 0 Q (F0 m 58 ls [.ref (mvA V 0)]) := by
    intro M x1 H locs ls hf hM hl
    unfold fX12_test_L58 at hf
    refine lv_iconst hC.1 hC.2.1 dX12_test_58 ci_1 ?_
    refine lv_goto (tgt := 63) hC.1 hC.2.1 dX12_test_59 (by decide) ?_
    exact hL63 _ _ _ _ _ _ hf hM (lv_sub hl [0, 1] rfl)
  have hL34 : ∀ (M : mM) (t0 : Int32) (H : Heap) (locs : List Loc) (ls : Array Slot), fX12_test_L34 M t0 = some (r, M') → PR V M A s H locs → lv_has ls 2 [(0, .ref (mvA V 0))] → W p l e ({ frames := 12, cells := 0, slots := 0, locals := 365 } : Room) s m args below meth c H locs 0 0 Q (F0 m 34 ls [.int t0]) := by
    intro M t0 H locs ls hf hM hl
    unfold fX12_test_L34 at hf
    refine lv_istore_n (lv' := [(1, .int t0), (0, .ref (mvA V 0))]) hC.1 hC.2.1 dX12_test_34 rfl hl (Nat.le_of_ble_eq_true rfl) rfl (fun ls hl => ?_)
    refine lv_aload_n hC.1 hC.2.1 dX12_test_35 rfl (lv_at hl 1 rfl) ?_
    refine lv_aload_n hC.1 hC.2.1 dX12_test_36 rfl (lv_at hl 1 rfl) ?_
    refine mw_get (v := .int (M 0 11)) hC hM 0 (Nat.le_of_ble_eq_true rfl) (eR_0 V) inW12 rfl 11 (by decide) q_1157 (fun _ h9 => h9) rfl dX12_test_37 ?_
    refine lv_if_ne (tgt := 58) hC.1 hC.2.1 dX12_test_40 (by decide) (fun hc17 => ?_) (fun hc17 => ?_)
    · have hf := o_f hc17 hf
      exact hL58 _ _ _ _ _ hf hM (lv_sub hl [1, 0] rfl)
    · have hf := o_t hc17 hf
      refine lv_iload_n hC.1 hC.2.1 dX12_test_43 rfl (lv_at hl 0 rfl) ?_
      refine lv_bipush hC.1 hC.2.1 dX12_test_44 cb_m13 ?_
      refine lv_icmp_ne (tgt := 62) hC.1 hC.2.1 dX12_test_46 (by decide) (fun hc16 => ?_) (fun hc16 => ?_)
      · have hf := o_f hc16 hf
        exact hL62 _ _ _ _ _ hf hM (lv_sub hl [1, 0] rfl)
      · have hf := o_t hc16 hf
        refine lv_aload_n hC.1 hC.2.1 dX12_test_49 rfl (lv_at hl 1 rfl) ?_
        refine va_ldcS (own := RX12) (index := 203) (tx := ">") (q := mvK V 22) hC.1 hC.2.1 hC.2.2.2.1 (st_35 hC) dX12_test_50 ?_
        obtain ⟨r12, hq13, hf⟩ := o_b hf
        refine mw_cVi (As := [.ref (mvK V 22)]) (rest := [.ref (mvA V 0)]) hC hM (mcX12_isWord V l M 22 r12 hq13) (mw_kV hC q_1379 q_1381 q_59 q_120 q_1382 ⟨rfl, rfl⟩ kV_X12_isWord ⟨Nat.le_of_ble_eq_true rfl, Nat.le_of_ble_eq_true rfl⟩) (Nat.le_of_ble_eq_true rfl) (eR_0 V) rfl rfl rfl (Nat.le_of_ble_eq_true rfl) hl.1 dX12_test_52 (fun H locs hM hb14 => ?_)
        refine lv_if_ne (tgt := 62) hC.1 hC.2.1 dX12_test_55 (by decide) (fun hc15 => ?_) (fun hc15 => ?_)
        · have hf := o_f hc15 hf
          exact hL62 _ _ _ _ _ hf hM (lv_sub hl [1, 0] rfl)
        · have hf := o_t hc15 hf
          exact hL58 _ _ _ _ _ hf hM (lv_sub hl [1, 0] rfl)
  refine lv_aload_n hC.1 hC.2.1 dX12_test_0 rfl (lv_at hl 0 rfl) ?_
  obtain ⟨r1, M3, hq2, hf⟩ := o_b2 hf
  refine mw_cVv (As := []) (rest := []) hC hM (mcX12_value V l M r1 M3 hq2) (mw_kV hC q_1422 q_1424 q_67 q_120 q_1425 ⟨rfl, rfl⟩ kV_X12_value ⟨Nat.le_of_ble_eq_true rfl, Nat.le_of_ble_eq_true rfl⟩) (Nat.le_of_ble_eq_true rfl) (eR_0 V) rfl rfl rfl (Nat.le_of_ble_eq_true rfl) hl.1 dX12_test_1 (fun H locs hM => ?_)
  refine lv_aload_n hC.1 hC.2.1 dX12_test_4 rfl (lv_at hl 0 rfl) ?_
  refine va_ldcS (own := RX12) (index := 199) (tx := "<") (q := mvK V 20) hC.1 hC.2.1 hC.2.2.2.1 (st_33 hC) dX12_test_5 ?_
  obtain ⟨r4, hq5, hf⟩ := o_b hf
  refine mw_cVi (As := [.ref (mvK V 20)]) (rest := []) hC hM (mcX12_isWord V l M3 20 r4 hq5) (mw_kV hC q_1379 q_1381 q_59 q_120 q_1382 ⟨rfl, rfl⟩ kV_X12_isWord ⟨Nat.le_of_ble_eq_true rfl, Nat.le_of_ble_eq_true rfl⟩) (Nat.le_of_ble_eq_true rfl) (eR_0 V) rfl rfl rfl (Nat.le_of_ble_eq_true rfl) hl.1 dX12_test_7 (fun H locs hM hb6 => ?_)
  refine lv_if_eq (tgt := 18) hC.1 hC.2.1 dX12_test_10 (by decide) (fun hc11 => ?_) (fun hc11 => ?_)
  · have hf := o_t hc11 hf
    refine lv_aload_n hC.1 hC.2.1 dX12_test_18 rfl (lv_at hl 0 rfl) ?_
    refine va_ldcS (own := RX12) (index := 201) (tx := "=") (q := mvK V 21) hC.1 hC.2.1 hC.2.2.2.1 (st_34 hC) dX12_test_19 ?_
    obtain ⟨r7, hq8, hf⟩ := o_b hf
    refine mw_cVi (As := [.ref (mvK V 21)]) (rest := []) hC hM (mcX12_isWord V l M3 21 r7 hq8) (mw_kV hC q_1379 q_1381 q_59 q_120 q_1382 ⟨rfl, rfl⟩ kV_X12_isWord ⟨Nat.le_of_ble_eq_true rfl, Nat.le_of_ble_eq_true rfl⟩) (Nat.le_of_ble_eq_true rfl) (eR_0 V) rfl rfl rfl (Nat.le_of_ble_eq_true rfl) hl.1 dX12_test_21 (fun H locs hM hb9 => ?_)
    refine lv_if_eq (tgt := 32) hC.1 hC.2.1 dX12_test_24 (by decide) (fun hc10 => ?_) (fun hc10 => ?_)
    · have hf := o_t hc10 hf
      refine lv_bipush hC.1 hC.2.1 dX12_test_32 cb_m13 ?_
      exact hL34 _ _ _ _ _ hf hM (lv_sub hl [0] rfl)
    · have hf := o_f hc10 hf
      refine lv_bipush hC.1 hC.2.1 dX12_test_27 cb_m12 ?_
      refine lv_goto (tgt := 34) hC.1 hC.2.1 dX12_test_29 (by decide) ?_
      exact hL34 _ _ _ _ _ hf hM (lv_sub hl [0] rfl)
  · have hf := o_f hc11 hf
    refine lv_bipush hC.1 hC.2.1 dX12_test_13 cb_m11 ?_
    refine lv_goto (tgt := 34) hC.1 hC.2.1 dX12_test_15 (by decide) ?_
    exact hL34 _ _ _ _ _ hf hM (lv_sub hl [0] rfl)
set_option maxHeartbeats 4000000 in
set_option maxRecDepth 100000 in
theorem mcX12_wants (V : mV) (l : Launch) (M : mM) (p1 : Nat) (r : Int32) (M' : mM) (hf : fX12_wants M p1 = some (r, M')) : UR V l yX12_wants cX12_wants 2 ({ frames := 10, cells := 0, slots := 0, locals := 323 } : Room) [.ref (mvA V 0), .ref (mvK V p1)] M M' := by
  unfold fX12_wants at hf
  refine mw_enterV RX12 rfl (by decide +kernel) (Nat.le_of_ble_eq_true rfl) (fun {p e s m args below meth c} ls A Q hC hret hM hl => ?_)
  have hl : lv_has ls 2 [(0, .ref (mvA V 0)), (1, .ref (mvK V p1))] := hl
  have hL16 : ∀ (M : mM) (H : Heap) (locs : List Loc) (ls : Array Slot), fX12_wants_L16 M = some (r, M') → PR V M A s H locs → lv_has ls 2 [(0, .ref (mvA V 0))] → W p l e ({ frames := 10, cells := 0, slots := 0, locals := 323 } : Room) s m args below meth c H locs 0 0 Q (F0 m 16 ls [.ref (mvA V 0)]) := by
    intro M H locs ls hf hM hl
    unfold fX12_wants_L16 at hf
    refine lv_iconst hC.1 hC.2.1 dX12_wants_16 ci_1 ?_
    refine lv_goto (tgt := 21) hC.1 hC.2.1 dX12_wants_17 (by decide) ?_
    refine mw_put hC hM 0 (Nat.le_of_ble_eq_true rfl) (eR_0 V) inW12 tyX12 tyX12_ok nmX12 rfl 11 (by decide) q_1157 (fun _ h9 => h9) rfl (nar_b (Or.inr rfl)) (fit_b (Or.inr rfl)) (Nat.le_of_ble_eq_true rfl) rfl dX12_wants_21 (fun H locs hM => ?_)
    refine lv_aload_n hC.1 hC.2.1 dX12_wants_24 rfl (lv_at hl 0 rfl) ?_
    refine mw_get (v := .int ((wr M 0 11 1) 0 11)) hC hM 0 (Nat.le_of_ble_eq_true rfl) (eR_0 V) inW12 rfl 11 (by decide) q_1157 (fun _ h9 => h9) rfl dX12_wants_25 ?_
    refine lv_if_ne (tgt := 35) hC.1 hC.2.1 dX12_wants_28 (by decide) (fun hc13 => ?_) (fun hc13 => ?_)
    · have hf := o_f hc13 hf
      exact hret (o_r2 hf hM) dX12_wants_35
    · have hf := o_t hc13 hf
      refine lv_aload_n hC.1 hC.2.1 dX12_wants_31 rfl (lv_at hl 0 rfl) ?_
      obtain ⟨r10, M12, hq11, hf⟩ := o_b2 hf
      refine mw_cVv (As := []) (rest := []) hC hM (mcX12_next V l (wr M 0 11 1) r10 M12 hq11) (mw_kV hC q_1362 q_1364 q_55 q_120 q_1365 ⟨rfl, rfl⟩ kV_X12_next ⟨Nat.le_of_ble_eq_true rfl, Nat.le_of_ble_eq_true rfl⟩) (Nat.le_of_ble_eq_true rfl) (eR_0 V) rfl rfl rfl (Nat.le_of_ble_eq_true rfl) hl.1 dX12_wants_32 (fun H locs hM => ?_)
      exact hret (o_r2 hf hM) dX12_wants_35
  refine lv_aload_n hC.1 hC.2.1 dX12_wants_0 rfl (lv_at hl 0 rfl) ?_
  refine lv_aload_n hC.1 hC.2.1 dX12_wants_1 rfl (lv_at hl 0 rfl) ?_
  refine mw_get (v := .int (M 0 11)) hC hM 0 (Nat.le_of_ble_eq_true rfl) (eR_0 V) inW12 rfl 11 (by decide) q_1157 (fun _ h9 => h9) rfl dX12_wants_2 ?_
  refine lv_if_ne (tgt := 16) hC.1 hC.2.1 dX12_wants_5 (by decide) (fun hc9 => ?_) (fun hc9 => ?_)
  · have hf := o_f hc9 hf
    exact hL16 _ _ _ _ hf hM (lv_sub hl [0] rfl)
  · have hf := o_t hc9 hf
    refine lv_aload_n hC.1 hC.2.1 dX12_wants_8 rfl (lv_at hl 0 rfl) ?_
    refine lv_aload_n hC.1 hC.2.1 dX12_wants_9 rfl (lv_at hl 1 rfl) ?_
    obtain ⟨r1, hq2, hf⟩ := o_b hf
    refine mw_cVi (As := [.ref (mvK V p1)]) (rest := [.ref (mvA V 0)]) hC hM (mcX12_isWord V l M p1 r1 hq2) (mw_kV hC q_1379 q_1381 q_59 q_120 q_1382 ⟨rfl, rfl⟩ kV_X12_isWord ⟨Nat.le_of_ble_eq_true rfl, Nat.le_of_ble_eq_true rfl⟩) (Nat.le_of_ble_eq_true rfl) (eR_0 V) rfl rfl rfl (Nat.le_of_ble_eq_true rfl) hl.1 dX12_wants_10 (fun H locs hM hb3 => ?_)
    refine lv_if_ne (tgt := 20) hC.1 hC.2.1 dX12_wants_13 (by decide) (fun hc8 => ?_) (fun hc8 => ?_)
    · have hf := o_f hc8 hf
      refine lv_iconst hC.1 hC.2.1 dX12_wants_20 ci_0 ?_
      refine mw_put hC hM 0 (Nat.le_of_ble_eq_true rfl) (eR_0 V) inW12 tyX12 tyX12_ok nmX12 rfl 11 (by decide) q_1157 (fun _ h9 => h9) rfl (nar_b (Or.inl rfl)) (fit_b (Or.inl rfl)) (Nat.le_of_ble_eq_true rfl) rfl dX12_wants_21 (fun H locs hM => ?_)
      refine lv_aload_n hC.1 hC.2.1 dX12_wants_24 rfl (lv_at hl 0 rfl) ?_
      refine mw_get (v := .int ((wr M 0 11 0) 0 11)) hC hM 0 (Nat.le_of_ble_eq_true rfl) (eR_0 V) inW12 rfl 11 (by decide) q_1157 (fun _ h9 => h9) rfl dX12_wants_25 ?_
      refine lv_if_ne (tgt := 35) hC.1 hC.2.1 dX12_wants_28 (by decide) (fun hc7 => ?_) (fun hc7 => ?_)
      · have hf := o_f hc7 hf
        exact hret (o_r2 hf hM) dX12_wants_35
      · have hf := o_t hc7 hf
        refine lv_aload_n hC.1 hC.2.1 dX12_wants_31 rfl (lv_at hl 0 rfl) ?_
        obtain ⟨r4, M6, hq5, hf⟩ := o_b2 hf
        refine mw_cVv (As := []) (rest := []) hC hM (mcX12_next V l (wr M 0 11 0) r4 M6 hq5) (mw_kV hC q_1362 q_1364 q_55 q_120 q_1365 ⟨rfl, rfl⟩ kV_X12_next ⟨Nat.le_of_ble_eq_true rfl, Nat.le_of_ble_eq_true rfl⟩) (Nat.le_of_ble_eq_true rfl) (eR_0 V) rfl rfl rfl (Nat.le_of_ble_eq_true rfl) hl.1 dX12_wants_32 (fun H locs hM => ?_)
        exact hret (o_r2 hf hM) dX12_wants_35
    · have hf := o_t hc8 hf
      exact hL16 _ _ _ _ hf hM (lv_sub hl [0] rfl)
set_option maxHeartbeats 4000000 in
set_option maxRecDepth 100000 in
theorem mcX12_within (V : mV) (l : Launch) (rec : mM → Option (Int32 × mM)) (d : Nat) (hrec : ∀ (M : mM) (r : Int32) (M' : mM), rec M = some (r, M') → UR V l yX12_any cX12_any 1 ({ frames := 13 + 4 * d, cells := 0, slots := 0, locals := 386 + 81 * d } : Room) [.ref (mvA V 0)] M M') (M : mM) (r : Int32) (M' : mM) (hf : fX12_within rec M = some (r, M')) : UR V l yX12_within cX12_within 1 ({ frames := 14 + 4 * d, cells := 0, slots := 0, locals := 406 + 81 * d } : Room) [.ref (mvA V 0)] M M' := by
  unfold fX12_within at hf
  refine mw_enterV RX12 rfl (by decide +kernel) (Nat.le_of_ble_eq_true rfl) (fun {p e s m args below meth c} ls A Q hC hret hM hl => ?_)
  have hl : lv_has ls 1 [(0, .ref (mvA V 0))] := hl
  have hL35 : ∀ (M : mM) (H : Heap) (locs : List Loc) (ls : Array Slot), fX12_within_L35 rec M = some (r, M') → PR V M A s H locs → lv_has ls 1 [(0, .ref (mvA V 0))] → W p l e ({ frames := 14 + 4 * d, cells := 0, slots := 0, locals := 406 + 81 * d } : Room) s m args below meth c H locs 0 0 Q (F0 m 35 ls []) := by
    intro M H locs ls hf hM hl
    unfold fX12_within_L35 at hf
    refine lv_aload_n hC.1 hC.2.1 dX12_within_35 rfl (lv_at hl 0 rfl) ?_
    refine lv_dup hC.1 hC.2.1 dX12_within_36 rfl ?_
    refine mw_get (v := .int (M 0 10)) hC hM 0 (Nat.le_of_ble_eq_true rfl) (eR_0 V) inW12 rfl 10 (by decide) q_1156 (fun _ h9 => h9) rfl dX12_within_37 ?_
    refine lv_iconst hC.1 hC.2.1 dX12_within_40 ci_1 ?_
    refine lv_iadd hC.1 hC.2.1 dX12_within_41 ?_
    refine mw_put hC hM 0 (Nat.le_of_ble_eq_true rfl) (eR_0 V) inW12 tyX12 tyX12_ok nmX12 rfl 10 (by decide) q_1156 (fun _ h9 => h9) rfl rfl rfl (Nat.le_of_ble_eq_true rfl) rfl dX12_within_42 (fun H locs hM => ?_)
    refine lv_aload_n hC.1 hC.2.1 dX12_within_45 rfl (lv_at hl 0 rfl) ?_
    obtain ⟨r8, M10, hq9, hf⟩ := o_b2 hf
    refine mw_cVv (As := []) (rest := []) hC hM (hrec (wr M 0 10 ((M 0 10) + 1)) r8 M10 hq9) (mw_kV hC q_1395 q_1397 q_61 q_120 q_1398 ⟨rfl, rfl⟩ kV_X12_any ⟨by dsimp only; omega, by dsimp only; omega⟩) (Nat.le_of_ble_eq_true rfl) (eR_0 V) rfl rfl rfl (Nat.le_of_ble_eq_true rfl) hl.1 dX12_within_46 (fun H locs hM => ?_)
    refine lv_aload_n hC.1 hC.2.1 dX12_within_49 rfl (lv_at hl 0 rfl) ?_
    refine lv_dup hC.1 hC.2.1 dX12_within_50 rfl ?_
    refine mw_get (v := .int (M10 0 10)) hC hM 0 (Nat.le_of_ble_eq_true rfl) (eR_0 V) inW12 rfl 10 (by decide) q_1156 (fun _ h9 => h9) rfl dX12_within_51 ?_
    refine lv_iconst hC.1 hC.2.1 dX12_within_54 ci_1 ?_
    refine lv_isub hC.1 hC.2.1 dX12_within_55 ?_
    refine mw_put hC hM 0 (Nat.le_of_ble_eq_true rfl) (eR_0 V) inW12 tyX12 tyX12_ok nmX12 rfl 10 (by decide) q_1156 (fun _ h9 => h9) rfl rfl rfl (Nat.le_of_ble_eq_true rfl) rfl dX12_within_56 (fun H locs hM => ?_)
    refine lv_aload_n hC.1 hC.2.1 dX12_within_59 rfl (lv_at hl 0 rfl) ?_
    refine va_ldcS (own := RX12) (index := 211) (tx := ")") (q := mvK V 19) hC.1 hC.2.1 hC.2.2.2.1 (st_27 hC) dX12_within_60 ?_
    obtain ⟨r11, M13, hq12, hf⟩ := o_b2 hf
    refine mw_cVv (As := [.ref (mvK V 19)]) (rest := []) hC hM (mcX12_wants V l (wr M10 0 10 ((M10 0 10) - 1)) 19 r11 M13 hq12) (mw_kV hC q_1414 q_1416 q_65 q_120 q_1417 ⟨rfl, rfl⟩ kV_X12_wants ⟨by dsimp only; omega, by dsimp only; omega⟩) (Nat.le_of_ble_eq_true rfl) (eR_0 V) rfl rfl rfl (Nat.le_of_ble_eq_true rfl) hl.1 dX12_within_62 (fun H locs hM => ?_)
    exact hret (o_r2 hf hM) dX12_within_65
  have hL21 : ∀ (M : mM) (t1 : Int32) (H : Heap) (locs : List Loc) (ls : Array Slot), fX12_within_L21 rec M t1 = some (r, M') → PR V M A s H locs → lv_has ls 1 [(0, .ref (mvA V 0))] → W p l e ({ frames := 14 + 4 * d, cells := 0, slots := 0, locals := 406 + 81 * d } : Room) s m args below meth c H locs 0 0 Q (F0 m 21 ls [.int t1, .ref (mvA V 0)]) := by
    intro M t1 H locs ls hf hM hl
    unfold fX12_within_L21 at hf
    obtain ⟨hg3, hf⟩ := o_g hf
    refine mw_put hC hM 0 (Nat.le_of_ble_eq_true rfl) (eR_0 V) inW12 tyX12 tyX12_ok nmX12 rfl 11 (by decide) q_1157 (fun _ h9 => h9) rfl (nar_b (isB_or hg3)) (fit_b (isB_or hg3)) (Nat.le_of_ble_eq_true rfl) rfl dX12_within_21 (fun H locs hM => ?_)
    refine lv_aload_n hC.1 hC.2.1 dX12_within_24 rfl (lv_at hl 0 rfl) ?_
    refine mw_get (v := .int ((wr M 0 11 t1) 0 11)) hC hM 0 (Nat.le_of_ble_eq_true rfl) (eR_0 V) inW12 rfl 11 (by decide) q_1157 (fun _ h9 => h9) rfl dX12_within_25 ?_
    refine lv_if_ne (tgt := 35) hC.1 hC.2.1 dX12_within_28 (by decide) (fun hc7 => ?_) (fun hc7 => ?_)
    · have hf := o_f hc7 hf
      exact hL35 _ _ _ _ hf hM (lv_sub hl [0] rfl)
    · have hf := o_t hc7 hf
      refine lv_aload_n hC.1 hC.2.1 dX12_within_31 rfl (lv_at hl 0 rfl) ?_
      obtain ⟨r4, M6, hq5, hf⟩ := o_b2 hf
      refine mw_cVv (As := []) (rest := []) hC hM (mcX12_next V l (wr M 0 11 t1) r4 M6 hq5) (mw_kV hC q_1362 q_1364 q_55 q_120 q_1365 ⟨rfl, rfl⟩ kV_X12_next ⟨by dsimp only; omega, by dsimp only; omega⟩) (Nat.le_of_ble_eq_true rfl) (eR_0 V) rfl rfl rfl (Nat.le_of_ble_eq_true rfl) hl.1 dX12_within_32 (fun H locs hM => ?_)
      exact hL35 _ _ _ _ hf hM (lv_sub hl [0] rfl)
  have hL16 : ∀ (M : mM) (H : Heap) (locs : List Loc) (ls : Array Slot), fX12_within_L16 rec M = some (r, M') → PR V M A s H locs → lv_has ls 1 [(0, .ref (mvA V 0))] → W p l e ({ frames := 14 + 4 * d, cells := 0, slots := 0, locals := 406 + 81 * d } : Room) s m args below meth c H locs 0 0 Q (F0 m 16 ls [.ref (mvA V 0)]) := by
    intro M H locs ls hf hM hl
    unfold fX12_within_L16 at hf
    refine lv_iconst hC.1 hC.2.1 dX12_within_16 ci_1 ?_
    refine lv_goto (tgt := 21) hC.1 hC.2.1 dX12_within_17 (by decide) ?_
    exact hL21 _ _ _ _ _ hf hM (lv_sub hl [0] rfl)
  refine lv_aload_n hC.1 hC.2.1 dX12_within_0 rfl (lv_at hl 0 rfl) ?_
  refine lv_aload_n hC.1 hC.2.1 dX12_within_1 rfl (lv_at hl 0 rfl) ?_
  refine mw_get (v := .int (M 0 11)) hC hM 0 (Nat.le_of_ble_eq_true rfl) (eR_0 V) inW12 rfl 11 (by decide) q_1157 (fun _ h9 => h9) rfl dX12_within_2 ?_
  refine lv_if_ne (tgt := 16) hC.1 hC.2.1 dX12_within_5 (by decide) (fun hc2 => ?_) (fun hc2 => ?_)
  · have hf := o_f hc2 hf
    exact hL16 _ _ _ _ hf hM (lv_sub hl [0] rfl)
  · have hf := o_t hc2 hf
    refine lv_aload_n hC.1 hC.2.1 dX12_within_8 rfl (lv_at hl 0 rfl) ?_
    refine mw_get (v := .int (M 0 10)) hC hM 0 (Nat.le_of_ble_eq_true rfl) (eR_0 V) inW12 rfl 10 (by decide) q_1156 (fun _ h9 => h9) rfl dX12_within_9 ?_
    refine lv_iconst hC.1 hC.2.1 dX12_within_12 ci_3 ?_
    refine lv_icmp_ne (tgt := 20) hC.1 hC.2.1 dX12_within_13 (by decide) (fun hc1 => ?_) (fun hc1 => ?_)
    · have hf := o_f hc1 hf
      refine lv_iconst hC.1 hC.2.1 dX12_within_20 ci_0 ?_
      exact hL21 _ _ _ _ _ hf hM (lv_sub hl [0] rfl)
    · have hf := o_t hc1 hf
      exact hL16 _ _ _ _ hf hM (lv_sub hl [0] rfl)
set_option maxHeartbeats 4000000 in
set_option maxRecDepth 100000 in
theorem mcX12_one (V : mV) (l : Launch) (rec : mM → Option (Int32 × mM)) (d : Nat) (hrec : ∀ (M : mM) (r : Int32) (M' : mM), rec M = some (r, M') → UR V l yX12_any cX12_any 1 ({ frames := 13 + 4 * d, cells := 0, slots := 0, locals := 386 + 81 * d } : Room) [.ref (mvA V 0)] M M') (M : mM) (r : Int32) (M' : mM) (hf : fX12_one rec M = some (r, M')) : UR V l yX12_one cX12_one 2 ({ frames := 15 + 4 * d, cells := 0, slots := 0, locals := 426 + 81 * d } : Room) [.ref (mvA V 0)] M M' := by
  unfold fX12_one at hf
  refine mw_enterV RX12 rfl (by decide +kernel) (Nat.le_of_ble_eq_true rfl) (fun {p e s m args below meth c} ls A Q hC hret hM hl => ?_)
  have hl : lv_has ls 2 [(0, .ref (mvA V 0))] := hl
  have hL37 : ∀ (M : mM) (x1 : Int32) (H : Heap) (locs : List Loc) (ls : Array Slot), fX12_one_L37 rec M x1 = some (r, M') → PR V M A s H locs → lv_has ls 2 [(0, .ref (mvA V 0)), (1, .int x1)] → W p l e ({ frames := 15 + 4 * d, cells := 0, slots := 0, locals := 426 + 81 * d } : Room) s m args below meth c H locs 0 0 Q (F0 m 37 ls []) := by
    intro M x1 H locs ls hf hM hl
    unfold fX12_one_L37 at hf
    refine lv_iload_n hC.1 hC.2.1 dX12_one_37 rfl (lv_at hl 1 rfl) ?_
    refine lv_iconst hC.1 hC.2.1 dX12_one_38 ci_2 ?_
    refine mw_irem hC.1 hC.2.1 dX12_one_39 (by decide) ?_
    refine lv_iconst hC.1 hC.2.1 dX12_one_40 ci_1 ?_
    refine lv_icmp_ne (tgt := 50) hC.1 hC.2.1 dX12_one_41 (by decide) (fun hc19 => ?_) (fun hc19 => ?_)
    · have hf := o_f hc19 hf
      exact hret (o_r2 hf hM) dX12_one_50
    · have hf := o_t hc19 hf
      refine lv_aload_n hC.1 hC.2.1 dX12_one_44 rfl (lv_at hl 0 rfl) ?_
      refine lv_bipush hC.1 hC.2.1 dX12_one_45 cb_m14 ?_
      obtain ⟨r16, M18, hq17, hf⟩ := o_b2 hf
      refine mw_cVv (As := [.int (-14)]) (rest := []) hC hM (mcX12_puts V l M (-14) r16 M18 hq17) (mw_kV hC q_1435 q_1437 q_69 q_120 q_1438 ⟨rfl, rfl⟩ kV_X12_puts ⟨by dsimp only; omega, by dsimp only; omega⟩) (Nat.le_of_ble_eq_true rfl) (eR_0 V) rfl rfl rfl (Nat.le_of_ble_eq_true rfl) hl.1 dX12_one_47 (fun H locs hM => ?_)
      exact hret (o_r2 hf hM) dX12_one_50
  have hL2 : ∀ (n : Nat) (M : mM) (x1 : Int32) (H : Heap) (locs : List Loc) (ls : Array Slot), fX12_one_L2 rec n M x1 = some (r, M') → PR V M A s H locs → lv_has ls 2 [(0, .ref (mvA V 0)), (1, .int x1)] → W p l e ({ frames := 15 + 4 * d, cells := 0, slots := 0, locals := 426 + 81 * d } : Room) s m args below meth c H locs 0 0 Q (F0 m 2 ls []) := by
    intro n2
    induction n2 with
    | zero => intro M x1 H locs ls hf; cases hf
    | succ n2 ih2 =>
      intro M x1 H locs ls hf hM hl
      have hf : fX12_one_L2_b rec (fX12_one_L2 rec n2) M x1 = some (r, M') := hf
      unfold fX12_one_L2_b at hf
      refine lv_aload_n hC.1 hC.2.1 dX12_one_2 rfl (lv_at hl 0 rfl) ?_
      refine va_ldcS (own := RX12) (index := 217) (tx := "not") (q := mvK V 14) hC.1 hC.2.1 hC.2.2.2.1 (st_25 hC) dX12_one_3 ?_
      obtain ⟨r1, M3, hq2, hf⟩ := o_b2 hf
      refine mw_cVi (As := [.ref (mvK V 14)]) (rest := []) hC hM (mcX12_takes V l M 14 r1 M3 hq2) (mw_kV hC q_1391 q_1393 q_60 q_120 q_1394 ⟨rfl, rfl⟩ kV_X12_takes ⟨by dsimp only; omega, by dsimp only; omega⟩) (Nat.le_of_ble_eq_true rfl) (eR_0 V) rfl rfl rfl (Nat.le_of_ble_eq_true rfl) hl.1 dX12_one_5 (fun H locs hM hb4 => ?_)
      refine lv_if_eq (tgt := 17) hC.1 hC.2.1 dX12_one_8 (by decide) (fun hc15 => ?_) (fun hc15 => ?_)
      · have hf := o_t hc15 hf
        refine lv_aload_n hC.1 hC.2.1 dX12_one_17 rfl (lv_at hl 0 rfl) ?_
        refine va_ldcS (own := RX12) (index := 222) (tx := "(") (q := mvK V 18) hC.1 hC.2.1 hC.2.2.2.1 (st_26 hC) dX12_one_18 ?_
        obtain ⟨r5, hq6, hf⟩ := o_b hf
        refine mw_cVi (As := [.ref (mvK V 18)]) (rest := []) hC hM (mcX12_isWord V l M3 18 r5 hq6) (mw_kV hC q_1379 q_1381 q_59 q_120 q_1382 ⟨rfl, rfl⟩ kV_X12_isWord ⟨by dsimp only; omega, by dsimp only; omega⟩) (Nat.le_of_ble_eq_true rfl) (eR_0 V) rfl rfl rfl (Nat.le_of_ble_eq_true rfl) hl.1 dX12_one_20 (fun H locs hM hb7 => ?_)
        refine lv_if_eq (tgt := 33) hC.1 hC.2.1 dX12_one_23 (by decide) (fun hc14 => ?_) (fun hc14 => ?_)
        · have hf := o_t hc14 hf
          refine lv_aload_n hC.1 hC.2.1 dX12_one_33 rfl (lv_at hl 0 rfl) ?_
          obtain ⟨r8, M10, hq9, hf⟩ := o_b2 hf
          refine mw_cVv (As := []) (rest := []) hC hM (mcX12_test V l M3 r8 M10 hq9) (mw_kV hC q_1418 q_1420 q_66 q_120 q_1421 ⟨rfl, rfl⟩ kV_X12_test ⟨by dsimp only; omega, by dsimp only; omega⟩) (Nat.le_of_ble_eq_true rfl) (eR_0 V) rfl rfl rfl (Nat.le_of_ble_eq_true rfl) hl.1 dX12_one_34 (fun H locs hM => ?_)
          exact hL37 _ _ _ _ _ hf hM (lv_sub hl [0, 1] rfl)
        · have hf := o_f hc14 hf
          refine lv_aload_n hC.1 hC.2.1 dX12_one_26 rfl (lv_at hl 0 rfl) ?_
          obtain ⟨r11, M13, hq12, hf⟩ := o_b2 hf
          refine mw_cVv (As := []) (rest := []) hC hM (mcX12_within V l rec d hrec M3 r11 M13 hq12) (mw_kV hC q_1409 q_1411 q_64 q_120 q_1412 ⟨rfl, rfl⟩ kV_X12_within ⟨by dsimp only; omega, by dsimp only; omega⟩) (Nat.le_of_ble_eq_true rfl) (eR_0 V) rfl rfl rfl (Nat.le_of_ble_eq_true rfl) hl.1 dX12_one_27 (fun H locs hM => ?_)
          refine lv_goto (tgt := 37) hC.1 hC.2.1 dX12_one_30 (by decide) ?_
          exact hL37 _ _ _ _ _ hf hM (lv_sub hl [0, 1] rfl)
      · have hf := o_f hc15 hf
        refine lv_iinc (k := 1) (lv' := [(1, .int (x1 + 1)), (0, .ref (mvA V 0))]) hC.1 hC.2.1 dX12_one_11 hl rfl (inc_1 _) (Nat.le_of_ble_eq_true rfl) rfl (fun ls hl => ?_)
        refine lv_goto (tgt := 2) hC.1 hC.2.1 dX12_one_14 (by decide) ?_
        exact ih2 _ _ _ _ _ hf hM (lv_sub hl [1, 0] rfl)
  refine lv_iconst hC.1 hC.2.1 dX12_one_0 ci_0 ?_
  refine lv_istore_n (lv' := [(1, .int 0), (0, .ref (mvA V 0))]) hC.1 hC.2.1 dX12_one_1 rfl hl (Nat.le_of_ble_eq_true rfl) rfl (fun ls hl => ?_)
  exact hL2 _ _ _ _ _ _ hf hM (lv_sub hl [1, 0] rfl)
set_option maxHeartbeats 4000000 in
set_option maxRecDepth 100000 in
theorem mcX12_all (V : mV) (l : Launch) (rec : mM → Option (Int32 × mM)) (d : Nat) (hrec : ∀ (M : mM) (r : Int32) (M' : mM), rec M = some (r, M') → UR V l yX12_any cX12_any 1 ({ frames := 13 + 4 * d, cells := 0, slots := 0, locals := 386 + 81 * d } : Room) [.ref (mvA V 0)] M M') (M : mM) (r : Int32) (M' : mM) (hf : fX12_all rec M = some (r, M')) : UR V l yX12_all cX12_all 1 ({ frames := 16 + 4 * d, cells := 0, slots := 0, locals := 447 + 81 * d } : Room) [.ref (mvA V 0)] M M' := by
  unfold fX12_all at hf
  refine mw_enterV RX12 rfl (by decide +kernel) (Nat.le_of_ble_eq_true rfl) (fun {p e s m args below meth c} ls A Q hC hret hM hl => ?_)
  have hl : lv_has ls 1 [(0, .ref (mvA V 0))] := hl
  have hL4 : ∀ (n : Nat) (M : mM) (H : Heap) (locs : List Loc) (ls : Array Slot), fX12_all_L4 rec n M = some (r, M') → PR V M A s H locs → lv_has ls 1 [(0, .ref (mvA V 0))] → W p l e ({ frames := 16 + 4 * d, cells := 0, slots := 0, locals := 447 + 81 * d } : Room) s m args below meth c H locs 0 0 Q (F0 m 4 ls []) := by
    intro n2
    induction n2 with
    | zero => intro M H locs ls hf; cases hf
    | succ n2 ih2 =>
      intro M H locs ls hf hM hl
      have hf : fX12_all_L4_b rec (fX12_all_L4 rec n2) M = some (r, M') := hf
      unfold fX12_all_L4_b at hf
      refine lv_aload_n hC.1 hC.2.1 dX12_all_4 rfl (lv_at hl 0 rfl) ?_
      refine va_ldcS (own := RX12) (index := 233) (tx := "and") (q := mvK V 12) hC.1 hC.2.1 hC.2.2.2.1 (st_36 hC) dX12_all_5 ?_
      obtain ⟨r4, M6, hq5, hf⟩ := o_b2 hf
      refine mw_cVi (As := [.ref (mvK V 12)]) (rest := []) hC hM (mcX12_takes V l M 12 r4 M6 hq5) (mw_kV hC q_1391 q_1393 q_60 q_120 q_1394 ⟨rfl, rfl⟩ kV_X12_takes ⟨by dsimp only; omega, by dsimp only; omega⟩) (Nat.le_of_ble_eq_true rfl) (eR_0 V) rfl rfl rfl (Nat.le_of_ble_eq_true rfl) hl.1 dX12_all_7 (fun H locs hM hb7 => ?_)
      refine lv_if_eq (tgt := 26) hC.1 hC.2.1 dX12_all_10 (by decide) (fun hc14 => ?_) (fun hc14 => ?_)
      · have hf := o_t hc14 hf
        exact hret (o_r2 hf hM) dX12_all_26
      · have hf := o_f hc14 hf
        refine lv_aload_n hC.1 hC.2.1 dX12_all_13 rfl (lv_at hl 0 rfl) ?_
        obtain ⟨r8, M10, hq9, hf⟩ := o_b2 hf
        refine mw_cVv (As := []) (rest := []) hC hM (mcX12_one V l rec d hrec M6 r8 M10 hq9) (mw_kV hC q_1403 q_1405 q_63 q_120 q_1406 ⟨rfl, rfl⟩ kV_X12_one ⟨by dsimp only; omega, by dsimp only; omega⟩) (Nat.le_of_ble_eq_true rfl) (eR_0 V) rfl rfl rfl (Nat.le_of_ble_eq_true rfl) hl.1 dX12_all_14 (fun H locs hM => ?_)
        refine lv_aload_n hC.1 hC.2.1 dX12_all_17 rfl (lv_at hl 0 rfl) ?_
        refine lv_bipush hC.1 hC.2.1 dX12_all_18 cb_m15 ?_
        obtain ⟨r11, M13, hq12, hf⟩ := o_b2 hf
        refine mw_cVv (As := [.int (-15)]) (rest := []) hC hM (mcX12_puts V l M10 (-15) r11 M13 hq12) (mw_kV hC q_1435 q_1437 q_69 q_120 q_1438 ⟨rfl, rfl⟩ kV_X12_puts ⟨by dsimp only; omega, by dsimp only; omega⟩) (Nat.le_of_ble_eq_true rfl) (eR_0 V) rfl rfl rfl (Nat.le_of_ble_eq_true rfl) hl.1 dX12_all_20 (fun H locs hM => ?_)
        refine lv_goto (tgt := 4) hC.1 hC.2.1 dX12_all_23 (by decide) ?_
        exact ih2 _ _ _ _ hf hM (lv_sub hl [0] rfl)
  refine lv_aload_n hC.1 hC.2.1 dX12_all_0 rfl (lv_at hl 0 rfl) ?_
  obtain ⟨r1, M3, hq2, hf⟩ := o_b2 hf
  refine mw_cVv (As := []) (rest := []) hC hM (mcX12_one V l rec d hrec M r1 M3 hq2) (mw_kV hC q_1403 q_1405 q_63 q_120 q_1406 ⟨rfl, rfl⟩ kV_X12_one ⟨by dsimp only; omega, by dsimp only; omega⟩) (Nat.le_of_ble_eq_true rfl) (eR_0 V) rfl rfl rfl (Nat.le_of_ble_eq_true rfl) hl.1 dX12_all_1 (fun H locs hM => ?_)
  exact hL4 _ _ _ _ _ hf hM (lv_sub hl [0] rfl)
set_option maxHeartbeats 4000000 in
set_option maxRecDepth 100000 in
theorem mcX12_any (V : mV) (l : Launch) : ∀ (d : Nat) (M : mM) (r : Int32) (M' : mM), fX12_any d M = some (r, M') → UR V l yX12_any cX12_any 1 ({ frames := 13 + 4 * d, cells := 0, slots := 0, locals := 386 + 81 * d } : Room) [.ref (mvA V 0)] M M' := by
  intro d
  induction d with
  | zero => intro M r M' hf; cases hf
  | succ d ih =>
    intro M r M' hf
    have hf : fX12_any_b (fX12_any d) M = some (r, M') := hf
    unfold fX12_any_b at hf
    refine mw_enterV RX12 rfl (by decide +kernel) (Nat.le_of_ble_eq_true rfl) (fun {p e s m args below meth c} ls A Q hC hret hM hl => ?_)
    have hl : lv_has ls 1 [(0, .ref (mvA V 0))] := hl
    have hL4 : ∀ (n : Nat) (M : mM) (H : Heap) (locs : List Loc) (ls : Array Slot), fX12_any_L4 (fX12_any d) n M = some (r, M') → PR V M A s H locs → lv_has ls 1 [(0, .ref (mvA V 0))] → W p l e ({ frames := 13 + 4 * (d + 1), cells := 0, slots := 0, locals := 386 + 81 * (d + 1) } : Room) s m args below meth c H locs 0 0 Q (F0 m 4 ls []) := by
      intro n2
      induction n2 with
      | zero => intro M H locs ls hf; cases hf
      | succ n2 ih2 =>
        intro M H locs ls hf hM hl
        have hf : fX12_any_L4_b (fX12_any d) (fX12_any_L4 (fX12_any d) n2) M = some (r, M') := hf
        unfold fX12_any_L4_b at hf
        refine lv_aload_n hC.1 hC.2.1 dX12_any_4 rfl (lv_at hl 0 rfl) ?_
        refine va_ldcS (own := RX12) (index := 238) (tx := "or") (q := mvK V 13) hC.1 hC.2.1 hC.2.2.2.1 (st_37 hC) dX12_any_5 ?_
        obtain ⟨r4, M6, hq5, hf⟩ := o_b2 hf
        refine mw_cVi (As := [.ref (mvK V 13)]) (rest := []) hC hM (mcX12_takes V l M 13 r4 M6 hq5) (mw_kV hC q_1391 q_1393 q_60 q_120 q_1394 ⟨rfl, rfl⟩ kV_X12_takes ⟨by dsimp only; omega, by dsimp only; omega⟩) (Nat.le_of_ble_eq_true rfl) (eR_0 V) rfl rfl rfl (Nat.le_of_ble_eq_true rfl) hl.1 dX12_any_7 (fun H locs hM hb7 => ?_)
        refine lv_if_eq (tgt := 26) hC.1 hC.2.1 dX12_any_10 (by decide) (fun hc14 => ?_) (fun hc14 => ?_)
        · have hf := o_t hc14 hf
          exact hret (o_r2 hf hM) dX12_any_26
        · have hf := o_f hc14 hf
          refine lv_aload_n hC.1 hC.2.1 dX12_any_13 rfl (lv_at hl 0 rfl) ?_
          obtain ⟨r8, M10, hq9, hf⟩ := o_b2 hf
          refine mw_cVv (As := []) (rest := []) hC hM (mcX12_all V l (fX12_any d) d ih M6 r8 M10 hq9) (mw_kV hC q_1399 q_1401 q_62 q_120 q_1402 ⟨rfl, rfl⟩ kV_X12_all ⟨by dsimp only; omega, by dsimp only; omega⟩) (Nat.le_of_ble_eq_true rfl) (eR_0 V) rfl rfl rfl (Nat.le_of_ble_eq_true rfl) hl.1 dX12_any_14 (fun H locs hM => ?_)
          refine lv_aload_n hC.1 hC.2.1 dX12_any_17 rfl (lv_at hl 0 rfl) ?_
          refine lv_bipush hC.1 hC.2.1 dX12_any_18 cb_m16 ?_
          obtain ⟨r11, M13, hq12, hf⟩ := o_b2 hf
          refine mw_cVv (As := [.int (-16)]) (rest := []) hC hM (mcX12_puts V l M10 (-16) r11 M13 hq12) (mw_kV hC q_1435 q_1437 q_69 q_120 q_1438 ⟨rfl, rfl⟩ kV_X12_puts ⟨by dsimp only; omega, by dsimp only; omega⟩) (Nat.le_of_ble_eq_true rfl) (eR_0 V) rfl rfl rfl (Nat.le_of_ble_eq_true rfl) hl.1 dX12_any_20 (fun H locs hM => ?_)
          refine lv_goto (tgt := 4) hC.1 hC.2.1 dX12_any_23 (by decide) ?_
          exact ih2 _ _ _ _ hf hM (lv_sub hl [0] rfl)
    refine lv_aload_n hC.1 hC.2.1 dX12_any_0 rfl (lv_at hl 0 rfl) ?_
    obtain ⟨r1, M3, hq2, hf⟩ := o_b2 hf
    refine mw_cVv (As := []) (rest := []) hC hM (mcX12_all V l (fX12_any d) d ih M r1 M3 hq2) (mw_kV hC q_1399 q_1401 q_62 q_120 q_1402 ⟨rfl, rfl⟩ kV_X12_all ⟨by dsimp only; omega, by dsimp only; omega⟩) (Nat.le_of_ble_eq_true rfl) (eR_0 V) rfl rfl rfl (Nat.le_of_ble_eq_true rfl) hl.1 dX12_any_1 (fun H locs hM => ?_)
    exact hL4 _ _ _ _ _ hf hM (lv_sub hl [0] rfl)
