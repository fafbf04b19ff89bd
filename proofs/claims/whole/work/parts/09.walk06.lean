set_option maxHeartbeats 4000000 in
set_option maxRecDepth 100000 in
theorem mcX2_lay (V : mV) (l : Launch) (M : mM) (p1 : Int32) (p2 : Int32) (p3 : Int32) (r : Int32) (M' : mM) (hf : fX2_lay M p1 p2 p3 = some (r, M')) : UC V l yX2_lay cX2_lay 5 ({ frames := 0, cells := 0, slots := 0, locals := 0 } : Room) [.ref (mvA V 56), .int p1, .int p2, .int p3] M M' := by
  unfold fX2_lay at hf
  refine mw_enterV RX2 rfl (by decide +kernel) (Nat.le_of_ble_eq_true rfl) (fun {p e s m args below meth c} ls A Q hC hret hM hl => ?_)
  have hl : lv_has ls 5 [(0, .ref (mvA V 56)), (1, .int p1), (2, .int p2), (3, .int p3)] := hl
  have hL17 : ∀ (n : Nat) (M : mM) (x1 : Int32) (x3 : Int32) (x4 : Int32) (H : Heap) (locs : List Loc) (ls : Array Slot), fX2_lay_L17 n M x1 x3 x4 = some (r, M') → PC V M A s H locs → lv_has ls 5 [(0, .ref (mvA V 56)), (1, .int x1), (3, .int x3), (4, .int x4)] → W p l e ({ frames := 0, cells := 0, slots := 0, locals := 0 } : Room) s m args below meth c H locs 0 0 Q (F0 m 17 ls []) := by
    intro n12
    induction n12 with
    | zero => intro M x1 x3 x4 H locs ls hf; cases hf
    | succ n12 ih12 =>
      intro M x1 x3 x4 H locs ls hf hM hl
      have hf : fX2_lay_L17_b (fX2_lay_L17 n12) M x1 x3 x4 = some (r, M') := hf
      unfold fX2_lay_L17_b at hf
      refine lv_iload hC.1 hC.2.1 dX2_lay_17 (lv_at hl 3 rfl) ?_
      refine lv_iload_n hC.1 hC.2.1 dX2_lay_19 rfl (lv_at hl 2 rfl) ?_
      refine lv_icmp_ge (tgt := 42) hC.1 hC.2.1 dX2_lay_20 (by decide) (fun hc4 => ?_) (fun hc4 => ?_)
      · have hf := o_t hc4 hf
        exact hret (o_r2 hf hM) dX2_lay_42
      · have hf := o_f hc4 hf
        refine lv_aload_n hC.1 hC.2.1 dX2_lay_23 rfl (lv_at hl 0 rfl) ?_
        refine mw_get (v := .ref (mvA V 62)) hC hM 56 (Nat.le_of_ble_eq_true rfl) (eC_56 V) inW2 rfl 5 (by decide) q_402 (fun _ h9 => h9) rfl dX2_lay_24 ?_
        refine lv_iload_n hC.1 hC.2.1 dX2_lay_27 rfl (lv_at hl 1 rfl) ?_
        refine lv_bipush hC.1 hC.2.1 dX2_lay_28 cb_40 ?_
        refine lv_imul hC.1 hC.2.1 dX2_lay_30 ?_
        refine lv_iload hC.1 hC.2.1 dX2_lay_31 (lv_at hl 3 rfl) ?_
        refine lv_iadd hC.1 hC.2.1 dX2_lay_33 ?_
        refine lv_iconst hC.1 hC.2.1 dX2_lay_34 ci_0 ?_
        obtain ⟨hg3, hf⟩ := o_g hf
        refine mw_iast hC hM 62 0 (Nat.le_of_ble_eq_true rfl) (eC_62 V) rfl hg3 dX2_lay_35 (fun H locs hM => ?_)
        refine lv_iinc (k := 3) (lv' := [(4, .int (x4 + 1)), (0, .ref (mvA V 56)), (1, .int x1), (3, .int x3)]) hC.1 hC.2.1 dX2_lay_36 hl rfl (inc_1 _) (Nat.le_of_ble_eq_true rfl) rfl (fun ls hl => ?_)
        refine lv_goto (tgt := 17) hC.1 hC.2.1 dX2_lay_39 (by decide) ?_
        exact ih12 _ _ _ _ _ _ _ hf hM (lv_sub hl [1, 2, 3, 0] rfl)
  refine lv_aload_n hC.1 hC.2.1 dX2_lay_0 rfl (lv_at hl 0 rfl) ?_
  refine mw_get (v := .ref (mvA V 57)) hC hM 56 (Nat.le_of_ble_eq_true rfl) (eC_56 V) inW2 rfl 0 (by decide) q_393 (fun _ h9 => h9) rfl dX2_lay_1 ?_
  refine lv_iload_n hC.1 hC.2.1 dX2_lay_4 rfl (lv_at hl 1 rfl) ?_
  refine lv_iload_n hC.1 hC.2.1 dX2_lay_5 rfl (lv_at hl 2 rfl) ?_
  obtain ⟨hg1, hf⟩ := o_g hf
  refine mw_iast hC hM 57 0 (Nat.le_of_ble_eq_true rfl) (eC_57 V) rfl hg1 dX2_lay_6 (fun H locs hM => ?_)
  refine lv_aload_n hC.1 hC.2.1 dX2_lay_7 rfl (lv_at hl 0 rfl) ?_
  refine mw_get (v := .ref (mvA V 61)) hC hM 56 (Nat.le_of_ble_eq_true rfl) (eC_56 V) inW2 rfl 4 (by decide) q_401 (fun _ h9 => h9) rfl dX2_lay_8 ?_
  refine lv_iload_n hC.1 hC.2.1 dX2_lay_11 rfl (lv_at hl 1 rfl) ?_
  refine lv_iload_n hC.1 hC.2.1 dX2_lay_12 rfl (lv_at hl 3 rfl) ?_
  obtain ⟨hg2, hf⟩ := o_g hf
  refine mw_iast hC hM 61 0 (Nat.le_of_ble_eq_true rfl) (eC_61 V) rfl hg2 dX2_lay_13 (fun H locs hM => ?_)
  refine lv_iconst hC.1 hC.2.1 dX2_lay_14 ci_0 ?_
  refine lv_istore (lv' := [(4, .int 0), (0, .ref (mvA V 56)), (1, .int p1), (2, .int p2), (3, .int p3)]) hC.1 hC.2.1 dX2_lay_15 hl (Nat.le_of_ble_eq_true rfl) rfl (fun ls hl => ?_)
  exact hL17 _ _ _ _ _ _ _ _ hf hM (lv_sub hl [1, 2, 4, 0] rfl)
set_option maxHeartbeats 4000000 in
set_option maxRecDepth 100000 in
theorem mcX11_sheet (V : mV) (l : Launch) (M : mM) (p1 : Int32) (p2 : Int32) (p3 : Int32) (r : Int32) (M' : mM) (hf : fX11_sheet M p1 p2 p3 = some (r, M')) : IC V l yX11_sheet cX11_sheet 4 ({ frames := 1, cells := 0, slots := 0, locals := 24 } : Room) [.ref (mvA V 0), .int p1, .int p2, .int p3] M r M' := by
  unfold fX11_sheet at hf
  refine mw_enterI RX11 rfl (by decide +kernel) (Nat.le_of_ble_eq_true rfl) (fun {p e s m args below meth c} ls A Q hC hret hM hl => ?_)
  have hl : lv_has ls 4 [(0, .ref (mvA V 0)), (1, .int p1), (2, .int p2), (3, .int p3)] := hl
  have hL45 : ∀ (M : mM) (x1 : Int32) (x2 : Int32) (x3 : Int32) (H : Heap) (locs : List Loc) (ls : Array Slot), fX11_sheet_L45 M x1 x2 x3 = some (r, M') → PC V M A s H locs → lv_has ls 4 [(0, .ref (mvA V 0)), (1, .int x1), (2, .int x2), (3, .int x3)] → W p l e ({ frames := 1, cells := 0, slots := 0, locals := 24 } : Room) s m args below meth c H locs 0 0 Q (F0 m 45 ls []) := by
    intro M x1 x2 x3 H locs ls hf hM hl
    unfold fX11_sheet_L45 at hf
    refine lv_aload_n hC.1 hC.2.1 dX11_sheet_45 rfl (lv_at hl 0 rfl) ?_
    refine mw_get (v := .ref (mvA V 56)) hC hM 0 (Nat.le_of_ble_eq_true rfl) (eC_0 V) inW11 rfl 6 (by decide) q_430 (fun _ h9 => h9) rfl dX11_sheet_46 ?_
    refine lv_iload_n hC.1 hC.2.1 dX11_sheet_49 rfl (lv_at hl 1 rfl) ?_
    refine lv_iload_n hC.1 hC.2.1 dX11_sheet_50 rfl (lv_at hl 2 rfl) ?_
    refine lv_iload_n hC.1 hC.2.1 dX11_sheet_51 rfl (lv_at hl 2 rfl) ?_
    refine lv_iconst hC.1 hC.2.1 dX11_sheet_52 ci_m1 ?_
    refine lv_icmp_ne (tgt := 60) hC.1 hC.2.1 dX11_sheet_53 (by decide) (fun hc15 => ?_) (fun hc15 => ?_)
    · have hf := o_f hc15 hf
      refine lv_iload_n hC.1 hC.2.1 dX11_sheet_60 rfl (lv_at hl 3 rfl) ?_
      obtain ⟨r9, M11, hq10, hf⟩ := o_b2 hf
      refine mw_cVv (As := [.int x1, .int x2, .int x3]) (rest := []) hC hM (mcX2_lay V l M x1 x2 x3 r9 M11 hq10) (mw_kV hC q_964 q_965 q_966 q_118 q_967 ⟨rfl, rfl⟩ kV_X2_lay ⟨Nat.le_of_ble_eq_true rfl, Nat.le_of_ble_eq_true rfl⟩) (Nat.le_of_ble_eq_true rfl) (eC_56 V) rfl rfl rfl (Nat.le_of_ble_eq_true rfl) hl.1 dX11_sheet_61 (fun H locs hM => ?_)
      refine lv_iconst hC.1 hC.2.1 dX11_sheet_64 ci_1 ?_
      exact hret (o_r1 hf) (o_r2 hf hM) dX11_sheet_65
    · have hf := o_t hc15 hf
      refine lv_iconst hC.1 hC.2.1 dX11_sheet_56 ci_0 ?_
      refine lv_goto (tgt := 61) hC.1 hC.2.1 dX11_sheet_57 (by decide) ?_
      obtain ⟨r12, M14, hq13, hf⟩ := o_b2 hf
      refine mw_cVv (As := [.int x1, .int x2, .int 0]) (rest := []) hC hM (mcX2_lay V l M x1 x2 0 r12 M14 hq13) (mw_kV hC q_964 q_965 q_966 q_118 q_967 ⟨rfl, rfl⟩ kV_X2_lay ⟨Nat.le_of_ble_eq_true rfl, Nat.le_of_ble_eq_true rfl⟩) (Nat.le_of_ble_eq_true rfl) (eC_56 V) rfl rfl rfl (Nat.le_of_ble_eq_true rfl) hl.1 dX11_sheet_61 (fun H locs hM => ?_)
      refine lv_iconst hC.1 hC.2.1 dX11_sheet_64 ci_1 ?_
      exact hret (o_r1 hf) (o_r2 hf hM) dX11_sheet_65
  have hL33 : ∀ (M : mM) (x1 : Int32) (x2 : Int32) (x3 : Int32) (H : Heap) (locs : List Loc) (ls : Array Slot), fX11_sheet_L33 M x1 x2 x3 = some (r, M') → PC V M A s H locs → lv_has ls 4 [(0, .ref (mvA V 0)), (1, .int x1), (2, .int x2), (3, .int x3)] → W p l e ({ frames := 1, cells := 0, slots := 0, locals := 24 } : Room) s m args below meth c H locs 0 0 Q (F0 m 33 ls []) := by
    intro M x1 x2 x3 H locs ls hf hM hl
    unfold fX11_sheet_L33 at hf
    refine lv_iload_n hC.1 hC.2.1 dX11_sheet_33 rfl (lv_at hl 2 rfl) ?_
    refine lv_iconst hC.1 hC.2.1 dX11_sheet_34 ci_m1 ?_
    refine lv_icmp_eq (tgt := 45) hC.1 hC.2.1 dX11_sheet_35 (by decide) (fun hc8 => ?_) (fun hc8 => ?_)
    · have hf := o_t hc8 hf
      exact hL45 _ _ _ _ _ _ _ hf hM (lv_sub hl [0, 1, 2, 3] rfl)
    · have hf := o_f hc8 hf
      refine lv_iload_n hC.1 hC.2.1 dX11_sheet_38 rfl (lv_at hl 3 rfl) ?_
      refine lv_if_ge (tgt := 45) hC.1 hC.2.1 dX11_sheet_39 (by decide) (fun hc7 => ?_) (fun hc7 => ?_)
      · have hf := o_t hc7 hf
        exact hL45 _ _ _ _ _ _ _ hf hM (lv_sub hl [0, 1, 2, 3] rfl)
      · have hf := o_f hc7 hf
        refine lv_bipush hC.1 hC.2.1 dX11_sheet_42 cb_m14 ?_
        exact hret (o_r1 hf) (o_r2 hf hM) dX11_sheet_44
  refine lv_iload_n hC.1 hC.2.1 dX11_sheet_0 rfl (lv_at hl 1 rfl) ?_
  refine lv_iconst hC.1 hC.2.1 dX11_sheet_1 ci_0 ?_
  refine lv_iconst hC.1 hC.2.1 dX11_sheet_2 ci_3 ?_
  refine mw_cSi (As := [.int p1, .int 0, .int 3]) (rest := []) hC hM (mcX11_isIn V l M p1 0 3 _ rfl) (mw_kS hC q_468 q_469 q_107 q_470 ⟨rfl, rfl⟩ kS_X11_isIn ⟨Nat.le_of_ble_eq_true rfl, Nat.le_of_ble_eq_true rfl⟩) rfl rfl (Nat.le_of_ble_eq_true rfl) hl.1 dX11_sheet_3 (fun H locs hM hb1 => ?_)
  refine lv_if_eq (tgt := 18) hC.1 hC.2.1 dX11_sheet_6 (by decide) (fun hc6 => ?_) (fun hc6 => ?_)
  · have hf := o_t hc6 hf
    refine lv_iconst hC.1 hC.2.1 dX11_sheet_18 ci_m1 ?_
    exact hret (o_r1 hf) (o_r2 hf hM) dX11_sheet_19
  · have hf := o_f hc6 hf
    refine lv_iload_n hC.1 hC.2.1 dX11_sheet_9 rfl (lv_at hl 2 rfl) ?_
    refine lv_iconst hC.1 hC.2.1 dX11_sheet_10 ci_m1 ?_
    refine lv_iconst hC.1 hC.2.1 dX11_sheet_11 ci_4 ?_
    refine mw_cSi (As := [.int p2, .int (-1), .int 4]) (rest := []) hC hM (mcX11_isIn V l M p2 (-1) 4 _ rfl) (mw_kS hC q_468 q_469 q_107 q_470 ⟨rfl, rfl⟩ kS_X11_isIn ⟨Nat.le_of_ble_eq_true rfl, Nat.le_of_ble_eq_true rfl⟩) rfl rfl (Nat.le_of_ble_eq_true rfl) hl.1 dX11_sheet_12 (fun H locs hM hb2 => ?_)
    refine lv_if_ne (tgt := 20) hC.1 hC.2.1 dX11_sheet_15 (by decide) (fun hc5 => ?_) (fun hc5 => ?_)
    · have hf := o_f hc5 hf
      refine lv_iload_n hC.1 hC.2.1 dX11_sheet_20 rfl (lv_at hl 2 rfl) ?_
      refine lv_iconst hC.1 hC.2.1 dX11_sheet_21 ci_m1 ?_
      refine lv_icmp_eq (tgt := 33) hC.1 hC.2.1 dX11_sheet_22 (by decide) (fun hc4 => ?_) (fun hc4 => ?_)
      · have hf := o_t hc4 hf
        exact hL33 _ _ _ _ _ _ _ hf hM (lv_sub hl [0, 1, 2, 3] rfl)
      · have hf := o_f hc4 hf
        refine lv_iload_n hC.1 hC.2.1 dX11_sheet_25 rfl (lv_at hl 3 rfl) ?_
        refine lv_bipush hC.1 hC.2.1 dX11_sheet_26 cb_40 ?_
        refine lv_icmp_le (tgt := 33) hC.1 hC.2.1 dX11_sheet_28 (by decide) (fun hc3 => ?_) (fun hc3 => ?_)
        · have hf := o_t hc3 hf
          exact hL33 _ _ _ _ _ _ _ hf hM (lv_sub hl [0, 1, 2, 3] rfl)
        · have hf := o_f hc3 hf
          refine lv_iconst hC.1 hC.2.1 dX11_sheet_31 ci_m1 ?_
          exact hret (o_r1 hf) (o_r2 hf hM) dX11_sheet_32
    · have hf := o_t hc5 hf
      refine lv_iconst hC.1 hC.2.1 dX11_sheet_18 ci_m1 ?_
      exact hret (o_r1 hf) (o_r2 hf hM) dX11_sheet_19
set_option maxHeartbeats 4000000 in
set_option maxRecDepth 100000 in
theorem mcX2_hasItem (V : mV) (l : Launch) (M : mM) (p1 : Int32) (p2 : Int32) (r : Int32) (hf : fX2_hasItem M p1 p2 = some r) : ZC V l yX2_hasItem cX2_hasItem 3 ({ frames := 0, cells := 0, slots := 0, locals := 0 } : Room) [.ref (mvA V 56), .int p1, .int p2] M r M := by
  unfold fX2_hasItem at hf
  refine mw_enterZ RX2 rfl (by decide +kernel) (Nat.le_of_ble_eq_true rfl) (fun {p e s m args below meth c} ls A Q hC hret hM hl => ?_)
  have hl : lv_has ls 3 [(0, .ref (mvA V 56)), (1, .int p1), (2, .int p2)] := hl
  refine lv_iload_n hC.1 hC.2.1 dX2_hasItem_0 rfl (lv_at hl 2 rfl) ?_
  refine lv_if_lt (tgt := 18) hC.1 hC.2.1 dX2_hasItem_1 (by decide) (fun hc3 => ?_) (fun hc3 => ?_)
  · have hf := o_t hc3 hf
    refine lv_iconst hC.1 hC.2.1 dX2_hasItem_18 ci_0 ?_
    exact hret (Option.some.inj hf) (Or.inl rfl) hM dX2_hasItem_19
  · have hf := o_f hc3 hf
    refine lv_iload_n hC.1 hC.2.1 dX2_hasItem_4 rfl (lv_at hl 2 rfl) ?_
    refine lv_aload_n hC.1 hC.2.1 dX2_hasItem_5 rfl (lv_at hl 0 rfl) ?_
    refine mw_get (v := .ref (mvA V 61)) hC hM 56 (Nat.le_of_ble_eq_true rfl) (eC_56 V) inW2 rfl 4 (by decide) q_401 (fun _ h9 => h9) rfl dX2_hasItem_6 ?_
    refine lv_iload_n hC.1 hC.2.1 dX2_hasItem_9 rfl (lv_at hl 1 rfl) ?_
    obtain ⟨hg1, hf⟩ := o_g hf
    refine mw_iald hC hM 61 0 (Nat.le_of_ble_eq_true rfl) (eC_61 V) rfl hg1 dX2_hasItem_10 ?_
    refine lv_icmp_ge (tgt := 18) hC.1 hC.2.1 dX2_hasItem_11 (by decide) (fun hc2 => ?_) (fun hc2 => ?_)
    · have hf := o_t hc2 hf
      refine lv_iconst hC.1 hC.2.1 dX2_hasItem_18 ci_0 ?_
      exact hret (Option.some.inj hf) (Or.inl rfl) hM dX2_hasItem_19
    · have hf := o_f hc2 hf
      refine lv_iconst hC.1 hC.2.1 dX2_hasItem_14 ci_1 ?_
      refine lv_goto (tgt := 19) hC.1 hC.2.1 dX2_hasItem_15 (by decide) ?_
      exact hret (Option.some.inj hf) (Or.inr rfl) hM dX2_hasItem_19
set_option maxHeartbeats 4000000 in
set_option maxRecDepth 100000 in
theorem mcX2_set (V : mV) (l : Launch) (M : mM) (p1 : Int32) (p2 : Int32) (p3 : Int32) (r : Int32) (M' : mM) (hf : fX2_set M p1 p2 p3 = some (r, M')) : UC V l yX2_set cX2_set 5 ({ frames := 0, cells := 0, slots := 0, locals := 0 } : Room) [.ref (mvA V 56), .int p1, .int p2, .int p3] M M' := by
  unfold fX2_set at hf
  refine mw_enterV RX2 rfl (by decide +kernel) (Nat.le_of_ble_eq_true rfl) (fun {p e s m args below meth c} ls A Q hC hret hM hl => ?_)
  have hl : lv_has ls 5 [(0, .ref (mvA V 56)), (1, .int p1), (2, .int p2), (3, .int p3)] := hl
  have hL57 : ∀ (M : mM) (x1 : Int32) (x2 : Int32) (x4 : Int32) (H : Heap) (locs : List Loc) (ls : Array Slot), fX2_set_L57 M x1 x2 x4 = some (r, M') → PC V M A s H locs → lv_has ls 5 [(0, .ref (mvA V 56)), (1, .int x1), (2, .int x2), (4, .int x4)] → W p l e ({ frames := 0, cells := 0, slots := 0, locals := 0 } : Room) s m args below meth c H locs 0 0 Q (F0 m 57 ls []) := by
    intro M x1 x2 x4 H locs ls hf hM hl
    unfold fX2_set_L57 at hf
    refine lv_aload_n hC.1 hC.2.1 dX2_set_57 rfl (lv_at hl 0 rfl) ?_
    refine mw_get (v := .ref (mvA V 62)) hC hM 56 (Nat.le_of_ble_eq_true rfl) (eC_56 V) inW2 rfl 5 (by decide) q_402 (fun _ h9 => h9) rfl dX2_set_58 ?_
    refine lv_iload_n hC.1 hC.2.1 dX2_set_61 rfl (lv_at hl 1 rfl) ?_
    refine lv_bipush hC.1 hC.2.1 dX2_set_62 cb_40 ?_
    refine lv_imul hC.1 hC.2.1 dX2_set_64 ?_
    refine lv_iload_n hC.1 hC.2.1 dX2_set_65 rfl (lv_at hl 2 rfl) ?_
    refine lv_iadd hC.1 hC.2.1 dX2_set_66 ?_
    refine lv_iload hC.1 hC.2.1 dX2_set_67 (lv_at hl 3 rfl) ?_
    obtain ⟨hg8, hf⟩ := o_g hf
    refine mw_iast hC hM 62 0 (Nat.le_of_ble_eq_true rfl) (eC_62 V) rfl hg8 dX2_set_69 (fun H locs hM => ?_)
    exact hret (o_r2 hf hM) dX2_set_70
  have hL55 : ∀ (M : mM) (x1 : Int32) (x2 : Int32) (t0 : Int32) (H : Heap) (locs : List Loc) (ls : Array Slot), fX2_set_L55 M x1 x2 t0 = some (r, M') → PC V M A s H locs → lv_has ls 5 [(0, .ref (mvA V 56)), (1, .int x1), (2, .int x2)] → W p l e ({ frames := 0, cells := 0, slots := 0, locals := 0 } : Room) s m args below meth c H locs 0 0 Q (F0 m 55 ls [.int t0]) := by
    intro M x1 x2 t0 H locs ls hf hM hl
    unfold fX2_set_L55 at hf
    refine lv_istore (lv' := [(4, .int t0), (0, .ref (mvA V 56)), (1, .int x1), (2, .int x2)]) hC.1 hC.2.1 dX2_set_55 hl (Nat.le_of_ble_eq_true rfl) rfl (fun ls hl => ?_)
    exact hL57 _ _ _ _ _ _ _ hf hM (lv_sub hl [1, 2, 3, 0] rfl)
  refine lv_iload_n hC.1 hC.2.1 dX2_set_0 rfl (lv_at hl 3 rfl) ?_
  refine lv_istore (lv' := [(4, .int p3), (0, .ref (mvA V 56)), (1, .int p1), (2, .int p2), (3, .int p3)]) hC.1 hC.2.1 dX2_set_1 hl (Nat.le_of_ble_eq_true rfl) rfl (fun ls hl => ?_)
  refine lv_aload_n hC.1 hC.2.1 dX2_set_3 rfl (lv_at hl 1 rfl) ?_
  refine mw_get (v := .ref (mvA V 57)) hC hM 56 (Nat.le_of_ble_eq_true rfl) (eC_56 V) inW2 rfl 0 (by decide) q_393 (fun _ h9 => h9) rfl dX2_set_4 ?_
  refine lv_iload_n hC.1 hC.2.1 dX2_set_7 rfl (lv_at hl 2 rfl) ?_
  obtain ⟨hg1, hf⟩ := o_g hf
  refine mw_iald hC hM 57 0 (Nat.le_of_ble_eq_true rfl) (eC_57 V) rfl hg1 dX2_set_8 ?_
  refine lv_if_ne (tgt := 19) hC.1 hC.2.1 dX2_set_9 (by decide) (fun hc7 => ?_) (fun hc7 => ?_)
  · have hf := o_f hc7 hf
    refine lv_aload_n hC.1 hC.2.1 dX2_set_19 rfl (lv_at hl 1 rfl) ?_
    refine mw_get (v := .ref (mvA V 57)) hC hM 56 (Nat.le_of_ble_eq_true rfl) (eC_56 V) inW2 rfl 0 (by decide) q_393 (fun _ h9 => h9) rfl dX2_set_20 ?_
    refine lv_iload_n hC.1 hC.2.1 dX2_set_23 rfl (lv_at hl 2 rfl) ?_
    obtain ⟨hg2, hf⟩ := o_g hf
    refine mw_iald hC hM 57 0 (Nat.le_of_ble_eq_true rfl) (eC_57 V) rfl hg2 dX2_set_24 ?_
    refine lv_iconst hC.1 hC.2.1 dX2_set_25 ci_1 ?_
    refine lv_icmp_ne (tgt := 36) hC.1 hC.2.1 dX2_set_26 (by decide) (fun hc6 => ?_) (fun hc6 => ?_)
    · have hf := o_f hc6 hf
      refine lv_aload_n hC.1 hC.2.1 dX2_set_36 rfl (lv_at hl 1 rfl) ?_
      refine mw_get (v := .ref (mvA V 57)) hC hM 56 (Nat.le_of_ble_eq_true rfl) (eC_56 V) inW2 rfl 0 (by decide) q_393 (fun _ h9 => h9) rfl dX2_set_37 ?_
      refine lv_iload_n hC.1 hC.2.1 dX2_set_40 rfl (lv_at hl 2 rfl) ?_
      obtain ⟨hg3, hf⟩ := o_g hf
      refine mw_iald hC hM 57 0 (Nat.le_of_ble_eq_true rfl) (eC_57 V) rfl hg3 dX2_set_41 ?_
      refine lv_iconst hC.1 hC.2.1 dX2_set_42 ci_4 ?_
      refine lv_icmp_ne (tgt := 57) hC.1 hC.2.1 dX2_set_43 (by decide) (fun hc5 => ?_) (fun hc5 => ?_)
      · have hf := o_f hc5 hf
        exact hL57 _ _ _ _ _ _ _ hf hM (lv_sub hl [1, 2, 3, 0] rfl)
      · have hf := o_t hc5 hf
        refine lv_iload_n hC.1 hC.2.1 dX2_set_46 rfl (lv_at hl 4 rfl) ?_
        refine lv_if_eq (tgt := 54) hC.1 hC.2.1 dX2_set_47 (by decide) (fun hc4 => ?_) (fun hc4 => ?_)
        · have hf := o_t hc4 hf
          refine lv_iconst hC.1 hC.2.1 dX2_set_54 ci_0 ?_
          exact hL55 _ _ _ _ _ _ _ hf hM (lv_sub hl [1, 2, 3] rfl)
        · have hf := o_f hc4 hf
          refine lv_iconst hC.1 hC.2.1 dX2_set_50 ci_1 ?_
          refine lv_goto (tgt := 55) hC.1 hC.2.1 dX2_set_51 (by decide) ?_
          exact hL55 _ _ _ _ _ _ _ hf hM (lv_sub hl [1, 2, 3] rfl)
    · have hf := o_t hc6 hf
      refine lv_iload_n hC.1 hC.2.1 dX2_set_29 rfl (lv_at hl 4 rfl) ?_
      refine lv_i2s (v := (i2s p3)) hC.1 hC.2.1 dX2_set_30 rfl ?_
      refine lv_istore (lv' := [(4, .int (i2s p3)), (0, .ref (mvA V 56)), (1, .int p1), (2, .int p2), (3, .int p3)]) hC.1 hC.2.1 dX2_set_31 hl (Nat.le_of_ble_eq_true rfl) rfl (fun ls hl => ?_)
      refine lv_goto (tgt := 57) hC.1 hC.2.1 dX2_set_33 (by decide) ?_
      exact hL57 _ _ _ _ _ _ _ hf hM (lv_sub hl [1, 2, 3, 0] rfl)
  · have hf := o_t hc7 hf
    refine lv_iload_n hC.1 hC.2.1 dX2_set_12 rfl (lv_at hl 4 rfl) ?_
    refine lv_i2b (v := (i2b p3)) hC.1 hC.2.1 dX2_set_13 rfl ?_
    refine lv_istore (lv' := [(4, .int (i2b p3)), (0, .ref (mvA V 56)), (1, .int p1), (2, .int p2), (3, .int p3)]) hC.1 hC.2.1 dX2_set_14 hl (Nat.le_of_ble_eq_true rfl) rfl (fun ls hl => ?_)
    refine lv_goto (tgt := 57) hC.1 hC.2.1 dX2_set_16 (by decide) ?_
    exact hL57 _ _ _ _ _ _ _ hf hM (lv_sub hl [1, 2, 3, 0] rfl)
set_option maxHeartbeats 4000000 in
set_option maxRecDepth 100000 in
theorem mcX11_write (V : mV) (l : Launch) (M : mM) (p1 : Int32) (p2 : Int32) (p3 : Int32) (r : Int32) (M' : mM) (hf : fX11_write M p1 p2 p3 = some (r, M')) : IC V l yX11_write cX11_write 4 ({ frames := 1, cells := 0, slots := 0, locals := 24 } : Room) [.ref (mvA V 0), .int p1, .int p2, .int p3] M r M' := by
  unfold fX11_write at hf
  refine mw_enterI RX11 rfl (by decide +kernel) (Nat.le_of_ble_eq_true rfl) (fun {p e s m args below meth c} ls A Q hC hret hM hl => ?_)
  have hl : lv_has ls 4 [(0, .ref (mvA V 0)), (1, .int p1), (2, .int p2), (3, .int p3)] := hl
  refine lv_iload_n hC.1 hC.2.1 dX11_write_0 rfl (lv_at hl 1 rfl) ?_
  refine lv_iconst hC.1 hC.2.1 dX11_write_1 ci_0 ?_
  refine lv_iconst hC.1 hC.2.1 dX11_write_2 ci_3 ?_
  refine mw_cSi (As := [.int p1, .int 0, .int 3]) (rest := []) hC hM (mcX11_isIn V l M p1 0 3 _ rfl) (mw_kS hC q_468 q_469 q_107 q_470 ⟨rfl, rfl⟩ kS_X11_isIn ⟨Nat.le_of_ble_eq_true rfl, Nat.le_of_ble_eq_true rfl⟩) rfl rfl (Nat.le_of_ble_eq_true rfl) hl.1 dX11_write_3 (fun H locs hM hb1 => ?_)
  refine lv_if_ne (tgt := 11) hC.1 hC.2.1 dX11_write_6 (by decide) (fun hc11 => ?_) (fun hc11 => ?_)
  · have hf := o_f hc11 hf
    refine lv_aload_n hC.1 hC.2.1 dX11_write_11 rfl (lv_at hl 0 rfl) ?_
    refine mw_get (v := .ref (mvA V 56)) hC hM 0 (Nat.le_of_ble_eq_true rfl) (eC_0 V) inW11 rfl 6 (by decide) q_430 (fun _ h9 => h9) rfl dX11_write_12 ?_
    refine mw_get (v := .ref (mvA V 57)) hC hM 56 (Nat.le_of_ble_eq_true rfl) (eC_56 V) inW2 rfl 0 (by decide) q_394 (fun _ h9 => h9) rfl dX11_write_15 ?_
    refine lv_iload_n hC.1 hC.2.1 dX11_write_18 rfl (lv_at hl 1 rfl) ?_
    obtain ⟨hg2, hf⟩ := o_g hf
    refine mw_iald hC hM 57 0 (Nat.le_of_ble_eq_true rfl) (eC_57 V) rfl hg2 dX11_write_19 ?_
    refine lv_iconst hC.1 hC.2.1 dX11_write_20 ci_m1 ?_
    refine lv_icmp_ne (tgt := 27) hC.1 hC.2.1 dX11_write_21 (by decide) (fun hc10 => ?_) (fun hc10 => ?_)
    · have hf := o_f hc10 hf
      refine lv_aload_n hC.1 hC.2.1 dX11_write_27 rfl (lv_at hl 0 rfl) ?_
      refine mw_get (v := .ref (mvA V 56)) hC hM 0 (Nat.le_of_ble_eq_true rfl) (eC_0 V) inW11 rfl 6 (by decide) q_430 (fun _ h9 => h9) rfl dX11_write_28 ?_
      refine lv_iload_n hC.1 hC.2.1 dX11_write_31 rfl (lv_at hl 1 rfl) ?_
      refine lv_iload_n hC.1 hC.2.1 dX11_write_32 rfl (lv_at hl 2 rfl) ?_
      obtain ⟨r3, hq4, hf⟩ := o_b hf
      refine mw_cVi (As := [.int p1, .int p2]) (rest := []) hC hM (mcX2_hasItem V l M p1 p2 r3 hq4) (mw_kV hC q_972 q_973 q_974 q_118 q_975 ⟨rfl, rfl⟩ kV_X2_hasItem ⟨Nat.le_of_ble_eq_true rfl, Nat.le_of_ble_eq_true rfl⟩) (Nat.le_of_ble_eq_true rfl) (eC_56 V) rfl rfl rfl (Nat.le_of_ble_eq_true rfl) hl.1 dX11_write_33 (fun H locs hM hb5 => ?_)
      refine lv_if_ne (tgt := 42) hC.1 hC.2.1 dX11_write_36 (by decide) (fun hc9 => ?_) (fun hc9 => ?_)
      · have hf := o_f hc9 hf
        refine lv_aload_n hC.1 hC.2.1 dX11_write_42 rfl (lv_at hl 0 rfl) ?_
        refine mw_get (v := .ref (mvA V 56)) hC hM 0 (Nat.le_of_ble_eq_true rfl) (eC_0 V) inW11 rfl 6 (by decide) q_430 (fun _ h9 => h9) rfl dX11_write_43 ?_
        refine lv_iload_n hC.1 hC.2.1 dX11_write_46 rfl (lv_at hl 1 rfl) ?_
        refine lv_iload_n hC.1 hC.2.1 dX11_write_47 rfl (lv_at hl 2 rfl) ?_
        refine lv_iload_n hC.1 hC.2.1 dX11_write_48 rfl (lv_at hl 3 rfl) ?_
        obtain ⟨r6, M8, hq7, hf⟩ := o_b2 hf
        refine mw_cVv (As := [.int p1, .int p2, .int p3]) (rest := []) hC hM (mcX2_set V l M p1 p2 p3 r6 M8 hq7) (mw_kV hC q_976 q_977 q_978 q_118 q_979 ⟨rfl, rfl⟩ kV_X2_set ⟨Nat.le_of_ble_eq_true rfl, Nat.le_of_ble_eq_true rfl⟩) (Nat.le_of_ble_eq_true rfl) (eC_56 V) rfl rfl rfl (Nat.le_of_ble_eq_true rfl) hl.1 dX11_write_49 (fun H locs hM => ?_)
        refine lv_iconst hC.1 hC.2.1 dX11_write_52 ci_1 ?_
        exact hret (o_r1 hf) (o_r2 hf hM) dX11_write_53
      · have hf := o_t hc9 hf
        refine lv_bipush hC.1 hC.2.1 dX11_write_39 cb_m12 ?_
        exact hret (o_r1 hf) (o_r2 hf hM) dX11_write_41
    · have hf := o_t hc10 hf
      refine lv_bipush hC.1 hC.2.1 dX11_write_24 cb_m11 ?_
      exact hret (o_r1 hf) (o_r2 hf hM) dX11_write_26
  · have hf := o_t hc11 hf
    refine lv_iconst hC.1 hC.2.1 dX11_write_9 ci_m1 ?_
    exact hret (o_r1 hf) (o_r2 hf hM) dX11_write_10
set_option maxHeartbeats 4000000 in
set_option maxRecDepth 100000 in
theorem mcX2_refusalAs (V : mV) (l : Launch) (M : mM) (p1 : Int32) (p2 : Int32) (r : Int32) (hf : fX2_refusalAs M p1 p2 = some r) : IC V l yX2_refusalAs cX2_refusalAs 3 ({ frames := 0, cells := 0, slots := 0, locals := 0 } : Room) [.ref (mvA V 56), .int p1, .int p2] M r M := by
  unfold fX2_refusalAs at hf
  refine mw_enterI RX2 rfl (by decide +kernel) (Nat.le_of_ble_eq_true rfl) (fun {p e s m args below meth c} ls A Q hC hret hM hl => ?_)
  have hl : lv_has ls 3 [(0, .ref (mvA V 56)), (1, .int p1), (2, .int p2)] := hl
  refine lv_aload_n hC.1 hC.2.1 dX2_refusalAs_0 rfl (lv_at hl 0 rfl) ?_
  refine mw_get (v := .ref (mvA V 57)) hC hM 56 (Nat.le_of_ble_eq_true rfl) (eC_56 V) inW2 rfl 0 (by decide) q_393 (fun _ h9 => h9) rfl dX2_refusalAs_1 ?_
  refine lv_iload_n hC.1 hC.2.1 dX2_refusalAs_4 rfl (lv_at hl 1 rfl) ?_
  obtain ⟨hg1, hf⟩ := o_g hf
  refine mw_iald hC hM 57 0 (Nat.le_of_ble_eq_true rfl) (eC_57 V) rfl hg1 dX2_refusalAs_5 ?_
  refine lv_iconst hC.1 hC.2.1 dX2_refusalAs_6 ci_m1 ?_
  refine lv_icmp_ne (tgt := 15) hC.1 hC.2.1 dX2_refusalAs_7 (by decide) (fun hc4 => ?_) (fun hc4 => ?_)
  · have hf := o_f hc4 hf
    refine lv_aload_n hC.1 hC.2.1 dX2_refusalAs_15 rfl (lv_at hl 0 rfl) ?_
    refine mw_get (v := .ref (mvA V 57)) hC hM 56 (Nat.le_of_ble_eq_true rfl) (eC_56 V) inW2 rfl 0 (by decide) q_393 (fun _ h9 => h9) rfl dX2_refusalAs_16 ?_
    refine lv_iload_n hC.1 hC.2.1 dX2_refusalAs_19 rfl (lv_at hl 1 rfl) ?_
    obtain ⟨hg2, hf⟩ := o_g hf
    refine mw_iald hC hM 57 0 (Nat.le_of_ble_eq_true rfl) (eC_57 V) rfl hg2 dX2_refusalAs_20 ?_
    refine lv_iload_n hC.1 hC.2.1 dX2_refusalAs_21 rfl (lv_at hl 2 rfl) ?_
    refine lv_icmp_ne (tgt := 29) hC.1 hC.2.1 dX2_refusalAs_22 (by decide) (fun hc3 => ?_) (fun hc3 => ?_)
    · have hf := o_f hc3 hf
      refine lv_bipush hC.1 hC.2.1 dX2_refusalAs_29 cb_m13 ?_
      exact hret (Option.some.inj hf) hM dX2_refusalAs_31
    · have hf := o_t hc3 hf
      refine lv_iconst hC.1 hC.2.1 dX2_refusalAs_25 ci_0 ?_
      refine lv_goto (tgt := 31) hC.1 hC.2.1 dX2_refusalAs_26 (by decide) ?_
      exact hret (Option.some.inj hf) hM dX2_refusalAs_31
  · have hf := o_t hc4 hf
    refine lv_bipush hC.1 hC.2.1 dX2_refusalAs_10 cb_m11 ?_
    refine lv_goto (tgt := 31) hC.1 hC.2.1 dX2_refusalAs_12 (by decide) ?_
    exact hret (Option.some.inj hf) hM dX2_refusalAs_31
set_option maxHeartbeats 4000000 in
set_option maxRecDepth 100000 in
theorem mcX2_get (V : mV) (l : Launch) (M : mM) (p1 : Int32) (p2 : Int32) (r : Int32) (hf : fX2_get M p1 p2 = some r) : IC V l yX2_get cX2_get 3 ({ frames := 0, cells := 0, slots := 0, locals := 0 } : Room) [.ref (mvA V 56), .int p1, .int p2] M r M := by
  unfold fX2_get at hf
  refine mw_enterI RX2 rfl (by decide +kernel) (Nat.le_of_ble_eq_true rfl) (fun {p e s m args below meth c} ls A Q hC hret hM hl => ?_)
  have hl : lv_has ls 3 [(0, .ref (mvA V 56)), (1, .int p1), (2, .int p2)] := hl
  refine lv_aload_n hC.1 hC.2.1 dX2_get_0 rfl (lv_at hl 0 rfl) ?_
  refine mw_get (v := .ref (mvA V 62)) hC hM 56 (Nat.le_of_ble_eq_true rfl) (eC_56 V) inW2 rfl 5 (by decide) q_402 (fun _ h9 => h9) rfl dX2_get_1 ?_
  refine lv_iload_n hC.1 hC.2.1 dX2_get_4 rfl (lv_at hl 1 rfl) ?_
  refine lv_bipush hC.1 hC.2.1 dX2_get_5 cb_40 ?_
  refine lv_imul hC.1 hC.2.1 dX2_get_7 ?_
  refine lv_iload_n hC.1 hC.2.1 dX2_get_8 rfl (lv_at hl 2 rfl) ?_
  refine lv_iadd hC.1 hC.2.1 dX2_get_9 ?_
  obtain ⟨hg1, hf⟩ := o_g hf
  refine mw_iald hC hM 62 0 (Nat.le_of_ble_eq_true rfl) (eC_62 V) rfl hg1 dX2_get_10 ?_
  exact hret (Option.some.inj hf) hM dX2_get_11
set_option maxHeartbeats 4000000 in
set_option maxRecDepth 100000 in
theorem mcX11_item (V : mV) (l : Launch) (M : mM) (p1 : Int32) (p2 : Int32) (p3 : Int32) (r : Int32) (hf : fX11_item M p1 p2 p3 = some r) : IC V l yX11_item cX11_item 5 ({ frames := 1, cells := 0, slots := 0, locals := 22 } : Room) [.ref (mvA V 0), .int p1, .int p2, .int p3] M r M := by
  unfold fX11_item at hf
  refine mw_enterI RX11 rfl (by decide +kernel) (Nat.le_of_ble_eq_true rfl) (fun {p e s m args below meth c} ls A Q hC hret hM hl => ?_)
  have hl : lv_has ls 5 [(0, .ref (mvA V 0)), (1, .int p1), (2, .int p2), (3, .int p3)] := hl
  refine lv_iload_n hC.1 hC.2.1 dX11_item_0 rfl (lv_at hl 1 rfl) ?_
  refine lv_iconst hC.1 hC.2.1 dX11_item_1 ci_0 ?_
  refine lv_iconst hC.1 hC.2.1 dX11_item_2 ci_3 ?_
  refine mw_cSi (As := [.int p1, .int 0, .int 3]) (rest := []) hC hM (mcX11_isIn V l M p1 0 3 _ rfl) (mw_kS hC q_468 q_469 q_107 q_470 ⟨rfl, rfl⟩ kS_X11_isIn ⟨Nat.le_of_ble_eq_true rfl, Nat.le_of_ble_eq_true rfl⟩) rfl rfl (Nat.le_of_ble_eq_true rfl) hl.1 dX11_item_3 (fun H locs hM hb1 => ?_)
  refine lv_if_eq (tgt := 18) hC.1 hC.2.1 dX11_item_6 (by decide) (fun hc13 => ?_) (fun hc13 => ?_)
  · have hf := o_t hc13 hf
    refine lv_iconst hC.1 hC.2.1 dX11_item_18 ci_m1 ?_
    exact hret (Option.some.inj hf) hM dX11_item_19
  · have hf := o_f hc13 hf
    refine lv_iload_n hC.1 hC.2.1 dX11_item_9 rfl (lv_at hl 2 rfl) ?_
    refine lv_iconst hC.1 hC.2.1 dX11_item_10 ci_0 ?_
    refine lv_iconst hC.1 hC.2.1 dX11_item_11 ci_4 ?_
    refine mw_cSi (As := [.int p2, .int 0, .int 4]) (rest := []) hC hM (mcX11_isIn V l M p2 0 4 _ rfl) (mw_kS hC q_468 q_469 q_107 q_470 ⟨rfl, rfl⟩ kS_X11_isIn ⟨Nat.le_of_ble_eq_true rfl, Nat.le_of_ble_eq_true rfl⟩) rfl rfl (Nat.le_of_ble_eq_true rfl) hl.1 dX11_item_12 (fun H locs hM hb2 => ?_)
    refine lv_if_ne (tgt := 20) hC.1 hC.2.1 dX11_item_15 (by decide) (fun hc12 => ?_) (fun hc12 => ?_)
    · have hf := o_f hc12 hf
      refine lv_aload_n hC.1 hC.2.1 dX11_item_20 rfl (lv_at hl 0 rfl) ?_
      refine mw_get (v := .ref (mvA V 56)) hC hM 0 (Nat.le_of_ble_eq_true rfl) (eC_0 V) inW11 rfl 6 (by decide) q_430 (fun _ h9 => h9) rfl dX11_item_21 ?_
      refine lv_iload_n hC.1 hC.2.1 dX11_item_24 rfl (lv_at hl 1 rfl) ?_
      refine lv_iload_n hC.1 hC.2.1 dX11_item_25 rfl (lv_at hl 2 rfl) ?_
      obtain ⟨r3, hq4, hf⟩ := o_b hf
      refine mw_cVi (As := [.int p1, .int p2]) (rest := []) hC hM (mcX2_refusalAs V l M p1 p2 r3 hq4) (mw_kV hC q_984 q_985 q_986 q_118 q_987 ⟨rfl, rfl⟩ kV_X2_refusalAs ⟨Nat.le_of_ble_eq_true rfl, Nat.le_of_ble_eq_true rfl⟩) (Nat.le_of_ble_eq_true rfl) (eC_56 V) rfl rfl rfl (Nat.le_of_ble_eq_true rfl) hl.1 dX11_item_26 (fun H locs hM _ => ?_)
      refine lv_istore (lv' := [(4, .int r3), (0, .ref (mvA V 0)), (1, .int p1), (2, .int p2), (3, .int p3)]) hC.1 hC.2.1 dX11_item_29 hl (Nat.le_of_ble_eq_true rfl) rfl (fun ls hl => ?_)
      refine lv_iload hC.1 hC.2.1 dX11_item_31 (lv_at hl 0 rfl) ?_
      refine lv_if_ge (tgt := 39) hC.1 hC.2.1 dX11_item_33 (by decide) (fun hc11 => ?_) (fun hc11 => ?_)
      · have hf := o_t hc11 hf
        refine lv_aload_n hC.1 hC.2.1 dX11_item_39 rfl (lv_at hl 1 rfl) ?_
        refine mw_get (v := .ref (mvA V 56)) hC hM 0 (Nat.le_of_ble_eq_true rfl) (eC_0 V) inW11 rfl 6 (by decide) q_430 (fun _ h9 => h9) rfl dX11_item_40 ?_
        refine lv_iload_n hC.1 hC.2.1 dX11_item_43 rfl (lv_at hl 2 rfl) ?_
        refine lv_iload_n hC.1 hC.2.1 dX11_item_44 rfl (lv_at hl 4 rfl) ?_
        obtain ⟨r5, hq6, hf⟩ := o_b hf
        refine mw_cVi (As := [.int p1, .int p3]) (rest := []) hC hM (mcX2_hasItem V l M p1 p3 r5 hq6) (mw_kV hC q_972 q_973 q_974 q_118 q_975 ⟨rfl, rfl⟩ kV_X2_hasItem ⟨Nat.le_of_ble_eq_true rfl, Nat.le_of_ble_eq_true rfl⟩) (Nat.le_of_ble_eq_true rfl) (eC_56 V) rfl rfl rfl (Nat.le_of_ble_eq_true rfl) hl.1 dX11_item_45 (fun H locs hM hb7 => ?_)
        refine lv_if_eq (tgt := 63) hC.1 hC.2.1 dX11_item_48 (by decide) (fun hc10 => ?_) (fun hc10 => ?_)
        · have hf := o_t hc10 hf
          refine lv_bipush hC.1 hC.2.1 dX11_item_63 cb_m12 ?_
          exact hret (Option.some.inj hf) hM dX11_item_65
        · have hf := o_f hc10 hf
          refine lv_aload_n hC.1 hC.2.1 dX11_item_51 rfl (lv_at hl 1 rfl) ?_
          refine mw_get (v := .ref (mvA V 56)) hC hM 0 (Nat.le_of_ble_eq_true rfl) (eC_0 V) inW11 rfl 6 (by decide) q_430 (fun _ h9 => h9) rfl dX11_item_52 ?_
          refine lv_iload_n hC.1 hC.2.1 dX11_item_55 rfl (lv_at hl 2 rfl) ?_
          refine lv_iload_n hC.1 hC.2.1 dX11_item_56 rfl (lv_at hl 4 rfl) ?_
          obtain ⟨r8, hq9, hf⟩ := o_b hf
          refine mw_cVi (As := [.int p1, .int p3]) (rest := []) hC hM (mcX2_get V l M p1 p3 r8 hq9) (mw_kV hC q_988 q_989 q_990 q_118 q_991 ⟨rfl, rfl⟩ kV_X2_get ⟨Nat.le_of_ble_eq_true rfl, Nat.le_of_ble_eq_true rfl⟩) (Nat.le_of_ble_eq_true rfl) (eC_56 V) rfl rfl rfl (Nat.le_of_ble_eq_true rfl) hl.1 dX11_item_57 (fun H locs hM _ => ?_)
          refine lv_goto (tgt := 65) hC.1 hC.2.1 dX11_item_60 (by decide) ?_
          exact hret (Option.some.inj hf) hM dX11_item_65
      · have hf := o_f hc11 hf
        refine lv_iload hC.1 hC.2.1 dX11_item_36 (lv_at hl 0 rfl) ?_
        exact hret (Option.some.inj hf) hM dX11_item_38
    · have hf := o_t hc12 hf
      refine lv_iconst hC.1 hC.2.1 dX11_item_18 ci_m1 ?_
      exact hret (Option.some.inj hf) hM dX11_item_19
set_option maxHeartbeats 4000000 in
set_option maxRecDepth 100000 in
theorem mcX11_refusalOfActs (V : mV) (l : Launch) (M : mM) (p1 : Int32) (p2 : Int32) (r : Int32) (hf : fX11_refusalOfActs M p1 p2 = some r) : IC V l yX11_refusalOfActs cX11_refusalOfActs 3 ({ frames := 1, cells := 0, slots := 0, locals := 22 } : Room) [.ref (mvA V 0), .int p1, .int p2] M r M := by
  unfold fX11_refusalOfActs at hf
  refine mw_enterI RX11 rfl (by decide +kernel) (Nat.le_of_ble_eq_true rfl) (fun {p e s m args below meth c} ls A Q hC hret hM hl => ?_)
  have hl : lv_has ls 3 [(0, .ref (mvA V 0)), (1, .int p1), (2, .int p2)] := hl
  refine lv_iload_n hC.1 hC.2.1 dX11_refusalOfActs_0 rfl (lv_at hl 1 rfl) ?_
  refine lv_iconst hC.1 hC.2.1 dX11_refusalOfActs_1 ci_0 ?_
  refine lv_iconst hC.1 hC.2.1 dX11_refusalOfActs_2 ci_3 ?_
  refine mw_cSi (As := [.int p1, .int 0, .int 3]) (rest := []) hC hM (mcX11_isIn V l M p1 0 3 _ rfl) (mw_kS hC q_468 q_469 q_107 q_470 ⟨rfl, rfl⟩ kS_X11_isIn ⟨Nat.le_of_ble_eq_true rfl, Nat.le_of_ble_eq_true rfl⟩) rfl rfl (Nat.le_of_ble_eq_true rfl) hl.1 dX11_refusalOfActs_3 (fun H locs hM hb1 => ?_)
  refine lv_if_eq (tgt := 19) hC.1 hC.2.1 dX11_refusalOfActs_6 (by decide) (fun hc6 => ?_) (fun hc6 => ?_)
  · have hf := o_t hc6 hf
    refine lv_iconst hC.1 hC.2.1 dX11_refusalOfActs_19 ci_m1 ?_
    exact hret (Option.some.inj hf) hM dX11_refusalOfActs_20
  · have hf := o_f hc6 hf
    refine lv_iload_n hC.1 hC.2.1 dX11_refusalOfActs_9 rfl (lv_at hl 2 rfl) ?_
    refine lv_iconst hC.1 hC.2.1 dX11_refusalOfActs_10 ci_0 ?_
    refine lv_bipush hC.1 hC.2.1 dX11_refusalOfActs_11 cb_20 ?_
    refine mw_cSi (As := [.int p2, .int 0, .int 20]) (rest := []) hC hM (mcX11_isIn V l M p2 0 20 _ rfl) (mw_kS hC q_468 q_469 q_107 q_470 ⟨rfl, rfl⟩ kS_X11_isIn ⟨Nat.le_of_ble_eq_true rfl, Nat.le_of_ble_eq_true rfl⟩) rfl rfl (Nat.le_of_ble_eq_true rfl) hl.1 dX11_refusalOfActs_13 (fun H locs hM hb2 => ?_)
    refine lv_if_ne (tgt := 21) hC.1 hC.2.1 dX11_refusalOfActs_16 (by decide) (fun hc5 => ?_) (fun hc5 => ?_)
    · have hf := o_f hc5 hf
      refine lv_aload_n hC.1 hC.2.1 dX11_refusalOfActs_21 rfl (lv_at hl 0 rfl) ?_
      refine mw_get (v := .ref (mvA V 56)) hC hM 0 (Nat.le_of_ble_eq_true rfl) (eC_0 V) inW11 rfl 6 (by decide) q_430 (fun _ h9 => h9) rfl dX11_refusalOfActs_22 ?_
      refine lv_iload_n hC.1 hC.2.1 dX11_refusalOfActs_25 rfl (lv_at hl 1 rfl) ?_
      refine lv_iconst hC.1 hC.2.1 dX11_refusalOfActs_26 ci_0 ?_
      obtain ⟨r3, hq4, hf⟩ := o_b hf
      refine mw_cVi (As := [.int p1, .int 0]) (rest := []) hC hM (mcX2_refusalAs V l M p1 0 r3 hq4) (mw_kV hC q_984 q_985 q_986 q_118 q_987 ⟨rfl, rfl⟩ kV_X2_refusalAs ⟨Nat.le_of_ble_eq_true rfl, Nat.le_of_ble_eq_true rfl⟩) (Nat.le_of_ble_eq_true rfl) (eC_56 V) rfl rfl rfl (Nat.le_of_ble_eq_true rfl) hl.1 dX11_refusalOfActs_27 (fun H locs hM _ => ?_)
      exact hret (Option.some.inj hf) hM dX11_refusalOfActs_30
    · have hf := o_t hc5 hf
      refine lv_iconst hC.1 hC.2.1 dX11_refusalOfActs_19 ci_m1 ?_
      exact hret (Option.some.inj hf) hM dX11_refusalOfActs_20
set_option maxHeartbeats 4000000 in
set_option maxRecDepth 100000 in
theorem mcX11_goAll (V : mV) (l : Launch) (M : mM) (p1 : Int32) (p2 : Int32) (p3 : Int32) (r : Int32) (M' : mM) (hf : fX11_goAll M p1 p2 p3 = some (r, M')) : IC V l yX11_goAll cX11_goAll 8 ({ frames := 5, cells := 0, slots := 0, locals := 123 } : Room) [.ref (mvA V 0), .int p1, .int p2, .int p3] M r M' := by
  unfold fX11_goAll at hf
  refine mw_enterI RX11 rfl (by decide +kernel) (Nat.le_of_ble_eq_true rfl) (fun {p e s m args below meth c} ls A Q hC hret hM hl => ?_)
  have hl : lv_has ls 8 [(0, .ref (mvA V 0)), (1, .int p1), (2, .int p2), (3, .int p3)] := hl
  have hL22 : ∀ (n : Nat) (M : mM) (x1 : Int32) (x2 : Int32) (x3 : Int32) (x5 : Int32) (x6 : Int32) (H : Heap) (locs : List Loc) (ls : Array Slot), fX11_goAll_L22 n M x1 x2 x3 x5 x6 = some (r, M') → PC V M A s H locs → lv_has ls 8 [(0, .ref (mvA V 0)), (1, .int x1), (2, .int x2), (3, .int x3), (5, .int x5), (6, .int x6)] → W p l e ({ frames := 5, cells := 0, slots := 0, locals := 123 } : Room) s m args below meth c H locs 0 0 Q (F0 m 22 ls []) := by
    intro n13
    induction n13 with
    | zero => intro M x1 x2 x3 x5 x6 H locs ls hf; cases hf
    | succ n13 ih13 =>
      intro M x1 x2 x3 x5 x6 H locs ls hf hM hl
      have hf : fX11_goAll_L22_b (fX11_goAll_L22 n13) M x1 x2 x3 x5 x6 = some (r, M') := hf
      unfold fX11_goAll_L22_b at hf
      have hL129 : ∀ (M : mM) (x1 : Int32) (x2 : Int32) (x3 : Int32) (x6 : Int32) (t0 : Int32) (t1 : Int32) (H : Heap) (locs : List Loc) (ls : Array Slot), fX11_goAll_L129 (fX11_goAll_L22 n13) M x1 x2 x3 x6 t0 t1 = some (r, M') → PC V M A s H locs → lv_has ls 8 [(0, .ref (mvA V 0)), (1, .int x1), (2, .int x2), (3, .int x3), (6, .int x6)] → W p l e ({ frames := 5, cells := 0, slots := 0, locals := 123 } : Room) s m args below meth c H locs 0 0 Q (F0 m 129 ls [.int t1, .int t0]) := by
        intro M x1 x2 x3 x6 t0 t1 H locs ls hf hM hl
        unfold fX11_goAll_L129 at hf
        refine lv_iadd hC.1 hC.2.1 dX11_goAll_129 ?_
        refine lv_istore (lv' := [(5, .int (t0 + t1)), (0, .ref (mvA V 0)), (1, .int x1), (2, .int x2), (3, .int x3), (6, .int x6)]) hC.1 hC.2.1 dX11_goAll_130 hl (Nat.le_of_ble_eq_true rfl) rfl (fun ls hl => ?_)
        refine lv_aload_n hC.1 hC.2.1 dX11_goAll_132 rfl (lv_at hl 1 rfl) ?_
        refine mw_get (v := .ref (mvA V 1)) hC hM 0 (Nat.le_of_ble_eq_true rfl) (eC_0 V) inW11 rfl 0 (by decide) q_424 (fun _ h9 => h9) rfl dX11_goAll_133 ?_
        refine lv_aload_n hC.1 hC.2.1 dX11_goAll_136 rfl (lv_at hl 1 rfl) ?_
        obtain ⟨r18, M20, hq19, hf⟩ := o_b2 hf
        refine mw_cVi (As := []) (rest := [.ref (mvA V 1)]) hC hM (mcX11_turnNow V l M r18 M20 hq19) (mw_kV hC q_736 q_738 q_18 q_107 q_739 ⟨rfl, rfl⟩ kV_X11_turnNow ⟨Nat.le_of_ble_eq_true rfl, Nat.le_of_ble_eq_true rfl⟩) (Nat.le_of_ble_eq_true rfl) (eC_0 V) rfl rfl rfl (Nat.le_of_ble_eq_true rfl) hl.1 dX11_goAll_137 (fun H locs hM _ => ?_)
        obtain ⟨r21, M23, hq22, hf⟩ := o_b2 hf
        refine mw_cVi (As := [.int r18]) (rest := []) hC hM (mcX4_goOn_q1 V l M20 r18 r21 M23 hq22) (mw_kV hC q_743 q_744 q_745 q_109 q_746 ⟨rfl, rfl⟩ kV_X4_goOn ⟨Nat.le_of_ble_eq_true rfl, Nat.le_of_ble_eq_true rfl⟩) (Nat.le_of_ble_eq_true rfl) (eC_1 V) rfl rfl rfl (Nat.le_of_ble_eq_true rfl) hl.1 dX11_goAll_140 (fun H locs hM _ => ?_)
        refine lv_pop hC.1 hC.2.1 dX11_goAll_143 rfl ?_
        refine lv_iinc (k := 5) (lv' := [(6, .int (x6 + 1)), (5, .int (t0 + t1)), (0, .ref (mvA V 0)), (1, .int x1), (2, .int x2), (3, .int x3)]) hC.1 hC.2.1 dX11_goAll_144 hl rfl (inc_1 _) (Nat.le_of_ble_eq_true rfl) rfl (fun ls hl => ?_)
        refine lv_goto (tgt := 22) hC.1 hC.2.1 dX11_goAll_147 (by decide) ?_
        exact ih13 _ _ _ _ _ _ _ _ _ hf hM (lv_sub hl [2, 3, 4, 5, 1, 0] rfl)
      refine lv_iload hC.1 hC.2.1 dX11_goAll_22 (lv_at hl 5 rfl) ?_
      refine lv_iload_n hC.1 hC.2.1 dX11_goAll_24 rfl (lv_at hl 3 rfl) ?_
      refine lv_icmp_ge (tgt := 150) hC.1 hC.2.1 dX11_goAll_25 (by decide) (fun hc17 => ?_) (fun hc17 => ?_)
      · have hf := o_t hc17 hf
        refine lv_iload hC.1 hC.2.1 dX11_goAll_150 (lv_at hl 4 rfl) ?_
        exact hret (o_r1 hf) (o_r2 hf hM) dX11_goAll_152
      · have hf := o_f hc17 hf
        refine lv_aload_n hC.1 hC.2.1 dX11_goAll_28 rfl (lv_at hl 0 rfl) ?_
        refine mw_get (v := .ref (mvA V 56)) hC hM 0 (Nat.le_of_ble_eq_true rfl) (eC_0 V) inW11 rfl 6 (by decide) q_430 (fun _ h9 => h9) rfl dX11_goAll_29 ?_
        refine lv_iload_n hC.1 hC.2.1 dX11_goAll_32 rfl (lv_at hl 1 rfl) ?_
        refine lv_iload_n hC.1 hC.2.1 dX11_goAll_33 rfl (lv_at hl 2 rfl) ?_
        refine lv_iload hC.1 hC.2.1 dX11_goAll_34 (lv_at hl 5 rfl) ?_
        refine lv_iadd hC.1 hC.2.1 dX11_goAll_36 ?_
        obtain ⟨r4, hq5, hf⟩ := o_b hf
        refine mw_cVi (As := [.int x1, .int (x2 + x6)]) (rest := []) hC hM (mcX2_hasItem V l M x1 (x2 + x6) r4 hq5) (mw_kV hC q_972 q_973 q_974 q_118 q_975 ⟨rfl, rfl⟩ kV_X2_hasItem ⟨Nat.le_of_ble_eq_true rfl, Nat.le_of_ble_eq_true rfl⟩) (Nat.le_of_ble_eq_true rfl) (eC_56 V) rfl rfl rfl (Nat.le_of_ble_eq_true rfl) hl.1 dX11_goAll_37 (fun H locs hM hb6 => ?_)
        refine lv_if_ne (tgt := 46) hC.1 hC.2.1 dX11_goAll_40 (by decide) (fun hc16 => ?_) (fun hc16 => ?_)
        · have hf := o_f hc16 hf
          refine lv_aload_n hC.1 hC.2.1 dX11_goAll_46 rfl (lv_at hl 0 rfl) ?_
          refine mw_get (v := .ref (mvA V 56)) hC hM 0 (Nat.le_of_ble_eq_true rfl) (eC_0 V) inW11 rfl 6 (by decide) q_430 (fun _ h9 => h9) rfl dX11_goAll_47 ?_
          refine lv_iload_n hC.1 hC.2.1 dX11_goAll_50 rfl (lv_at hl 1 rfl) ?_
          refine lv_iload_n hC.1 hC.2.1 dX11_goAll_51 rfl (lv_at hl 2 rfl) ?_
          refine lv_iload hC.1 hC.2.1 dX11_goAll_52 (lv_at hl 5 rfl) ?_
          refine lv_iadd hC.1 hC.2.1 dX11_goAll_54 ?_
          obtain ⟨r7, hq8, hf⟩ := o_b hf
          refine mw_cVi (As := [.int x1, .int (x2 + x6)]) (rest := []) hC hM (mcX2_get V l M x1 (x2 + x6) r7 hq8) (mw_kV hC q_988 q_989 q_990 q_118 q_991 ⟨rfl, rfl⟩ kV_X2_get ⟨Nat.le_of_ble_eq_true rfl, Nat.le_of_ble_eq_true rfl⟩) (Nat.le_of_ble_eq_true rfl) (eC_56 V) rfl rfl rfl (Nat.le_of_ble_eq_true rfl) hl.1 dX11_goAll_55 (fun H locs hM _ => ?_)
          refine lv_istore (lv' := [(7, .int r7), (0, .ref (mvA V 0)), (1, .int x1), (2, .int x2), (3, .int x3), (5, .int x5), (6, .int x6)]) hC.1 hC.2.1 dX11_goAll_58 hl (Nat.le_of_ble_eq_true rfl) rfl (fun ls hl => ?_)
          refine lv_aload_n hC.1 hC.2.1 dX11_goAll_60 rfl (lv_at hl 1 rfl) ?_
          refine lv_iload hC.1 hC.2.1 dX11_goAll_61 (lv_at hl 0 rfl) ?_
          refine mw_cVi (As := [.int r7]) (rest := []) hC hM (mcX11_isAct V l M r7 _ rfl) (mw_kV hC q_956 q_958 q_41 q_107 q_959 ⟨rfl, rfl⟩ kV_X11_isAct ⟨Nat.le_of_ble_eq_true rfl, Nat.le_of_ble_eq_true rfl⟩) (Nat.le_of_ble_eq_true rfl) (eC_0 V) rfl rfl rfl (Nat.le_of_ble_eq_true rfl) hl.1 dX11_goAll_63 (fun H locs hM hb9 => ?_)
          refine lv_if_eq (tgt := 144) hC.1 hC.2.1 dX11_goAll_66 (by decide) (fun hc15 => ?_) (fun hc15 => ?_)
          · have hf := o_t hc15 hf
            refine lv_iinc (k := 6) (lv' := [(6, .int (x6 + 1)), (7, .int r7), (0, .ref (mvA V 0)), (1, .int x1), (2, .int x2), (3, .int x3), (5, .int x5)]) hC.1 hC.2.1 dX11_goAll_144 hl rfl (inc_1 _) (Nat.le_of_ble_eq_true rfl) rfl (fun ls hl => ?_)
            refine lv_goto (tgt := 22) hC.1 hC.2.1 dX11_goAll_147 (by decide) ?_
            exact ih13 _ _ _ _ _ _ _ _ _ hf hM (lv_sub hl [2, 3, 4, 5, 6, 0] rfl)
          · have hf := o_f hc15 hf
            refine lv_aload_n hC.1 hC.2.1 dX11_goAll_69 rfl (lv_at hl 1 rfl) ?_
            refine mw_get (v := .ref (mvA V 1)) hC hM 0 (Nat.le_of_ble_eq_true rfl) (eC_0 V) inW11 rfl 0 (by decide) q_424 (fun _ h9 => h9) rfl dX11_goAll_70 ?_
            refine mw_get (v := .int (M 1 7)) hC hM 1 (Nat.le_of_ble_eq_true rfl) (eC_1 V) inW4 rfl 7 (by decide) q_221 (fun _ h9 => h9) rfl dX11_goAll_73 ?_
            refine lv_sipush hC.1 hC.2.1 dX11_goAll_76 cs_9999 ?_
            refine lv_icmp_ge (tgt := 144) hC.1 hC.2.1 dX11_goAll_79 (by decide) (fun hc14 => ?_) (fun hc14 => ?_)
            · have hf := o_t hc14 hf
              refine lv_iinc (k := 6) (lv' := [(6, .int (x6 + 1)), (7, .int r7), (0, .ref (mvA V 0)), (1, .int x1), (2, .int x2), (3, .int x3), (5, .int x5)]) hC.1 hC.2.1 dX11_goAll_144 hl rfl (inc_1 _) (Nat.le_of_ble_eq_true rfl) rfl (fun ls hl => ?_)
              refine lv_goto (tgt := 22) hC.1 hC.2.1 dX11_goAll_147 (by decide) ?_
              exact ih13 _ _ _ _ _ _ _ _ _ hf hM (lv_sub hl [2, 3, 4, 5, 6, 0] rfl)
            · have hf := o_f hc14 hf
              refine lv_aload_n hC.1 hC.2.1 dX11_goAll_82 rfl (lv_at hl 1 rfl) ?_
              refine mw_get (v := .ref (mvA V 1)) hC hM 0 (Nat.le_of_ble_eq_true rfl) (eC_0 V) inW11 rfl 0 (by decide) q_424 (fun _ h9 => h9) rfl dX11_goAll_83 ?_
              refine lv_aload_n hC.1 hC.2.1 dX11_goAll_86 rfl (lv_at hl 1 rfl) ?_
              refine mw_get (v := .ref (mvA V 1)) hC hM 0 (Nat.le_of_ble_eq_true rfl) (eC_0 V) inW11 rfl 0 (by decide) q_424 (fun _ h9 => h9) rfl dX11_goAll_87 ?_
              refine mw_get (v := .int (M 1 5)) hC hM 1 (Nat.le_of_ble_eq_true rfl) (eC_1 V) inW4 rfl 5 (by decide) q_216 (fun _ h9 => h9) rfl dX11_goAll_90 ?_
              refine lv_iload hC.1 hC.2.1 dX11_goAll_93 (lv_at hl 0 rfl) ?_
              refine mw_cSi (As := [.int (M 1 5), .int r7]) (rest := [.ref (mvA V 1)]) hC hM (mcX11_acted V l M (M 1 5) r7 _ rfl) (mw_kS hC q_840 q_841 q_107 q_842 ⟨rfl, rfl⟩ kS_X11_acted ⟨Nat.le_of_ble_eq_true rfl, Nat.le_of_ble_eq_true rfl⟩) rfl rfl (Nat.le_of_ble_eq_true rfl) hl.1 dX11_goAll_95 (fun H locs hM _ => ?_)
              refine mw_put hC hM 1 (Nat.le_of_ble_eq_true rfl) (eC_1 V) inW4 tyX4 tyX4_ok nmX4 rfl 5 (by decide) q_216 (fun _ h9 => h9) rfl rfl rfl (Nat.le_of_ble_eq_true rfl) rfl dX11_goAll_98 (fun H locs hM => ?_)
              refine lv_iload hC.1 hC.2.1 dX11_goAll_101 (lv_at hl 5 rfl) ?_
              refine lv_aload_n hC.1 hC.2.1 dX11_goAll_103 rfl (lv_at hl 1 rfl) ?_
              refine lv_aload_n hC.1 hC.2.1 dX11_goAll_104 rfl (lv_at hl 1 rfl) ?_
              refine mw_get (v := .ref (mvA V 1)) hC hM 0 (Nat.le_of_ble_eq_true rfl) (eC_0 V) inW11 rfl 0 (by decide) q_424 (fun _ h9 => h9) rfl dX11_goAll_105 ?_
              refine mw_get (v := .int ((wr M 1 5 (fX11_acted (M 1 5) r7)) 1 6)) hC hM 1 (Nat.le_of_ble_eq_true rfl) (eC_1 V) inW4 rfl 6 (by decide) q_219 (fun _ h9 => h9) rfl dX11_goAll_108 ?_
              refine lv_aload_n hC.1 hC.2.1 dX11_goAll_111 rfl (lv_at hl 1 rfl) ?_
              refine mw_get (v := .ref (mvA V 1)) hC hM 0 (Nat.le_of_ble_eq_true rfl) (eC_0 V) inW11 rfl 0 (by decide) q_424 (fun _ h9 => h9) rfl dX11_goAll_112 ?_
              refine mw_get (v := .int ((wr M 1 5 (fX11_acted (M 1 5) r7)) 1 5)) hC hM 1 (Nat.le_of_ble_eq_true rfl) (eC_1 V) inW4 rfl 5 (by decide) q_216 (fun _ h9 => h9) rfl dX11_goAll_115 ?_
              obtain ⟨r10, M12, hq11, hf⟩ := o_b2 hf
              refine mw_cVi (As := [.int ((wr M 1 5 (fX11_acted (M 1 5) r7)) 1 6), .int ((wr M 1 5 (fX11_acted (M 1 5) r7)) 1 5)]) (rest := [.int x5]) hC hM (mcX11_sumAt V l (wr M 1 5 (fX11_acted (M 1 5) r7)) ((wr M 1 5 (fX11_acted (M 1 5) r7)) 1 6) ((wr M 1 5 (fX11_acted (M 1 5) r7)) 1 5) r10 M12 hq11) (mw_kV hC q_728 q_730 q_17 q_107 q_731 ⟨rfl, rfl⟩ kV_X11_sumAt ⟨Nat.le_of_ble_eq_true rfl, Nat.le_of_ble_eq_true rfl⟩) (Nat.le_of_ble_eq_true rfl) (eC_0 V) rfl rfl rfl (Nat.le_of_ble_eq_true rfl) hl.1 dX11_goAll_118 (fun H locs hM _ => ?_)
              refine lv_if_eq (tgt := 128) hC.1 hC.2.1 dX11_goAll_121 (by decide) (fun hc13 => ?_) (fun hc13 => ?_)
              · have hf := o_t hc13 hf
                refine lv_iconst hC.1 hC.2.1 dX11_goAll_128 ci_0 ?_
                exact hL129 _ _ _ _ _ _ _ _ _ _ hf hM (lv_sub hl [1, 2, 3, 4, 6] rfl)
              · have hf := o_f hc13 hf
                refine lv_iconst hC.1 hC.2.1 dX11_goAll_124 ci_1 ?_
                refine lv_goto (tgt := 129) hC.1 hC.2.1 dX11_goAll_125 (by decide) ?_
                exact hL129 _ _ _ _ _ _ _ _ _ _ hf hM (lv_sub hl [1, 2, 3, 4, 6] rfl)
        · have hf := o_t hc16 hf
          refine lv_bipush hC.1 hC.2.1 dX11_goAll_43 cb_m12 ?_
          exact hret (o_r1 hf) (o_r2 hf hM) dX11_goAll_45
  refine lv_aload_n hC.1 hC.2.1 dX11_goAll_0 rfl (lv_at hl 0 rfl) ?_
  refine lv_iload_n hC.1 hC.2.1 dX11_goAll_1 rfl (lv_at hl 1 rfl) ?_
  refine lv_iload_n hC.1 hC.2.1 dX11_goAll_2 rfl (lv_at hl 3 rfl) ?_
  obtain ⟨r1, hq2, hf⟩ := o_b hf
  refine mw_cVi (As := [.int p1, .int p3]) (rest := []) hC hM (mcX11_refusalOfActs V l M p1 p3 r1 hq2) (mw_kV hC q_996 q_998 q_42 q_107 q_999 ⟨rfl, rfl⟩ kV_X11_refusalOfActs ⟨Nat.le_of_ble_eq_true rfl, Nat.le_of_ble_eq_true rfl⟩) (Nat.le_of_ble_eq_true rfl) (eC_0 V) rfl rfl rfl (Nat.le_of_ble_eq_true rfl) hl.1 dX11_goAll_3 (fun H locs hM _ => ?_)
  refine lv_istore (lv' := [(4, .int r1), (0, .ref (mvA V 0)), (1, .int p1), (2, .int p2), (3, .int p3)]) hC.1 hC.2.1 dX11_goAll_6 hl (Nat.le_of_ble_eq_true rfl) rfl (fun ls hl => ?_)
  refine lv_iload hC.1 hC.2.1 dX11_goAll_8 (lv_at hl 0 rfl) ?_
  refine lv_if_ge (tgt := 16) hC.1 hC.2.1 dX11_goAll_10 (by decide) (fun hc3 => ?_) (fun hc3 => ?_)
  · have hf := o_t hc3 hf
    refine lv_iconst hC.1 hC.2.1 dX11_goAll_16 ci_0 ?_
    refine lv_istore (lv' := [(5, .int 0), (4, .int r1), (0, .ref (mvA V 0)), (1, .int p1), (2, .int p2), (3, .int p3)]) hC.1 hC.2.1 dX11_goAll_17 hl (Nat.le_of_ble_eq_true rfl) rfl (fun ls hl => ?_)
    refine lv_iconst hC.1 hC.2.1 dX11_goAll_19 ci_0 ?_
    refine lv_istore (lv' := [(6, .int 0), (5, .int 0), (4, .int r1), (0, .ref (mvA V 0)), (1, .int p1), (2, .int p2), (3, .int p3)]) hC.1 hC.2.1 dX11_goAll_20 hl (Nat.le_of_ble_eq_true rfl) rfl (fun ls hl => ?_)
    exact hL22 _ _ _ _ _ _ _ _ _ _ hf hM (lv_sub hl [3, 4, 5, 6, 1, 0] rfl)
  · have hf := o_f hc3 hf
    refine lv_iload hC.1 hC.2.1 dX11_goAll_13 (lv_at hl 0 rfl) ?_
    exact hret (o_r1 hf) (o_r2 hf hM) dX11_goAll_15
set_option maxHeartbeats 4000000 in
set_option maxRecDepth 100000 in
theorem mcX11_wouldBe (V : mV) (l : Launch) (M : mM) (p1 : Int32) (p2 : Int32) (p3 : Int32) (r : Int32) (M' : mM) (hf : fX11_wouldBe M p1 p2 p3 = some (r, M')) : IC V l yX11_wouldBe cX11_wouldBe 10 ({ frames := 5, cells := 0, slots := 0, locals := 125 } : Room) [.ref (mvA V 0), .int p1, .int p2, .int p3] M r M' := by
  unfold fX11_wouldBe at hf
  refine mw_enterI RX11 rfl (by decide +kernel) (Nat.le_of_ble_eq_true rfl) (fun {p e s m args below meth c} ls A Q hC hret hM hl => ?_)
  have hl : lv_has ls 10 [(0, .ref (mvA V 0)), (1, .int p1), (2, .int p2), (3, .int p3)] := hl
  have hL40 : ∀ (n : Nat) (M : mM) (x1 : Int32) (x2 : Int32) (x3 : Int32) (x5 : Int32) (x6 : Int32) (x7 : Int32) (x8 : Int32) (H : Heap) (locs : List Loc) (ls : Array Slot), fX11_wouldBe_L40 n M x1 x2 x3 x5 x6 x7 x8 = some (r, M') → PC V M A s H locs → lv_has ls 10 [(0, .ref (mvA V 0)), (1, .int x1), (2, .int x2), (3, .int x3), (5, .int x5), (6, .int x6), (7, .int x7), (8, .int x8)] → W p l e ({ frames := 5, cells := 0, slots := 0, locals := 125 } : Room) s m args below meth c H locs 0 0 Q (F0 m 40 ls []) := by
    intro n21
    induction n21 with
    | zero => intro M x1 x2 x3 x5 x6 x7 x8 H locs ls hf; cases hf
    | succ n21 ih21 =>
      intro M x1 x2 x3 x5 x6 x7 x8 H locs ls hf hM hl
      have hf : fX11_wouldBe_L40_b (fX11_wouldBe_L40 n21) M x1 x2 x3 x5 x6 x7 x8 = some (r, M') := hf
      unfold fX11_wouldBe_L40_b at hf
      have hL117 : ∀ (M : mM) (x1 : Int32) (x2 : Int32) (x3 : Int32) (x5 : Int32) (x6 : Int32) (x8 : Int32) (t0 : Int32) (t1 : Int32) (H : Heap) (locs : List Loc) (ls : Array Slot), fX11_wouldBe_L117 (fX11_wouldBe_L40 n21) M x1 x2 x3 x5 x6 x8 t0 t1 = some (r, M') → PC V M A s H locs → lv_has ls 10 [(0, .ref (mvA V 0)), (1, .int x1), (2, .int x2), (3, .int x3), (5, .int x5), (6, .int x6), (8, .int x8)] → W p l e ({ frames := 5, cells := 0, slots := 0, locals := 125 } : Room) s m args below meth c H locs 0 0 Q (F0 m 117 ls [.int t1, .int t0]) := by
        intro M x1 x2 x3 x5 x6 x8 t0 t1 H locs ls hf hM hl
        unfold fX11_wouldBe_L117 at hf
        refine lv_iadd hC.1 hC.2.1 dX11_wouldBe_117 ?_
        refine lv_istore (lv' := [(7, .int (t0 + t1)), (0, .ref (mvA V 0)), (1, .int x1), (2, .int x2), (3, .int x3), (5, .int x5), (6, .int x6), (8, .int x8)]) hC.1 hC.2.1 dX11_wouldBe_118 hl (Nat.le_of_ble_eq_true rfl) rfl (fun ls hl => ?_)
        refine lv_aload_n hC.1 hC.2.1 dX11_wouldBe_120 rfl (lv_at hl 1 rfl) ?_
        refine lv_iload hC.1 hC.2.1 dX11_wouldBe_121 (lv_at hl 5 rfl) ?_
        refine lv_iload hC.1 hC.2.1 dX11_wouldBe_123 (lv_at hl 6 rfl) ?_
        obtain ⟨r17, M19, hq18, hf⟩ := o_b2 hf
        refine mw_cVi (As := [.int x5, .int x6]) (rest := []) hC hM (mcX11_hourBehind V l M x5 x6 r17 M19 hq18) (mw_kV hC q_758 q_760 q_20 q_107 q_761 ⟨rfl, rfl⟩ kV_X11_hourBehind ⟨Nat.le_of_ble_eq_true rfl, Nat.le_of_ble_eq_true rfl⟩) (Nat.le_of_ble_eq_true rfl) (eC_0 V) rfl rfl rfl (Nat.le_of_ble_eq_true rfl) hl.1 dX11_wouldBe_125 (fun H locs hM _ => ?_)
        refine lv_istore (lv' := [(5, .int r17), (7, .int (t0 + t1)), (0, .ref (mvA V 0)), (1, .int x1), (2, .int x2), (3, .int x3), (6, .int x6), (8, .int x8)]) hC.1 hC.2.1 dX11_wouldBe_128 hl (Nat.le_of_ble_eq_true rfl) rfl (fun ls hl => ?_)
        refine lv_iinc (k := 7) (lv' := [(8, .int (x8 + 1)), (5, .int r17), (7, .int (t0 + t1)), (0, .ref (mvA V 0)), (1, .int x1), (2, .int x2), (3, .int x3), (6, .int x6)]) hC.1 hC.2.1 dX11_wouldBe_130 hl rfl (inc_1 _) (Nat.le_of_ble_eq_true rfl) rfl (fun ls hl => ?_)
        refine lv_goto (tgt := 40) hC.1 hC.2.1 dX11_wouldBe_133 (by decide) ?_
        exact ih21 _ _ _ _ _ _ _ _ _ _ _ hf hM (lv_sub hl [3, 4, 5, 6, 1, 7, 2, 0] rfl)
      refine lv_iload hC.1 hC.2.1 dX11_wouldBe_40 (lv_at hl 7 rfl) ?_
      refine lv_iload_n hC.1 hC.2.1 dX11_wouldBe_42 rfl (lv_at hl 3 rfl) ?_
      refine lv_icmp_ge (tgt := 136) hC.1 hC.2.1 dX11_wouldBe_43 (by decide) (fun hc16 => ?_) (fun hc16 => ?_)
      · have hf := o_t hc16 hf
        refine lv_bipush hC.1 hC.2.1 dX11_wouldBe_136 cb_100 ?_
        refine lv_iload hC.1 hC.2.1 dX11_wouldBe_138 (lv_at hl 6 rfl) ?_
        refine lv_imul hC.1 hC.2.1 dX11_wouldBe_140 ?_
        refine lv_iload hC.1 hC.2.1 dX11_wouldBe_141 (lv_at hl 4 rfl) ?_
        refine lv_iadd hC.1 hC.2.1 dX11_wouldBe_143 ?_
        exact hret (o_r1 hf) (o_r2 hf hM) dX11_wouldBe_144
      · have hf := o_f hc16 hf
        refine lv_aload_n hC.1 hC.2.1 dX11_wouldBe_46 rfl (lv_at hl 0 rfl) ?_
        refine mw_get (v := .ref (mvA V 56)) hC hM 0 (Nat.le_of_ble_eq_true rfl) (eC_0 V) inW11 rfl 6 (by decide) q_430 (fun _ h9 => h9) rfl dX11_wouldBe_47 ?_
        refine lv_iload_n hC.1 hC.2.1 dX11_wouldBe_50 rfl (lv_at hl 1 rfl) ?_
        refine lv_iload_n hC.1 hC.2.1 dX11_wouldBe_51 rfl (lv_at hl 2 rfl) ?_
        refine lv_iload hC.1 hC.2.1 dX11_wouldBe_52 (lv_at hl 7 rfl) ?_
        refine lv_iadd hC.1 hC.2.1 dX11_wouldBe_54 ?_
        obtain ⟨r4, hq5, hf⟩ := o_b hf
        refine mw_cVi (As := [.int x1, .int (x2 + x8)]) (rest := []) hC hM (mcX2_hasItem V l M x1 (x2 + x8) r4 hq5) (mw_kV hC q_972 q_973 q_974 q_118 q_975 ⟨rfl, rfl⟩ kV_X2_hasItem ⟨Nat.le_of_ble_eq_true rfl, Nat.le_of_ble_eq_true rfl⟩) (Nat.le_of_ble_eq_true rfl) (eC_56 V) rfl rfl rfl (Nat.le_of_ble_eq_true rfl) hl.1 dX11_wouldBe_55 (fun H locs hM hb6 => ?_)
        refine lv_if_ne (tgt := 64) hC.1 hC.2.1 dX11_wouldBe_58 (by decide) (fun hc15 => ?_) (fun hc15 => ?_)
        · have hf := o_f hc15 hf
          refine lv_aload_n hC.1 hC.2.1 dX11_wouldBe_64 rfl (lv_at hl 0 rfl) ?_
          refine mw_get (v := .ref (mvA V 56)) hC hM 0 (Nat.le_of_ble_eq_true rfl) (eC_0 V) inW11 rfl 6 (by decide) q_430 (fun _ h9 => h9) rfl dX11_wouldBe_65 ?_
          refine lv_iload_n hC.1 hC.2.1 dX11_wouldBe_68 rfl (lv_at hl 1 rfl) ?_
          refine lv_iload_n hC.1 hC.2.1 dX11_wouldBe_69 rfl (lv_at hl 2 rfl) ?_
          refine lv_iload hC.1 hC.2.1 dX11_wouldBe_70 (lv_at hl 7 rfl) ?_
          refine lv_iadd hC.1 hC.2.1 dX11_wouldBe_72 ?_
          obtain ⟨r7, hq8, hf⟩ := o_b hf
          refine mw_cVi (As := [.int x1, .int (x2 + x8)]) (rest := []) hC hM (mcX2_get V l M x1 (x2 + x8) r7 hq8) (mw_kV hC q_988 q_989 q_990 q_118 q_991 ⟨rfl, rfl⟩ kV_X2_get ⟨Nat.le_of_ble_eq_true rfl, Nat.le_of_ble_eq_true rfl⟩) (Nat.le_of_ble_eq_true rfl) (eC_56 V) rfl rfl rfl (Nat.le_of_ble_eq_true rfl) hl.1 dX11_wouldBe_73 (fun H locs hM _ => ?_)
          refine lv_istore (lv' := [(9, .int r7), (0, .ref (mvA V 0)), (1, .int x1), (2, .int x2), (3, .int x3), (5, .int x5), (6, .int x6), (7, .int x7), (8, .int x8)]) hC.1 hC.2.1 dX11_wouldBe_76 hl (Nat.le_of_ble_eq_true rfl) rfl (fun ls hl => ?_)
          refine lv_aload_n hC.1 hC.2.1 dX11_wouldBe_78 rfl (lv_at hl 1 rfl) ?_
          refine lv_iload hC.1 hC.2.1 dX11_wouldBe_79 (lv_at hl 0 rfl) ?_
          refine mw_cVi (As := [.int r7]) (rest := []) hC hM (mcX11_isAct V l M r7 _ rfl) (mw_kV hC q_956 q_958 q_41 q_107 q_959 ⟨rfl, rfl⟩ kV_X11_isAct ⟨Nat.le_of_ble_eq_true rfl, Nat.le_of_ble_eq_true rfl⟩) (Nat.le_of_ble_eq_true rfl) (eC_0 V) rfl rfl rfl (Nat.le_of_ble_eq_true rfl) hl.1 dX11_wouldBe_81 (fun H locs hM hb9 => ?_)
          refine lv_if_ne (tgt := 90) hC.1 hC.2.1 dX11_wouldBe_84 (by decide) (fun hc14 => ?_) (fun hc14 => ?_)
          · have hf := o_f hc14 hf
            refine lv_iload hC.1 hC.2.1 dX11_wouldBe_90 (lv_at hl 6 rfl) ?_
            refine lv_iload hC.1 hC.2.1 dX11_wouldBe_92 (lv_at hl 0 rfl) ?_
            refine mw_cSi (As := [.int x6, .int r7]) (rest := []) hC hM (mcX11_acted V l M x6 r7 _ rfl) (mw_kS hC q_840 q_841 q_107 q_842 ⟨rfl, rfl⟩ kS_X11_acted ⟨Nat.le_of_ble_eq_true rfl, Nat.le_of_ble_eq_true rfl⟩) rfl rfl (Nat.le_of_ble_eq_true rfl) hl.1 dX11_wouldBe_94 (fun H locs hM _ => ?_)
            refine lv_istore (lv' := [(6, .int (fX11_acted x6 r7)), (9, .int r7), (0, .ref (mvA V 0)), (1, .int x1), (2, .int x2), (3, .int x3), (5, .int x5), (7, .int x7), (8, .int x8)]) hC.1 hC.2.1 dX11_wouldBe_97 hl (Nat.le_of_ble_eq_true rfl) rfl (fun ls hl => ?_)
            refine lv_iload hC.1 hC.2.1 dX11_wouldBe_99 (lv_at hl 7 rfl) ?_
            refine lv_aload_n hC.1 hC.2.1 dX11_wouldBe_101 rfl (lv_at hl 2 rfl) ?_
            refine lv_iload hC.1 hC.2.1 dX11_wouldBe_102 (lv_at hl 6 rfl) ?_
            refine lv_iload hC.1 hC.2.1 dX11_wouldBe_104 (lv_at hl 0 rfl) ?_
            obtain ⟨r10, M12, hq11, hf⟩ := o_b2 hf
            refine mw_cVi (As := [.int x5, .int (fX11_acted x6 r7)]) (rest := [.int x7]) hC hM (mcX11_sumAt V l M x5 (fX11_acted x6 r7) r10 M12 hq11) (mw_kV hC q_728 q_730 q_17 q_107 q_731 ⟨rfl, rfl⟩ kV_X11_sumAt ⟨Nat.le_of_ble_eq_true rfl, Nat.le_of_ble_eq_true rfl⟩) (Nat.le_of_ble_eq_true rfl) (eC_0 V) rfl rfl rfl (Nat.le_of_ble_eq_true rfl) hl.1 dX11_wouldBe_106 (fun H locs hM _ => ?_)
            refine lv_if_eq (tgt := 116) hC.1 hC.2.1 dX11_wouldBe_109 (by decide) (fun hc13 => ?_) (fun hc13 => ?_)
            · have hf := o_t hc13 hf
              refine lv_iconst hC.1 hC.2.1 dX11_wouldBe_116 ci_0 ?_
              exact hL117 _ _ _ _ _ _ _ _ _ _ _ _ hf hM (lv_sub hl [2, 3, 4, 5, 6, 0, 8] rfl)
            · have hf := o_f hc13 hf
              refine lv_iconst hC.1 hC.2.1 dX11_wouldBe_112 ci_1 ?_
              refine lv_goto (tgt := 117) hC.1 hC.2.1 dX11_wouldBe_113 (by decide) ?_
              exact hL117 _ _ _ _ _ _ _ _ _ _ _ _ hf hM (lv_sub hl [2, 3, 4, 5, 6, 0, 8] rfl)
          · have hf := o_t hc14 hf
            refine lv_bipush hC.1 hC.2.1 dX11_wouldBe_87 cb_m4 ?_
            exact hret (o_r1 hf) (o_r2 hf hM) dX11_wouldBe_89
        · have hf := o_t hc15 hf
          refine lv_bipush hC.1 hC.2.1 dX11_wouldBe_61 cb_m12 ?_
          exact hret (o_r1 hf) (o_r2 hf hM) dX11_wouldBe_63
  refine lv_aload_n hC.1 hC.2.1 dX11_wouldBe_0 rfl (lv_at hl 0 rfl) ?_
  refine lv_iload_n hC.1 hC.2.1 dX11_wouldBe_1 rfl (lv_at hl 1 rfl) ?_
  refine lv_iload_n hC.1 hC.2.1 dX11_wouldBe_2 rfl (lv_at hl 3 rfl) ?_
  obtain ⟨r1, hq2, hf⟩ := o_b hf
  refine mw_cVi (As := [.int p1, .int p3]) (rest := []) hC hM (mcX11_refusalOfActs V l M p1 p3 r1 hq2) (mw_kV hC q_996 q_998 q_42 q_107 q_999 ⟨rfl, rfl⟩ kV_X11_refusalOfActs ⟨Nat.le_of_ble_eq_true rfl, Nat.le_of_ble_eq_true rfl⟩) (Nat.le_of_ble_eq_true rfl) (eC_0 V) rfl rfl rfl (Nat.le_of_ble_eq_true rfl) hl.1 dX11_wouldBe_3 (fun H locs hM _ => ?_)
  refine lv_istore (lv' := [(4, .int r1), (0, .ref (mvA V 0)), (1, .int p1), (2, .int p2), (3, .int p3)]) hC.1 hC.2.1 dX11_wouldBe_6 hl (Nat.le_of_ble_eq_true rfl) rfl (fun ls hl => ?_)
  refine lv_iload hC.1 hC.2.1 dX11_wouldBe_8 (lv_at hl 0 rfl) ?_
  refine lv_if_ge (tgt := 16) hC.1 hC.2.1 dX11_wouldBe_10 (by decide) (fun hc3 => ?_) (fun hc3 => ?_)
  · have hf := o_t hc3 hf
    refine lv_aload_n hC.1 hC.2.1 dX11_wouldBe_16 rfl (lv_at hl 1 rfl) ?_
    refine mw_get (v := .ref (mvA V 1)) hC hM 0 (Nat.le_of_ble_eq_true rfl) (eC_0 V) inW11 rfl 0 (by decide) q_424 (fun _ h9 => h9) rfl dX11_wouldBe_17 ?_
    refine mw_get (v := .int (M 1 6)) hC hM 1 (Nat.le_of_ble_eq_true rfl) (eC_1 V) inW4 rfl 6 (by decide) q_219 (fun _ h9 => h9) rfl dX11_wouldBe_20 ?_
    refine lv_istore (lv' := [(5, .int (M 1 6)), (4, .int r1), (0, .ref (mvA V 0)), (1, .int p1), (2, .int p2), (3, .int p3)]) hC.1 hC.2.1 dX11_wouldBe_23 hl (Nat.le_of_ble_eq_true rfl) rfl (fun ls hl => ?_)
    refine lv_aload_n hC.1 hC.2.1 dX11_wouldBe_25 rfl (lv_at hl 2 rfl) ?_
    refine mw_get (v := .ref (mvA V 1)) hC hM 0 (Nat.le_of_ble_eq_true rfl) (eC_0 V) inW11 rfl 0 (by decide) q_424 (fun _ h9 => h9) rfl dX11_wouldBe_26 ?_
    refine mw_get (v := .int (M 1 5)) hC hM 1 (Nat.le_of_ble_eq_true rfl) (eC_1 V) inW4 rfl 5 (by decide) q_216 (fun _ h9 => h9) rfl dX11_wouldBe_29 ?_
    refine lv_istore (lv' := [(6, .int (M 1 5)), (5, .int (M 1 6)), (4, .int r1), (0, .ref (mvA V 0)), (1, .int p1), (2, .int p2), (3, .int p3)]) hC.1 hC.2.1 dX11_wouldBe_32 hl (Nat.le_of_ble_eq_true rfl) rfl (fun ls hl => ?_)
    refine lv_iconst hC.1 hC.2.1 dX11_wouldBe_34 ci_0 ?_
    refine lv_istore (lv' := [(7, .int 0), (6, .int (M 1 5)), (5, .int (M 1 6)), (4, .int r1), (0, .ref (mvA V 0)), (1, .int p1), (2, .int p2), (3, .int p3)]) hC.1 hC.2.1 dX11_wouldBe_35 hl (Nat.le_of_ble_eq_true rfl) rfl (fun ls hl => ?_)
    refine lv_iconst hC.1 hC.2.1 dX11_wouldBe_37 ci_0 ?_
    refine lv_istore (lv' := [(8, .int 0), (7, .int 0), (6, .int (M 1 5)), (5, .int (M 1 6)), (4, .int r1), (0, .ref (mvA V 0)), (1, .int p1), (2, .int p2), (3, .int p3)]) hC.1 hC.2.1 dX11_wouldBe_38 hl (Nat.le_of_ble_eq_true rfl) rfl (fun ls hl => ?_)
    exact hL40 _ _ _ _ _ _ _ _ _ _ _ _ hf hM (lv_sub hl [5, 6, 7, 8, 3, 2, 1, 0] rfl)
  · have hf := o_f hc3 hf
    refine lv_iload hC.1 hC.2.1 dX11_wouldBe_13 (lv_at hl 0 rfl) ?_
    exact hret (o_r1 hf) (o_r2 hf hM) dX11_wouldBe_15
set_option maxHeartbeats 4000000 in
set_option maxRecDepth 100000 in
theorem mcX2_holdVoter (V : mV) (l : Launch) (M : mM) (p1 : Int32) (p2 : Int32) (r : Int32) (M' : mM) (hf : fX2_holdVoter M p1 p2 = some (r, M')) : UC V l yX2_holdVoter cX2_holdVoter 3 ({ frames := 0, cells := 0, slots := 0, locals := 0 } : Room) [.ref (mvA V 56), .int p1, .int p2] M M' := by
  unfold fX2_holdVoter at hf
  refine mw_enterV RX2 rfl (by decide +kernel) (Nat.le_of_ble_eq_true rfl) (fun {p e s m args below meth c} ls A Q hC hret hM hl => ?_)
  have hl : lv_has ls 3 [(0, .ref (mvA V 56)), (1, .int p1), (2, .int p2)] := hl
  refine lv_aload_n hC.1 hC.2.1 dX2_holdVoter_0 rfl (lv_at hl 0 rfl) ?_
  refine mw_get (v := .ref (mvA V 58)) hC hM 56 (Nat.le_of_ble_eq_true rfl) (eC_56 V) inW2 rfl 1 (by decide) q_395 (fun _ h9 => h9) rfl dX2_holdVoter_1 ?_
  refine lv_iload_n hC.1 hC.2.1 dX2_holdVoter_4 rfl (lv_at hl 1 rfl) ?_
  refine lv_iconst hC.1 hC.2.1 dX2_holdVoter_5 ci_0 ?_
  obtain ⟨hg1, hf⟩ := o_g hf
  refine mw_iast hC hM 58 0 (Nat.le_of_ble_eq_true rfl) (eC_58 V) rfl hg1 dX2_holdVoter_6 (fun H locs hM => ?_)
  refine lv_aload_n hC.1 hC.2.1 dX2_holdVoter_7 rfl (lv_at hl 0 rfl) ?_
  refine mw_get (v := .ref (mvA V 60)) hC hM 56 (Nat.le_of_ble_eq_true rfl) (eC_56 V) inW2 rfl 3 (by decide) q_399 (fun _ h9 => h9) rfl dX2_holdVoter_8 ?_
  refine lv_iload_n hC.1 hC.2.1 dX2_holdVoter_11 rfl (lv_at hl 1 rfl) ?_
  refine lv_iload_n hC.1 hC.2.1 dX2_holdVoter_12 rfl (lv_at hl 2 rfl) ?_
  obtain ⟨hg2, hf⟩ := o_g hf
  refine mw_iast hC hM 60 0 (Nat.le_of_ble_eq_true rfl) (eC_60 V) rfl hg2 dX2_holdVoter_13 (fun H locs hM => ?_)
  exact hret (o_r2 hf hM) dX2_holdVoter_14
set_option maxHeartbeats 4000000 in
set_option maxRecDepth 100000 in
theorem mcX2_holdRow (V : mV) (l : Launch) (M : mM) (p1 : Int32) (p2 : Int32) (r : Int32) (M' : mM) (hf : fX2_holdRow M p1 p2 = some (r, M')) : UC V l yX2_holdRow cX2_holdRow 3 ({ frames := 0, cells := 0, slots := 0, locals := 0 } : Room) [.ref (mvA V 56), .int p1, .int p2] M M' := by
  unfold fX2_holdRow at hf
  refine mw_enterV RX2 rfl (by decide +kernel) (Nat.le_of_ble_eq_true rfl) (fun {p e s m args below meth c} ls A Q hC hret hM hl => ?_)
  have hl : lv_has ls 3 [(0, .ref (mvA V 56)), (1, .int p1), (2, .int p2)] := hl
  have hL20 : ∀ (M : mM) (x1 : Int32) (x2 : Int32) (t1 : Int32) (t2 : Int32) (H : Heap) (locs : List Loc) (ls : Array Slot), fX2_holdRow_L20 M x1 x2 t1 t2 = some (r, M') → PC V M A s H locs → lv_has ls 3 [(0, .ref (mvA V 56)), (1, .int x1), (2, .int x2)] → W p l e ({ frames := 0, cells := 0, slots := 0, locals := 0 } : Room) s m args below meth c H locs 0 0 Q (F0 m 20 ls [.int t2, .int t1, .ref (mvA V 58)]) := by
    intro M x1 x2 t1 t2 H locs ls hf hM hl
    unfold fX2_holdRow_L20 at hf
    obtain ⟨hg3, hf⟩ := o_g hf
    refine mw_iast hC hM 58 0 (Nat.le_of_ble_eq_true rfl) (eC_58 V) rfl hg3 dX2_holdRow_20 (fun H locs hM => ?_)
    refine lv_aload_n hC.1 hC.2.1 dX2_holdRow_21 rfl (lv_at hl 0 rfl) ?_
    refine mw_get (v := .ref (mvA V 59)) hC hM 56 (Nat.le_of_ble_eq_true rfl) (eC_56 V) inW2 rfl 2 (by decide) q_397 (fun _ h9 => h9) rfl dX2_holdRow_22 ?_
    refine lv_iload_n hC.1 hC.2.1 dX2_holdRow_25 rfl (lv_at hl 1 rfl) ?_
    refine lv_aload_n hC.1 hC.2.1 dX2_holdRow_26 rfl (lv_at hl 0 rfl) ?_
    refine mw_get (v := .ref (mvA V 57)) hC hM 56 (Nat.le_of_ble_eq_true rfl) (eC_56 V) inW2 rfl 0 (by decide) q_393 (fun _ h9 => h9) rfl dX2_holdRow_27 ?_
    refine lv_iload_n hC.1 hC.2.1 dX2_holdRow_30 rfl (lv_at hl 2 rfl) ?_
    obtain ⟨hg4, hf⟩ := o_g hf
    refine mw_iald hC hM 57 0 (Nat.le_of_ble_eq_true rfl) (eC_57 V) rfl hg4 dX2_holdRow_31 ?_
    obtain ⟨hg5, hf⟩ := o_g hf
    refine mw_iast hC hM 59 0 (Nat.le_of_ble_eq_true rfl) (eC_59 V) rfl hg5 dX2_holdRow_32 (fun H locs hM => ?_)
    refine lv_aload_n hC.1 hC.2.1 dX2_holdRow_33 rfl (lv_at hl 0 rfl) ?_
    refine mw_get (v := .ref (mvA V 60)) hC hM 56 (Nat.le_of_ble_eq_true rfl) (eC_56 V) inW2 rfl 3 (by decide) q_399 (fun _ h9 => h9) rfl dX2_holdRow_34 ?_
    refine lv_iload_n hC.1 hC.2.1 dX2_holdRow_37 rfl (lv_at hl 1 rfl) ?_
    refine lv_aload_n hC.1 hC.2.1 dX2_holdRow_38 rfl (lv_at hl 0 rfl) ?_
    refine mw_get (v := .ref (mvA V 61)) hC hM 56 (Nat.le_of_ble_eq_true rfl) (eC_56 V) inW2 rfl 4 (by decide) q_401 (fun _ h9 => h9) rfl dX2_holdRow_39 ?_
    refine lv_iload_n hC.1 hC.2.1 dX2_holdRow_42 rfl (lv_at hl 2 rfl) ?_
    obtain ⟨hg6, hf⟩ := o_g hf
    refine mw_iald hC hM 61 0 (Nat.le_of_ble_eq_true rfl) (eC_61 V) rfl hg6 dX2_holdRow_43 ?_
    obtain ⟨hg7, hf⟩ := o_g hf
    refine mw_iast hC hM 60 0 (Nat.le_of_ble_eq_true rfl) (eC_60 V) rfl hg7 dX2_holdRow_44 (fun H locs hM => ?_)
    exact hret (o_r2 hf hM) dX2_holdRow_45
  refine lv_aload_n hC.1 hC.2.1 dX2_holdRow_0 rfl (lv_at hl 0 rfl) ?_
  refine mw_get (v := .ref (mvA V 58)) hC hM 56 (Nat.le_of_ble_eq_true rfl) (eC_56 V) inW2 rfl 1 (by decide) q_395 (fun _ h9 => h9) rfl dX2_holdRow_1 ?_
  refine lv_iload_n hC.1 hC.2.1 dX2_holdRow_4 rfl (lv_at hl 1 rfl) ?_
  refine lv_aload_n hC.1 hC.2.1 dX2_holdRow_5 rfl (lv_at hl 0 rfl) ?_
  refine mw_get (v := .ref (mvA V 57)) hC hM 56 (Nat.le_of_ble_eq_true rfl) (eC_56 V) inW2 rfl 0 (by decide) q_393 (fun _ h9 => h9) rfl dX2_holdRow_6 ?_
  refine lv_iload_n hC.1 hC.2.1 dX2_holdRow_9 rfl (lv_at hl 2 rfl) ?_
  obtain ⟨hg1, hf⟩ := o_g hf
  refine mw_iald hC hM 57 0 (Nat.le_of_ble_eq_true rfl) (eC_57 V) rfl hg1 dX2_holdRow_10 ?_
  refine lv_iconst hC.1 hC.2.1 dX2_holdRow_11 ci_m1 ?_
  refine lv_icmp_ne (tgt := 19) hC.1 hC.2.1 dX2_holdRow_12 (by decide) (fun hc2 => ?_) (fun hc2 => ?_)
  · have hf := o_f hc2 hf
    refine lv_iconst hC.1 hC.2.1 dX2_holdRow_19 ci_1 ?_
    exact hL20 _ _ _ _ _ _ _ _ hf hM (lv_sub hl [0, 1, 2] rfl)
  · have hf := o_t hc2 hf
    refine lv_iconst hC.1 hC.2.1 dX2_holdRow_15 ci_2 ?_
    refine lv_goto (tgt := 20) hC.1 hC.2.1 dX2_holdRow_16 (by decide) ?_
    exact hL20 _ _ _ _ _ _ _ _ hf hM (lv_sub hl [0, 1, 2] rfl)
set_option maxHeartbeats 4000000 in
set_option maxRecDepth 100000 in
theorem mcX2_holdNothing (V : mV) (l : Launch) (M : mM) (p1 : Int32) (r : Int32) (M' : mM) (hf : fX2_holdNothing M p1 = some (r, M')) : UC V l yX2_holdNothing cX2_holdNothing 2 ({ frames := 0, cells := 0, slots := 0, locals := 0 } : Room) [.ref (mvA V 56), .int p1] M M' := by
  unfold fX2_holdNothing at hf
  refine mw_enterV RX2 rfl (by decide +kernel) (Nat.le_of_ble_eq_true rfl) (fun {p e s m args below meth c} ls A Q hC hret hM hl => ?_)
  have hl : lv_has ls 2 [(0, .ref (mvA V 56)), (1, .int p1)] := hl
  refine lv_aload_n hC.1 hC.2.1 dX2_holdNothing_0 rfl (lv_at hl 0 rfl) ?_
  refine mw_get (v := .ref (mvA V 58)) hC hM 56 (Nat.le_of_ble_eq_true rfl) (eC_56 V) inW2 rfl 1 (by decide) q_395 (fun _ h9 => h9) rfl dX2_holdNothing_1 ?_
  refine lv_iload_n hC.1 hC.2.1 dX2_holdNothing_4 rfl (lv_at hl 1 rfl) ?_
  refine lv_iconst hC.1 hC.2.1 dX2_holdNothing_5 ci_2 ?_
  obtain ⟨hg1, hf⟩ := o_g hf
  refine mw_iast hC hM 58 0 (Nat.le_of_ble_eq_true rfl) (eC_58 V) rfl hg1 dX2_holdNothing_6 (fun H locs hM => ?_)
  exact hret (o_r2 hf hM) dX2_holdNothing_7
set_option maxHeartbeats 4000000 in
set_option maxRecDepth 100000 in
theorem mcX11_shelf (V : mV) (l : Launch) (M : mM) (p1 : Int32) (p2 : Int32) (p3 : Int32) (r : Int32) (M' : mM) (hf : fX11_shelf M p1 p2 p3 = some (r, M')) : IC V l yX11_shelf cX11_shelf 4 ({ frames := 1, cells := 0, slots := 0, locals := 22 } : Room) [.ref (mvA V 0), .int p1, .int p2, .int p3] M r M' := by
  unfold fX11_shelf at hf
  refine mw_enterI RX11 rfl (by decide +kernel) (Nat.le_of_ble_eq_true rfl) (fun {p e s m args below meth c} ls A Q hC hret hM hl => ?_)
  have hl : lv_has ls 4 [(0, .ref (mvA V 0)), (1, .int p1), (2, .int p2), (3, .int p3)] := hl
  have hL61 : ∀ (M : mM) (x1 : Int32) (x2 : Int32) (H : Heap) (locs : List Loc) (ls : Array Slot), fX11_shelf_L61 M x1 x2 = some (r, M') → PC V M A s H locs → lv_has ls 4 [(0, .ref (mvA V 0)), (1, .int x1), (2, .int x2)] → W p l e ({ frames := 1, cells := 0, slots := 0, locals := 22 } : Room) s m args below meth c H locs 0 0 Q (F0 m 61 ls []) := by
    intro M x1 x2 H locs ls hf hM hl
    unfold fX11_shelf_L61 at hf
    refine lv_iload_n hC.1 hC.2.1 dX11_shelf_61 rfl (lv_at hl 2 rfl) ?_
    refine lv_iconst hC.1 hC.2.1 dX11_shelf_62 ci_2 ?_
    refine lv_icmp_ne (tgt := 77) hC.1 hC.2.1 dX11_shelf_63 (by decide) (fun hc18 => ?_) (fun hc18 => ?_)
    · have hf := o_f hc18 hf
      refine lv_iconst hC.1 hC.2.1 dX11_shelf_77 ci_m1 ?_
      exact hret (o_r1 hf) (o_r2 hf hM) dX11_shelf_78
    · have hf := o_t hc18 hf
      refine lv_aload_n hC.1 hC.2.1 dX11_shelf_66 rfl (lv_at hl 0 rfl) ?_
      refine mw_get (v := .ref (mvA V 56)) hC hM 0 (Nat.le_of_ble_eq_true rfl) (eC_0 V) inW11 rfl 6 (by decide) q_430 (fun _ h9 => h9) rfl dX11_shelf_67 ?_
      refine lv_iload_n hC.1 hC.2.1 dX11_shelf_70 rfl (lv_at hl 1 rfl) ?_
      obtain ⟨r15, M17, hq16, hf⟩ := o_b2 hf
      refine mw_cVv (As := [.int x1]) (rest := []) hC hM (mcX2_holdNothing V l M x1 r15 M17 hq16) (mw_kV hC q_1016 q_1017 q_1018 q_118 q_1019 ⟨rfl, rfl⟩ kV_X2_holdNothing ⟨Nat.le_of_ble_eq_true rfl, Nat.le_of_ble_eq_true rfl⟩) (Nat.le_of_ble_eq_true rfl) (eC_56 V) rfl rfl rfl (Nat.le_of_ble_eq_true rfl) hl.1 dX11_shelf_71 (fun H locs hM => ?_)
      refine lv_goto (tgt := 79) hC.1 hC.2.1 dX11_shelf_74 (by decide) ?_
      refine lv_iconst hC.1 hC.2.1 dX11_shelf_79 ci_1 ?_
      exact hret (o_r1 hf) (o_r2 hf hM) dX11_shelf_80
  have hL35 : ∀ (M : mM) (x1 : Int32) (x2 : Int32) (x3 : Int32) (H : Heap) (locs : List Loc) (ls : Array Slot), fX11_shelf_L35 M x1 x2 x3 = some (r, M') → PC V M A s H locs → lv_has ls 4 [(0, .ref (mvA V 0)), (1, .int x1), (2, .int x2), (3, .int x3)] → W p l e ({ frames := 1, cells := 0, slots := 0, locals := 22 } : Room) s m args below meth c H locs 0 0 Q (F0 m 35 ls []) := by
    intro M x1 x2 x3 H locs ls hf hM hl
    unfold fX11_shelf_L35 at hf
    refine lv_iload_n hC.1 hC.2.1 dX11_shelf_35 rfl (lv_at hl 2 rfl) ?_
    refine lv_iconst hC.1 hC.2.1 dX11_shelf_36 ci_1 ?_
    refine lv_icmp_ne (tgt := 61) hC.1 hC.2.1 dX11_shelf_37 (by decide) (fun hc14 => ?_) (fun hc14 => ?_)
    · have hf := o_f hc14 hf
      exact hL61 _ _ _ _ _ _ hf hM (lv_sub hl [0, 1, 2] rfl)
    · have hf := o_t hc14 hf
      refine lv_iload_n hC.1 hC.2.1 dX11_shelf_40 rfl (lv_at hl 3 rfl) ?_
      refine lv_iconst hC.1 hC.2.1 dX11_shelf_41 ci_0 ?_
      refine lv_iconst hC.1 hC.2.1 dX11_shelf_42 ci_3 ?_
      refine mw_cSi (As := [.int x3, .int 0, .int 3]) (rest := []) hC hM (mcX11_isIn V l M x3 0 3 _ rfl) (mw_kS hC q_468 q_469 q_107 q_470 ⟨rfl, rfl⟩ kS_X11_isIn ⟨Nat.le_of_ble_eq_true rfl, Nat.le_of_ble_eq_true rfl⟩) rfl rfl (Nat.le_of_ble_eq_true rfl) hl.1 dX11_shelf_43 (fun H locs hM hb9 => ?_)
      refine lv_if_eq (tgt := 61) hC.1 hC.2.1 dX11_shelf_46 (by decide) (fun hc13 => ?_) (fun hc13 => ?_)
      · have hf := o_t hc13 hf
        exact hL61 _ _ _ _ _ _ hf hM (lv_sub hl [0, 1, 2] rfl)
      · have hf := o_f hc13 hf
        refine lv_aload_n hC.1 hC.2.1 dX11_shelf_49 rfl (lv_at hl 0 rfl) ?_
        refine mw_get (v := .ref (mvA V 56)) hC hM 0 (Nat.le_of_ble_eq_true rfl) (eC_0 V) inW11 rfl 6 (by decide) q_430 (fun _ h9 => h9) rfl dX11_shelf_50 ?_
        refine lv_iload_n hC.1 hC.2.1 dX11_shelf_53 rfl (lv_at hl 1 rfl) ?_
        refine lv_iload_n hC.1 hC.2.1 dX11_shelf_54 rfl (lv_at hl 3 rfl) ?_
        obtain ⟨r10, M12, hq11, hf⟩ := o_b2 hf
        refine mw_cVv (As := [.int x1, .int x3]) (rest := []) hC hM (mcX2_holdRow V l M x1 x3 r10 M12 hq11) (mw_kV hC q_1012 q_1013 q_1014 q_118 q_1015 ⟨rfl, rfl⟩ kV_X2_holdRow ⟨Nat.le_of_ble_eq_true rfl, Nat.le_of_ble_eq_true rfl⟩) (Nat.le_of_ble_eq_true rfl) (eC_56 V) rfl rfl rfl (Nat.le_of_ble_eq_true rfl) hl.1 dX11_shelf_55 (fun H locs hM => ?_)
        refine lv_goto (tgt := 79) hC.1 hC.2.1 dX11_shelf_58 (by decide) ?_
        refine lv_iconst hC.1 hC.2.1 dX11_shelf_79 ci_1 ?_
        exact hret (o_r1 hf) (o_r2 hf hM) dX11_shelf_80
  refine lv_iload_n hC.1 hC.2.1 dX11_shelf_0 rfl (lv_at hl 1 rfl) ?_
  refine lv_iconst hC.1 hC.2.1 dX11_shelf_1 ci_0 ?_
  refine lv_iconst hC.1 hC.2.1 dX11_shelf_2 ci_3 ?_
  refine mw_cSi (As := [.int p1, .int 0, .int 3]) (rest := []) hC hM (mcX11_isIn V l M p1 0 3 _ rfl) (mw_kS hC q_468 q_469 q_107 q_470 ⟨rfl, rfl⟩ kS_X11_isIn ⟨Nat.le_of_ble_eq_true rfl, Nat.le_of_ble_eq_true rfl⟩) rfl rfl (Nat.le_of_ble_eq_true rfl) hl.1 dX11_shelf_3 (fun H locs hM hb1 => ?_)
  refine lv_if_ne (tgt := 11) hC.1 hC.2.1 dX11_shelf_6 (by decide) (fun hc8 => ?_) (fun hc8 => ?_)
  · have hf := o_f hc8 hf
    refine lv_iload_n hC.1 hC.2.1 dX11_shelf_11 rfl (lv_at hl 2 rfl) ?_
    refine lv_if_ne (tgt := 35) hC.1 hC.2.1 dX11_shelf_12 (by decide) (fun hc7 => ?_) (fun hc7 => ?_)
    · have hf := o_f hc7 hf
      exact hL35 _ _ _ _ _ _ _ hf hM (lv_sub hl [0, 1, 2, 3] rfl)
    · have hf := o_t hc7 hf
      refine lv_aload_n hC.1 hC.2.1 dX11_shelf_15 rfl (lv_at hl 0 rfl) ?_
      refine lv_iload_n hC.1 hC.2.1 dX11_shelf_16 rfl (lv_at hl 3 rfl) ?_
      refine mw_cVi (As := [.int p3]) (rest := []) hC hM (mcX11_isVoter V l M p3 _ rfl) (mw_kV hC q_481 q_483 q_1 q_107 q_484 ⟨rfl, rfl⟩ kV_X11_isVoter ⟨Nat.le_of_ble_eq_true rfl, Nat.le_of_ble_eq_true rfl⟩) (Nat.le_of_ble_eq_true rfl) (eC_0 V) rfl rfl rfl (Nat.le_of_ble_eq_true rfl) hl.1 dX11_shelf_17 (fun H locs hM hb2 => ?_)
      refine lv_if_eq (tgt := 35) hC.1 hC.2.1 dX11_shelf_20 (by decide) (fun hc6 => ?_) (fun hc6 => ?_)
      · have hf := o_t hc6 hf
        exact hL35 _ _ _ _ _ _ _ hf hM (lv_sub hl [0, 1, 2, 3] rfl)
      · have hf := o_f hc6 hf
        refine lv_aload_n hC.1 hC.2.1 dX11_shelf_23 rfl (lv_at hl 0 rfl) ?_
        refine mw_get (v := .ref (mvA V 56)) hC hM 0 (Nat.le_of_ble_eq_true rfl) (eC_0 V) inW11 rfl 6 (by decide) q_430 (fun _ h9 => h9) rfl dX11_shelf_24 ?_
        refine lv_iload_n hC.1 hC.2.1 dX11_shelf_27 rfl (lv_at hl 1 rfl) ?_
        refine lv_iload_n hC.1 hC.2.1 dX11_shelf_28 rfl (lv_at hl 3 rfl) ?_
        obtain ⟨r3, M5, hq4, hf⟩ := o_b2 hf
        refine mw_cVv (As := [.int p1, .int p3]) (rest := []) hC hM (mcX2_holdVoter V l M p1 p3 r3 M5 hq4) (mw_kV hC q_1008 q_1009 q_1010 q_118 q_1011 ⟨rfl, rfl⟩ kV_X2_holdVoter ⟨Nat.le_of_ble_eq_true rfl, Nat.le_of_ble_eq_true rfl⟩) (Nat.le_of_ble_eq_true rfl) (eC_56 V) rfl rfl rfl (Nat.le_of_ble_eq_true rfl) hl.1 dX11_shelf_29 (fun H locs hM => ?_)
        refine lv_goto (tgt := 79) hC.1 hC.2.1 dX11_shelf_32 (by decide) ?_
        refine lv_iconst hC.1 hC.2.1 dX11_shelf_79 ci_1 ?_
        exact hret (o_r1 hf) (o_r2 hf hM) dX11_shelf_80
  · have hf := o_t hc8 hf
    refine lv_iconst hC.1 hC.2.1 dX11_shelf_9 ci_m1 ?_
    exact hret (o_r1 hf) (o_r2 hf hM) dX11_shelf_10
set_option maxHeartbeats 4000000 in
set_option maxRecDepth 100000 in
theorem mcX11_voterOn (V : mV) (l : Launch) (M : mM) (p1 : Int32) (r : Int32) (hf : fX11_voterOn M p1 = some r) : IC V l yX11_voterOn cX11_voterOn 3 ({ frames := 1, cells := 0, slots := 0, locals := 22 } : Room) [.ref (mvA V 0), .int p1] M r M := by
  unfold fX11_voterOn at hf
  refine mw_enterI RX11 rfl (by decide +kernel) (Nat.le_of_ble_eq_true rfl) (fun {p e s m args below meth c} ls A Q hC hret hM hl => ?_)
  have hl : lv_has ls 3 [(0, .ref (mvA V 0)), (1, .int p1)] := hl
  have hL26 : ∀ (x1 : Int32) (t0 : Int32) (H : Heap) (locs : List Loc) (ls : Array Slot), fX11_voterOn_L26 M x1 t0 = some r → PC V M A s H locs → lv_has ls 3 [(0, .ref (mvA V 0)), (1, .int x1)] → W p l e ({ frames := 1, cells := 0, slots := 0, locals := 22 } : Room) s m args below meth c H locs 0 0 Q (F0 m 26 ls [.int t0]) := by
    intro x1 t0 H locs ls hf hM hl
    unfold fX11_voterOn_L26 at hf
    refine lv_istore_n (lv' := [(2, .int t0), (0, .ref (mvA V 0)), (1, .int x1)]) hC.1 hC.2.1 dX11_voterOn_26 rfl hl (Nat.le_of_ble_eq_true rfl) rfl (fun ls hl => ?_)
    refine lv_iload_n hC.1 hC.2.1 dX11_voterOn_27 rfl (lv_at hl 0 rfl) ?_
    refine lv_if_eq (tgt := 43) hC.1 hC.2.1 dX11_voterOn_28 (by decide) (fun hc6 => ?_) (fun hc6 => ?_)
    · have hf := o_t hc6 hf
      refine lv_bipush hC.1 hC.2.1 dX11_voterOn_43 cb_m3 ?_
      exact hret (Option.some.inj hf) hM dX11_voterOn_45
    · have hf := o_f hc6 hf
      refine lv_aload_n hC.1 hC.2.1 dX11_voterOn_31 rfl (lv_at hl 1 rfl) ?_
      refine mw_get (v := .ref (mvA V 56)) hC hM 0 (Nat.le_of_ble_eq_true rfl) (eC_0 V) inW11 rfl 6 (by decide) q_430 (fun _ h9 => h9) rfl dX11_voterOn_32 ?_
      refine mw_get (v := .ref (mvA V 60)) hC hM 56 (Nat.le_of_ble_eq_true rfl) (eC_56 V) inW2 rfl 3 (by decide) q_400 (fun _ h9 => h9) rfl dX11_voterOn_35 ?_
      refine lv_iload_n hC.1 hC.2.1 dX11_voterOn_38 rfl (lv_at hl 2 rfl) ?_
      obtain ⟨hg5, hf⟩ := o_g hf
      refine mw_iald hC hM 60 0 (Nat.le_of_ble_eq_true rfl) (eC_60 V) rfl hg5 dX11_voterOn_39 ?_
      refine lv_goto (tgt := 45) hC.1 hC.2.1 dX11_voterOn_40 (by decide) ?_
      exact hret (Option.some.inj hf) hM dX11_voterOn_45
  have hL25 : ∀ (x1 : Int32) (H : Heap) (locs : List Loc) (ls : Array Slot), fX11_voterOn_L25 M x1 = some r → PC V M A s H locs → lv_has ls 3 [(0, .ref (mvA V 0)), (1, .int x1)] → W p l e ({ frames := 1, cells := 0, slots := 0, locals := 22 } : Room) s m args below meth c H locs 0 0 Q (F0 m 25 ls []) := by
    intro x1 H locs ls hf hM hl
    unfold fX11_voterOn_L25 at hf
    refine lv_iconst hC.1 hC.2.1 dX11_voterOn_25 ci_0 ?_
    exact hL26 _ _ _ _ _ hf hM (lv_sub hl [0, 1] rfl)
  refine lv_iload_n hC.1 hC.2.1 dX11_voterOn_0 rfl (lv_at hl 1 rfl) ?_
  refine lv_iconst hC.1 hC.2.1 dX11_voterOn_1 ci_0 ?_
  refine lv_iconst hC.1 hC.2.1 dX11_voterOn_2 ci_3 ?_
  refine mw_cSi (As := [.int p1, .int 0, .int 3]) (rest := []) hC hM (mcX11_isIn V l M p1 0 3 _ rfl) (mw_kS hC q_468 q_469 q_107 q_470 ⟨rfl, rfl⟩ kS_X11_isIn ⟨Nat.le_of_ble_eq_true rfl, Nat.le_of_ble_eq_true rfl⟩) rfl rfl (Nat.le_of_ble_eq_true rfl) hl.1 dX11_voterOn_3 (fun H locs hM hb1 => ?_)
  refine lv_if_eq (tgt := 25) hC.1 hC.2.1 dX11_voterOn_6 (by decide) (fun hc4 => ?_) (fun hc4 => ?_)
  · have hf := o_t hc4 hf
    exact hL25 _ _ _ _ hf hM (lv_sub hl [0, 1] rfl)
  · have hf := o_f hc4 hf
    refine lv_aload_n hC.1 hC.2.1 dX11_voterOn_9 rfl (lv_at hl 0 rfl) ?_
    refine mw_get (v := .ref (mvA V 56)) hC hM 0 (Nat.le_of_ble_eq_true rfl) (eC_0 V) inW11 rfl 6 (by decide) q_430 (fun _ h9 => h9) rfl dX11_voterOn_10 ?_
    refine mw_get (v := .ref (mvA V 58)) hC hM 56 (Nat.le_of_ble_eq_true rfl) (eC_56 V) inW2 rfl 1 (by decide) q_396 (fun _ h9 => h9) rfl dX11_voterOn_13 ?_
    refine lv_iload_n hC.1 hC.2.1 dX11_voterOn_16 rfl (lv_at hl 1 rfl) ?_
    obtain ⟨hg2, hf⟩ := o_g hf
    refine mw_iald hC hM 58 0 (Nat.le_of_ble_eq_true rfl) (eC_58 V) rfl hg2 dX11_voterOn_17 ?_
    refine lv_if_ne (tgt := 25) hC.1 hC.2.1 dX11_voterOn_18 (by decide) (fun hc3 => ?_) (fun hc3 => ?_)
    · have hf := o_f hc3 hf
      exact hL25 _ _ _ _ hf hM (lv_sub hl [0, 1] rfl)
    · have hf := o_t hc3 hf
      refine lv_iconst hC.1 hC.2.1 dX11_voterOn_21 ci_1 ?_
      refine lv_goto (tgt := 26) hC.1 hC.2.1 dX11_voterOn_22 (by decide) ?_
      exact hL26 _ _ _ _ _ hf hM (lv_sub hl [0, 1] rfl)
set_option maxHeartbeats 4000000 in
set_option maxRecDepth 100000 in
theorem mcX11_taken (V : mV) (l : Launch) (M : mM) (p1 : Int32) (p2 : Int32) (r : Int32) (hf : fX11_taken M p1 p2 = some r) : IC V l yX11_taken cX11_taken 4 ({ frames := 2, cells := 0, slots := 0, locals := 44 } : Room) [.ref (mvA V 0), .int p1, .int p2] M r M := by
  unfold fX11_taken at hf
  refine mw_enterI RX11 rfl (by decide +kernel) (Nat.le_of_ble_eq_true rfl) (fun {p e s m args below meth c} ls A Q hC hret hM hl => ?_)
  have hl : lv_has ls 4 [(0, .ref (mvA V 0)), (1, .int p1), (2, .int p2)] := hl
  have hL31 : ∀ (x1 : Int32) (x2 : Int32) (H : Heap) (locs : List Loc) (ls : Array Slot), fX11_taken_L31 M x1 x2 = some r → PC V M A s H locs → lv_has ls 4 [(0, .ref (mvA V 0)), (1, .int x1), (2, .int x2)] → W p l e ({ frames := 2, cells := 0, slots := 0, locals := 44 } : Room) s m args below meth c H locs 0 0 Q (F0 m 31 ls []) := by
    intro x1 x2 H locs ls hf hM hl
    unfold fX11_taken_L31 at hf
    refine lv_aload_n hC.1 hC.2.1 dX11_taken_31 rfl (lv_at hl 0 rfl) ?_
    refine mw_get (v := .ref (mvA V 56)) hC hM 0 (Nat.le_of_ble_eq_true rfl) (eC_0 V) inW11 rfl 6 (by decide) q_430 (fun _ h9 => h9) rfl dX11_taken_32 ?_
    refine mw_get (v := .ref (mvA V 58)) hC hM 56 (Nat.le_of_ble_eq_true rfl) (eC_56 V) inW2 rfl 1 (by decide) q_396 (fun _ h9 => h9) rfl dX11_taken_35 ?_
    refine lv_iload_n hC.1 hC.2.1 dX11_taken_38 rfl (lv_at hl 1 rfl) ?_
    obtain ⟨hg7, hf⟩ := o_g hf
    refine mw_iald hC hM 58 0 (Nat.le_of_ble_eq_true rfl) (eC_58 V) rfl hg7 dX11_taken_39 ?_
    refine lv_iconst hC.1 hC.2.1 dX11_taken_40 ci_1 ?_
    refine lv_icmp_ne (tgt := 75) hC.1 hC.2.1 dX11_taken_41 (by decide) (fun hc19 => ?_) (fun hc19 => ?_)
    · have hf := o_f hc19 hf
      refine lv_aload_n hC.1 hC.2.1 dX11_taken_75 rfl (lv_at hl 0 rfl) ?_
      refine lv_iload_n hC.1 hC.2.1 dX11_taken_76 rfl (lv_at hl 1 rfl) ?_
      obtain ⟨r8, hq9, hf⟩ := o_b hf
      refine mw_cVi (As := [.int x1]) (rest := []) hC hM (mcX11_voterOn V l M x1 r8 hq9) (mw_kV hC q_1024 q_1026 q_43 q_107 q_1027 ⟨rfl, rfl⟩ kV_X11_voterOn ⟨Nat.le_of_ble_eq_true rfl, Nat.le_of_ble_eq_true rfl⟩) (Nat.le_of_ble_eq_true rfl) (eC_0 V) rfl rfl rfl (Nat.le_of_ble_eq_true rfl) hl.1 dX11_taken_77 (fun H locs hM _ => ?_)
      refine lv_istore_n (lv' := [(3, .int r8), (0, .ref (mvA V 0)), (1, .int x1), (2, .int x2)]) hC.1 hC.2.1 dX11_taken_80 rfl hl (Nat.le_of_ble_eq_true rfl) rfl (fun ls hl => ?_)
      refine lv_aload_n hC.1 hC.2.1 dX11_taken_81 rfl (lv_at hl 1 rfl) ?_
      refine lv_iload_n hC.1 hC.2.1 dX11_taken_82 rfl (lv_at hl 0 rfl) ?_
      refine mw_cVi (As := [.int r8]) (rest := []) hC hM (mcX11_isVoter V l M r8 _ rfl) (mw_kV hC q_481 q_483 q_1 q_107 q_484 ⟨rfl, rfl⟩ kV_X11_isVoter ⟨Nat.le_of_ble_eq_true rfl, Nat.le_of_ble_eq_true rfl⟩) (Nat.le_of_ble_eq_true rfl) (eC_0 V) rfl rfl rfl (Nat.le_of_ble_eq_true rfl) hl.1 dX11_taken_83 (fun H locs hM hb10 => ?_)
      refine lv_if_ne (tgt := 92) hC.1 hC.2.1 dX11_taken_86 (by decide) (fun hc15 => ?_) (fun hc15 => ?_)
      · have hf := o_f hc15 hf
        refine lv_iload_n hC.1 hC.2.1 dX11_taken_92 rfl (lv_at hl 3 rfl) ?_
        refine lv_bipush hC.1 hC.2.1 dX11_taken_93 cb_10 ?_
        refine lv_icmp_ge (tgt := 118) hC.1 hC.2.1 dX11_taken_95 (by decide) (fun hc14 => ?_) (fun hc14 => ?_)
        · have hf := o_t hc14 hf
          refine lv_bipush hC.1 hC.2.1 dX11_taken_118 cb_m13 ?_
          exact hret (Option.some.inj hf) hM dX11_taken_120
        · have hf := o_f hc14 hf
          refine lv_aload_n hC.1 hC.2.1 dX11_taken_98 rfl (lv_at hl 1 rfl) ?_
          refine mw_get (v := .ref (mvA V 1)) hC hM 0 (Nat.le_of_ble_eq_true rfl) (eC_0 V) inW11 rfl 0 (by decide) q_424 (fun _ h9 => h9) rfl dX11_taken_99 ?_
          refine mw_get (v := .ref (mvA V 2)) hC hM 1 (Nat.le_of_ble_eq_true rfl) (eC_1 V) inW4 rfl 1 (by decide) q_209 (fun _ h9 => h9) rfl dX11_taken_102 ?_
          refine lv_iload_n hC.1 hC.2.1 dX11_taken_105 rfl (lv_at hl 0 rfl) ?_
          obtain ⟨hg11, hf⟩ := o_g hf
          refine mw_iald hC hM 2 0 (Nat.le_of_ble_eq_true rfl) (eC_2 V) rfl hg11 dX11_taken_106 ?_
          refine lv_iload_n hC.1 hC.2.1 dX11_taken_107 rfl (lv_at hl 3 rfl) ?_
          refine mw_cSi (As := [.int (M 2 (Int32.toNatClampNeg r8)), .int x2]) (rest := []) hC hM (mcX11_isUnder V l M (M 2 (Int32.toNatClampNeg r8)) x2 _ rfl) (mw_kS hC q_1028 q_511 q_107 q_512 ⟨rfl, rfl⟩ kS_X11_isUnder ⟨Nat.le_of_ble_eq_true rfl, Nat.le_of_ble_eq_true rfl⟩) rfl rfl (Nat.le_of_ble_eq_true rfl) hl.1 dX11_taken_108 (fun H locs hM hb12 => ?_)
          refine lv_if_eq (tgt := 118) hC.1 hC.2.1 dX11_taken_111 (by decide) (fun hc13 => ?_) (fun hc13 => ?_)
          · have hf := o_t hc13 hf
            refine lv_bipush hC.1 hC.2.1 dX11_taken_118 cb_m13 ?_
            exact hret (Option.some.inj hf) hM dX11_taken_120
          · have hf := o_f hc13 hf
            refine lv_iload_n hC.1 hC.2.1 dX11_taken_114 rfl (lv_at hl 0 rfl) ?_
            refine lv_goto (tgt := 120) hC.1 hC.2.1 dX11_taken_115 (by decide) ?_
            exact hret (Option.some.inj hf) hM dX11_taken_120
      · have hf := o_t hc15 hf
        refine lv_bipush hC.1 hC.2.1 dX11_taken_89 cb_m11 ?_
        exact hret (Option.some.inj hf) hM dX11_taken_91
    · have hf := o_t hc19 hf
      refine lv_aload_n hC.1 hC.2.1 dX11_taken_44 rfl (lv_at hl 0 rfl) ?_
      refine mw_get (v := .ref (mvA V 56)) hC hM 0 (Nat.le_of_ble_eq_true rfl) (eC_0 V) inW11 rfl 6 (by decide) q_430 (fun _ h9 => h9) rfl dX11_taken_45 ?_
      refine mw_get (v := .ref (mvA V 59)) hC hM 56 (Nat.le_of_ble_eq_true rfl) (eC_56 V) inW2 rfl 2 (by decide) q_398 (fun _ h9 => h9) rfl dX11_taken_48 ?_
      refine lv_iload_n hC.1 hC.2.1 dX11_taken_51 rfl (lv_at hl 1 rfl) ?_
      obtain ⟨hg16, hf⟩ := o_g hf
      refine mw_iald hC hM 59 0 (Nat.le_of_ble_eq_true rfl) (eC_59 V) rfl hg16 dX11_taken_52 ?_
      refine lv_bipush hC.1 hC.2.1 dX11_taken_53 cb_10 ?_
      refine lv_iadd hC.1 hC.2.1 dX11_taken_55 ?_
      refine lv_iload_n hC.1 hC.2.1 dX11_taken_56 rfl (lv_at hl 2 rfl) ?_
      refine lv_icmp_ne (tgt := 72) hC.1 hC.2.1 dX11_taken_57 (by decide) (fun hc18 => ?_) (fun hc18 => ?_)
      · have hf := o_f hc18 hf
        refine lv_bipush hC.1 hC.2.1 dX11_taken_72 cb_m13 ?_
        exact hret (Option.some.inj hf) hM dX11_taken_74
      · have hf := o_t hc18 hf
        refine lv_aload_n hC.1 hC.2.1 dX11_taken_60 rfl (lv_at hl 0 rfl) ?_
        refine mw_get (v := .ref (mvA V 56)) hC hM 0 (Nat.le_of_ble_eq_true rfl) (eC_0 V) inW11 rfl 6 (by decide) q_430 (fun _ h9 => h9) rfl dX11_taken_61 ?_
        refine mw_get (v := .ref (mvA V 60)) hC hM 56 (Nat.le_of_ble_eq_true rfl) (eC_56 V) inW2 rfl 3 (by decide) q_400 (fun _ h9 => h9) rfl dX11_taken_64 ?_
        refine lv_iload_n hC.1 hC.2.1 dX11_taken_67 rfl (lv_at hl 1 rfl) ?_
        obtain ⟨hg17, hf⟩ := o_g hf
        refine mw_iald hC hM 60 0 (Nat.le_of_ble_eq_true rfl) (eC_60 V) rfl hg17 dX11_taken_68 ?_
        refine lv_goto (tgt := 74) hC.1 hC.2.1 dX11_taken_69 (by decide) ?_
        exact hret (Option.some.inj hf) hM dX11_taken_74
  refine lv_iload_n hC.1 hC.2.1 dX11_taken_0 rfl (lv_at hl 1 rfl) ?_
  refine lv_iconst hC.1 hC.2.1 dX11_taken_1 ci_0 ?_
  refine lv_iconst hC.1 hC.2.1 dX11_taken_2 ci_3 ?_
  refine mw_cSi (As := [.int p1, .int 0, .int 3]) (rest := []) hC hM (mcX11_isIn V l M p1 0 3 _ rfl) (mw_kS hC q_468 q_469 q_107 q_470 ⟨rfl, rfl⟩ kS_X11_isIn ⟨Nat.le_of_ble_eq_true rfl, Nat.le_of_ble_eq_true rfl⟩) rfl rfl (Nat.le_of_ble_eq_true rfl) hl.1 dX11_taken_3 (fun H locs hM hb1 => ?_)
  refine lv_if_eq (tgt := 29) hC.1 hC.2.1 dX11_taken_6 (by decide) (fun hc6 => ?_) (fun hc6 => ?_)
  · have hf := o_t hc6 hf
    refine lv_iconst hC.1 hC.2.1 dX11_taken_29 ci_m1 ?_
    exact hret (Option.some.inj hf) hM dX11_taken_30
  · have hf := o_f hc6 hf
    refine lv_iload_n hC.1 hC.2.1 dX11_taken_9 rfl (lv_at hl 2 rfl) ?_
    refine lv_iconst hC.1 hC.2.1 dX11_taken_10 ci_0 ?_
    refine lv_iconst hC.1 hC.2.1 dX11_taken_11 ci_5 ?_
    refine mw_cSi (As := [.int p2, .int 0, .int 5]) (rest := []) hC hM (mcX11_isIn V l M p2 0 5 _ rfl) (mw_kS hC q_468 q_469 q_107 q_470 ⟨rfl, rfl⟩ kS_X11_isIn ⟨Nat.le_of_ble_eq_true rfl, Nat.le_of_ble_eq_true rfl⟩) rfl rfl (Nat.le_of_ble_eq_true rfl) hl.1 dX11_taken_12 (fun H locs hM hb2 => ?_)
    refine lv_if_ne (tgt := 31) hC.1 hC.2.1 dX11_taken_15 (by decide) (fun hc5 => ?_) (fun hc5 => ?_)
    · have hf := o_f hc5 hf
      exact hL31 _ _ _ _ _ hf hM (lv_sub hl [0, 1, 2] rfl)
    · have hf := o_t hc5 hf
      refine lv_iload_n hC.1 hC.2.1 dX11_taken_18 rfl (lv_at hl 2 rfl) ?_
      refine lv_bipush hC.1 hC.2.1 dX11_taken_19 cb_10 ?_
      refine lv_bipush hC.1 hC.2.1 dX11_taken_21 cb_14 ?_
      refine mw_cSi (As := [.int p2, .int 10, .int 14]) (rest := []) hC hM (mcX11_isIn V l M p2 10 14 _ rfl) (mw_kS hC q_468 q_469 q_107 q_470 ⟨rfl, rfl⟩ kS_X11_isIn ⟨Nat.le_of_ble_eq_true rfl, Nat.le_of_ble_eq_true rfl⟩) rfl rfl (Nat.le_of_ble_eq_true rfl) hl.1 dX11_taken_23 (fun H locs hM hb3 => ?_)
      refine lv_if_ne (tgt := 31) hC.1 hC.2.1 dX11_taken_26 (by decide) (fun hc4 => ?_) (fun hc4 => ?_)
      · have hf := o_f hc4 hf
        exact hL31 _ _ _ _ _ hf hM (lv_sub hl [0, 1, 2] rfl)
      · have hf := o_t hc4 hf
        refine lv_iconst hC.1 hC.2.1 dX11_taken_29 ci_m1 ?_
        exact hret (Option.some.inj hf) hM dX11_taken_30
set_option maxHeartbeats 4000000 in
set_option maxRecDepth 100000 in
theorem mcX10_begins (V : mV) (l : Launch) (M : mM) (p1 : Int32) (r : Int32) (M' : mM) (hf : fX10_begins M p1 = some (r, M')) : UC V l yX10_begins cX10_begins 2 ({ frames := 0, cells := 0, slots := 0, locals := 0 } : Room) [.ref (mvA V 47), .int p1] M M' := by
  unfold fX10_begins at hf
  refine mw_enterV RX10 rfl (by decide +kernel) (Nat.le_of_ble_eq_true rfl) (fun {p e s m args below meth c} ls A Q hC hret hM hl => ?_)
  have hl : lv_has ls 2 [(0, .ref (mvA V 47)), (1, .int p1)] := hl
  refine lv_aload_n hC.1 hC.2.1 dX10_begins_0 rfl (lv_at hl 0 rfl) ?_
  refine mw_get (v := .int (M 47 0)) hC hM 47 (Nat.le_of_ble_eq_true rfl) (eC_47 V) inW10 rfl 0 (by decide) q_142 (fun _ h9 => h9) rfl dX10_begins_1 ?_
  refine lv_bipush hC.1 hC.2.1 dX10_begins_4 cb_30 ?_
  refine lv_icmp_ge (tgt := 29) hC.1 hC.2.1 dX10_begins_6 (by decide) (fun hc2 => ?_) (fun hc2 => ?_)
  · have hf := o_t hc2 hf
    exact hret (o_r2 hf hM) dX10_begins_29
  · have hf := o_f hc2 hf
    refine lv_aload_n hC.1 hC.2.1 dX10_begins_9 rfl (lv_at hl 0 rfl) ?_
    refine mw_get (v := .ref (mvA V 48)) hC hM 47 (Nat.le_of_ble_eq_true rfl) (eC_47 V) inW10 rfl 2 (by decide) q_147 (fun _ h9 => h9) rfl dX10_begins_10 ?_
    refine lv_aload_n hC.1 hC.2.1 dX10_begins_13 rfl (lv_at hl 0 rfl) ?_
    refine mw_get (v := .int (M 47 0)) hC hM 47 (Nat.le_of_ble_eq_true rfl) (eC_47 V) inW10 rfl 0 (by decide) q_142 (fun _ h9 => h9) rfl dX10_begins_14 ?_
    refine lv_iload_n hC.1 hC.2.1 dX10_begins_17 rfl (lv_at hl 1 rfl) ?_
    obtain ⟨hg1, hf⟩ := o_g hf
    refine mw_iast hC hM 48 0 (Nat.le_of_ble_eq_true rfl) (eC_48 V) rfl hg1 dX10_begins_18 (fun H locs hM => ?_)
    refine lv_aload_n hC.1 hC.2.1 dX10_begins_19 rfl (lv_at hl 0 rfl) ?_
    refine lv_dup hC.1 hC.2.1 dX10_begins_20 rfl ?_
    refine mw_get (v := .int ((wr M 48 (Int32.toNatClampNeg (M 47 0)) p1) 47 0)) hC hM 47 (Nat.le_of_ble_eq_true rfl) (eC_47 V) inW10 rfl 0 (by decide) q_142 (fun _ h9 => h9) rfl dX10_begins_21 ?_
    refine lv_iconst hC.1 hC.2.1 dX10_begins_24 ci_1 ?_
    refine lv_iadd hC.1 hC.2.1 dX10_begins_25 ?_
    refine mw_put hC hM 47 (Nat.le_of_ble_eq_true rfl) (eC_47 V) inW10 tyX10 tyX10_ok nmX10 rfl 0 (by decide) q_142 (fun _ h9 => h9) rfl rfl rfl (Nat.le_of_ble_eq_true rfl) rfl dX10_begins_26 (fun H locs hM => ?_)
    exact hret (o_r2 hf hM) dX10_begins_29
set_option maxHeartbeats 4000000 in
set_option maxRecDepth 100000 in
theorem mcX9_wishes_q50 (V : mV) (l : Launch) (M : mM) (p1 : Int32) (r : Int32) (M' : mM) (hf : fX9_wishes_q50 M p1 = some (r, M')) : IC V l yX9_wishes cX9_wishes 2 ({ frames := 1, cells := 0, slots := 0, locals := 21 } : Room) [.ref (mvA V 50), .int p1] M r M' := by
  unfold fX9_wishes_q50 at hf
  refine mw_enterI RX9 rfl (by decide +kernel) (Nat.le_of_ble_eq_true rfl) (fun {p e s m args below meth c} ls A Q hC hret hM hl => ?_)
  have hl : lv_has ls 2 [(0, .ref (mvA V 50)), (1, .int p1)] := hl
  refine lv_aload_n hC.1 hC.2.1 dX9_wishes_0 rfl (lv_at hl 0 rfl) ?_
  refine mw_get (v := .ref (mvA V 47)) hC hM 50 (Nat.le_of_ble_eq_true rfl) (eC_50 V) inW9 rfl 0 (by decide) q_309 (fun _ h9 => h9) rfl dX9_wishes_1 ?_
  refine lv_bipush hC.1 hC.2.1 dX9_wishes_4 cb_10 ?_
  obtain ⟨r1, M3, hq2, hf⟩ := o_b2 hf
  refine mw_cVv (As := [.int 10]) (rest := []) hC hM (mcX10_begins V l M 10 r1 M3 hq2) (mw_kV hC q_1056 q_1043 q_1044 q_108 q_1045 ⟨rfl, rfl⟩ kV_X10_begins ⟨Nat.le_of_ble_eq_true rfl, Nat.le_of_ble_eq_true rfl⟩) (Nat.le_of_ble_eq_true rfl) (eC_47 V) rfl rfl rfl (Nat.le_of_ble_eq_true rfl) hl.1 dX9_wishes_6 (fun H locs hM => ?_)
  refine lv_iload_n hC.1 hC.2.1 dX9_wishes_9 rfl (lv_at hl 1 rfl) ?_
  refine lv_aload_n hC.1 hC.2.1 dX9_wishes_10 rfl (lv_at hl 0 rfl) ?_
  refine mw_get (v := .int (M3 50 2)) hC hM 50 (Nat.le_of_ble_eq_true rfl) (eC_50 V) inW9 rfl 2 (by decide) q_326 (fun _ h9 => h9) rfl dX9_wishes_11 ?_
  refine lv_iadd hC.1 hC.2.1 dX9_wishes_14 ?_
  exact hret (o_r1 hf) (o_r2 hf hM) dX9_wishes_15
set_option maxHeartbeats 4000000 in
set_option maxRecDepth 100000 in
theorem mcX9_sways_q50 (V : mV) (l : Launch) (M : mM) (p1 : Int32) (r : Int32) (M' : mM) (hf : fX9_sways_q50 M p1 = some (r, M')) : IC V l yX9_sways cX9_sways 2 ({ frames := 2, cells := 0, slots := 0, locals := 42 } : Room) [.ref (mvA V 50), .int p1] M r M' := by
  unfold fX9_sways_q50 at hf
  refine mw_enterI RX9 rfl (by decide +kernel) (Nat.le_of_ble_eq_true rfl) (fun {p e s m args below meth c} ls A Q hC hret hM hl => ?_)
  have hl : lv_has ls 2 [(0, .ref (mvA V 50)), (1, .int p1)] := hl
  refine lv_aload_n hC.1 hC.2.1 dX9_sways_0 rfl (lv_at hl 0 rfl) ?_
  refine mw_get (v := .ref (mvA V 47)) hC hM 50 (Nat.le_of_ble_eq_true rfl) (eC_50 V) inW9 rfl 0 (by decide) q_309 (fun _ h9 => h9) rfl dX9_sways_1 ?_
  refine lv_bipush hC.1 hC.2.1 dX9_sways_4 cb_11 ?_
  obtain ⟨r1, M3, hq2, hf⟩ := o_b2 hf
  refine mw_cVv (As := [.int 11]) (rest := []) hC hM (mcX10_begins V l M 11 r1 M3 hq2) (mw_kV hC q_1056 q_1043 q_1044 q_108 q_1045 ⟨rfl, rfl⟩ kV_X10_begins ⟨Nat.le_of_ble_eq_true rfl, Nat.le_of_ble_eq_true rfl⟩) (Nat.le_of_ble_eq_true rfl) (eC_47 V) rfl rfl rfl (Nat.le_of_ble_eq_true rfl) hl.1 dX9_sways_6 (fun H locs hM => ?_)
  refine lv_aload_n hC.1 hC.2.1 dX9_sways_9 rfl (lv_at hl 0 rfl) ?_
  refine lv_iload_n hC.1 hC.2.1 dX9_sways_10 rfl (lv_at hl 1 rfl) ?_
  obtain ⟨r4, M6, hq5, hf⟩ := o_b2 hf
  refine mw_cVi (As := [.int p1]) (rest := []) hC hM (mcX9_wishes_q50 V l M3 p1 r4 M6 hq5) (mw_kV hC q_1077 q_1034 q_1035 q_112 q_1055 ⟨rfl, rfl⟩ kV_X9_wishes ⟨Nat.le_of_ble_eq_true rfl, Nat.le_of_ble_eq_true rfl⟩) (Nat.le_of_ble_eq_true rfl) (eC_50 V) rfl rfl rfl (Nat.le_of_ble_eq_true rfl) hl.1 dX9_sways_11 (fun H locs hM _ => ?_)
  refine lv_aload_n hC.1 hC.2.1 dX9_sways_14 rfl (lv_at hl 0 rfl) ?_
  refine mw_get (v := .int (M6 50 1)) hC hM 50 (Nat.le_of_ble_eq_true rfl) (eC_50 V) inW9 rfl 1 (by decide) q_322 (fun _ h9 => h9) rfl dX9_sways_15 ?_
  refine lv_isub hC.1 hC.2.1 dX9_sways_18 ?_
  exact hret (o_r1 hf) (o_r2 hf hM) dX9_sways_19
set_option maxHeartbeats 4000000 in
set_option maxRecDepth 100000 in
theorem mcX9_tells_q50 (V : mV) (l : Launch) (M : mM) (p1 : Int32) (r : Int32) (M' : mM) (hf : fX9_tells_q50 M p1 = some (r, M')) : IC V l yX9_tells cX9_tells 2 ({ frames := 3, cells := 0, slots := 0, locals := 63 } : Room) [.ref (mvA V 50), .int p1] M r M' := by
  unfold fX9_tells_q50 at hf
  refine mw_enterI RX9 rfl (by decide +kernel) (Nat.le_of_ble_eq_true rfl) (fun {p e s m args below meth c} ls A Q hC hret hM hl => ?_)
  have hl : lv_has ls 2 [(0, .ref (mvA V 50)), (1, .int p1)] := hl
  refine lv_aload_n hC.1 hC.2.1 dX9_tells_0 rfl (lv_at hl 0 rfl) ?_
  refine mw_get (v := .ref (mvA V 47)) hC hM 50 (Nat.le_of_ble_eq_true rfl) (eC_50 V) inW9 rfl 0 (by decide) q_309 (fun _ h9 => h9) rfl dX9_tells_1 ?_
  refine lv_bipush hC.1 hC.2.1 dX9_tells_4 cb_13 ?_
  obtain ⟨r1, M3, hq2, hf⟩ := o_b2 hf
  refine mw_cVv (As := [.int 13]) (rest := []) hC hM (mcX10_begins V l M 13 r1 M3 hq2) (mw_kV hC q_1056 q_1043 q_1044 q_108 q_1045 ⟨rfl, rfl⟩ kV_X10_begins ⟨Nat.le_of_ble_eq_true rfl, Nat.le_of_ble_eq_true rfl⟩) (Nat.le_of_ble_eq_true rfl) (eC_47 V) rfl rfl rfl (Nat.le_of_ble_eq_true rfl) hl.1 dX9_tells_6 (fun H locs hM => ?_)
  refine lv_aload_n hC.1 hC.2.1 dX9_tells_9 rfl (lv_at hl 0 rfl) ?_
  refine lv_iload_n hC.1 hC.2.1 dX9_tells_10 rfl (lv_at hl 1 rfl) ?_
  obtain ⟨r4, M6, hq5, hf⟩ := o_b2 hf
  refine mw_cVi (As := [.int p1]) (rest := []) hC hM (mcX9_sways_q50 V l M3 p1 r4 M6 hq5) (mw_kV hC q_1117 q_1058 q_1059 q_112 q_1076 ⟨rfl, rfl⟩ kV_X9_sways ⟨Nat.le_of_ble_eq_true rfl, Nat.le_of_ble_eq_true rfl⟩) (Nat.le_of_ble_eq_true rfl) (eC_50 V) rfl rfl rfl (Nat.le_of_ble_eq_true rfl) hl.1 dX9_tells_11 (fun H locs hM _ => ?_)
  refine lv_aload_n hC.1 hC.2.1 dX9_tells_14 rfl (lv_at hl 0 rfl) ?_
  refine mw_get (v := .int (M6 50 2)) hC hM 50 (Nat.le_of_ble_eq_true rfl) (eC_50 V) inW9 rfl 2 (by decide) q_326 (fun _ h9 => h9) rfl dX9_tells_15 ?_
  refine lv_ixor hC.1 hC.2.1 dX9_tells_18 ?_
  exact hret (o_r1 hf) (o_r2 hf hM) dX9_tells_19
set_option maxHeartbeats 4000000 in
set_option maxRecDepth 100000 in
theorem mcX9_shares_q50 (V : mV) (l : Launch) (M : mM) (p1 : Int32) (r : Int32) (M' : mM) (hf : fX9_shares_q50 M p1 = some (r, M')) : IC V l yX9_shares cX9_shares 3 ({ frames := 1, cells := 0, slots := 0, locals := 21 } : Room) [.ref (mvA V 50), .int p1] M r M' := by
  unfold fX9_shares_q50 at hf
  refine mw_enterI RX9 rfl (by decide +kernel) (Nat.le_of_ble_eq_true rfl) (fun {p e s m args below meth c} ls A Q hC hret hM hl => ?_)
  have hl : lv_has ls 3 [(0, .ref (mvA V 50)), (1, .int p1)] := hl
  refine lv_aload_n hC.1 hC.2.1 dX9_shares_0 rfl (lv_at hl 0 rfl) ?_
  refine mw_get (v := .ref (mvA V 47)) hC hM 50 (Nat.le_of_ble_eq_true rfl) (eC_50 V) inW9 rfl 0 (by decide) q_309 (fun _ h9 => h9) rfl dX9_shares_1 ?_
  refine lv_bipush hC.1 hC.2.1 dX9_shares_4 cb_12 ?_
  obtain ⟨r1, M3, hq2, hf⟩ := o_b2 hf
  refine mw_cVv (As := [.int 12]) (rest := []) hC hM (mcX10_begins V l M 12 r1 M3 hq2) (mw_kV hC q_1056 q_1043 q_1044 q_108 q_1045 ⟨rfl, rfl⟩ kV_X10_begins ⟨Nat.le_of_ble_eq_true rfl, Nat.le_of_ble_eq_true rfl⟩) (Nat.le_of_ble_eq_true rfl) (eC_47 V) rfl rfl rfl (Nat.le_of_ble_eq_true rfl) hl.1 dX9_shares_6 (fun H locs hM => ?_)
  refine lv_aload_n hC.1 hC.2.1 dX9_shares_9 rfl (lv_at hl 0 rfl) ?_
  refine mw_get (v := .int (M3 50 2)) hC hM 50 (Nat.le_of_ble_eq_true rfl) (eC_50 V) inW9 rfl 2 (by decide) q_326 (fun _ h9 => h9) rfl dX9_shares_10 ?_
  refine lv_aload_n hC.1 hC.2.1 dX9_shares_13 rfl (lv_at hl 0 rfl) ?_
  refine mw_get (v := .int (M3 50 1)) hC hM 50 (Nat.le_of_ble_eq_true rfl) (eC_50 V) inW9 rfl 1 (by decide) q_322 (fun _ h9 => h9) rfl dX9_shares_14 ?_
  refine lv_isub hC.1 hC.2.1 dX9_shares_17 ?_
  refine lv_istore_n (lv' := [(2, .int ((M3 50 2) - (M3 50 1))), (0, .ref (mvA V 50)), (1, .int p1)]) hC.1 hC.2.1 dX9_shares_18 rfl hl (Nat.le_of_ble_eq_true rfl) rfl (fun ls hl => ?_)
  refine lv_iload_n hC.1 hC.2.1 dX9_shares_19 rfl (lv_at hl 0 rfl) ?_
  refine lv_if_ne (tgt := 33) hC.1 hC.2.1 dX9_shares_20 (by decide) (fun hc5 => ?_) (fun hc5 => ?_)
  · have hf := o_f hc5 hf
    refine lv_iload_n hC.1 hC.2.1 dX9_shares_33 rfl (lv_at hl 2 rfl) ?_
    refine lv_iload_n hC.1 hC.2.1 dX9_shares_34 rfl (lv_at hl 0 rfl) ?_
    obtain ⟨hg4, hf⟩ := o_g hf
    refine lv_idiv hC.1 hC.2.1 dX9_shares_35 (nz_ne hg4) ?_
    exact hret (o_r1 hf) (o_r2 hf hM) dX9_shares_36
  · have hf := o_t hc5 hf
    refine lv_aload_n hC.1 hC.2.1 dX9_shares_23 rfl (lv_at hl 1 rfl) ?_
    refine mw_get (v := .ref (mvA V 47)) hC hM 50 (Nat.le_of_ble_eq_true rfl) (eC_50 V) inW9 rfl 0 (by decide) q_309 (fun _ h9 => h9) rfl dX9_shares_24 ?_
    refine lv_iconst hC.1 hC.2.1 dX9_shares_27 ci_1 ?_
    refine mw_put hC hM 47 (Nat.le_of_ble_eq_true rfl) (eC_47 V) inW10 tyX10 tyX10_ok nmX10 rfl 1 (by decide) q_145 (fun _ h9 => h9) rfl (nar_b (Or.inr rfl)) (fit_b (Or.inr rfl)) (Nat.le_of_ble_eq_true rfl) rfl dX9_shares_28 (fun H locs hM => ?_)
    refine lv_iconst hC.1 hC.2.1 dX9_shares_31 ci_0 ?_
    exact hret (o_r1 hf) (o_r2 hf hM) dX9_shares_32
set_option maxHeartbeats 4000000 in
set_option maxRecDepth 100000 in
theorem mcX9_wishes_q51 (V : mV) (l : Launch) (M : mM) (p1 : Int32) (r : Int32) (M' : mM) (hf : fX9_wishes_q51 M p1 = some (r, M')) : IC V l yX9_wishes cX9_wishes 2 ({ frames := 1, cells := 0, slots := 0, locals := 21 } : Room) [.ref (mvA V 51), .int p1] M r M' := by
  unfold fX9_wishes_q51 at hf
  refine mw_enterI RX9 rfl (by decide +kernel) (Nat.le_of_ble_eq_true rfl) (fun {p e s m args below meth c} ls A Q hC hret hM hl => ?_)
  have hl : lv_has ls 2 [(0, .ref (mvA V 51)), (1, .int p1)] := hl
  refine lv_aload_n hC.1 hC.2.1 dX9_wishes_0 rfl (lv_at hl 0 rfl) ?_
  refine mw_get (v := .ref (mvA V 47)) hC hM 51 (Nat.le_of_ble_eq_true rfl) (eC_51 V) inW3 rfl 0 (by decide) q_309 (fun _ h9 => h9) rfl dX9_wishes_1 ?_
  refine lv_bipush hC.1 hC.2.1 dX9_wishes_4 cb_10 ?_
  obtain ⟨r1, M3, hq2, hf⟩ := o_b2 hf
  refine mw_cVv (As := [.int 10]) (rest := []) hC hM (mcX10_begins V l M 10 r1 M3 hq2) (mw_kV hC q_1056 q_1043 q_1044 q_108 q_1045 ⟨rfl, rfl⟩ kV_X10_begins ⟨Nat.le_of_ble_eq_true rfl, Nat.le_of_ble_eq_true rfl⟩) (Nat.le_of_ble_eq_true rfl) (eC_47 V) rfl rfl rfl (Nat.le_of_ble_eq_true rfl) hl.1 dX9_wishes_6 (fun H locs hM => ?_)
  refine lv_iload_n hC.1 hC.2.1 dX9_wishes_9 rfl (lv_at hl 1 rfl) ?_
  refine lv_aload_n hC.1 hC.2.1 dX9_wishes_10 rfl (lv_at hl 0 rfl) ?_
  refine mw_get (v := .int (M3 51 2)) hC hM 51 (Nat.le_of_ble_eq_true rfl) (eC_51 V) inW3 rfl 2 (by decide) q_326 (fun _ h9 => h9) rfl dX9_wishes_11 ?_
  refine lv_iadd hC.1 hC.2.1 dX9_wishes_14 ?_
  exact hret (o_r1 hf) (o_r2 hf hM) dX9_wishes_15
set_option maxHeartbeats 4000000 in
set_option maxRecDepth 100000 in
theorem mcX3_wishes_q51 (V : mV) (l : Launch) (M : mM) (p1 : Int32) (r : Int32) (M' : mM) (hf : fX3_wishes_q51 M p1 = some (r, M')) : IC V l yX3_wishes cX3_wishes 2 ({ frames := 2, cells := 0, slots := 0, locals := 42 } : Room) [.ref (mvA V 51), .int p1] M r M' := by
  unfold fX3_wishes_q51 at hf
  refine mw_enterI RX3 rfl (by decide +kernel) (Nat.le_of_ble_eq_true rfl) (fun {p e s m args below meth c} ls A Q hC hret hM hl => ?_)
  have hl : lv_has ls 2 [(0, .ref (mvA V 51)), (1, .int p1)] := hl
  refine lv_aload_n hC.1 hC.2.1 dX3_wishes_0 rfl (lv_at hl 0 rfl) ?_
  refine mw_get (v := .ref (mvA V 47)) hC hM 51 (Nat.le_of_ble_eq_true rfl) (eC_51 V) inW3 rfl 0 (by decide) q_310 (fun z h9 => u_same (mw_w hC q_311) z h9) rfl dX3_wishes_1 ?_
  refine lv_bipush hC.1 hC.2.1 dX3_wishes_4 cb_20 ?_
  obtain ⟨r1, M3, hq2, hf⟩ := o_b2 hf
  refine mw_cVv (As := [.int 20]) (rest := []) hC hM (mcX10_begins V l M 20 r1 M3 hq2) (mw_kV hC q_1042 q_1043 q_1044 q_108 q_1045 ⟨rfl, rfl⟩ kV_X10_begins ⟨Nat.le_of_ble_eq_true rfl, Nat.le_of_ble_eq_true rfl⟩) (Nat.le_of_ble_eq_true rfl) (eC_47 V) rfl rfl rfl (Nat.le_of_ble_eq_true rfl) hl.1 dX3_wishes_6 (fun H locs hM => ?_)
  refine lv_aload_n hC.1 hC.2.1 dX3_wishes_9 rfl (lv_at hl 0 rfl) ?_
  refine lv_iload_n hC.1 hC.2.1 dX3_wishes_10 rfl (lv_at hl 1 rfl) ?_
  obtain ⟨r4, M6, hq5, hf⟩ := o_b2 hf
  refine mw_cUi (As := [.int p1]) (rest := []) hC hM (mcX9_wishes_q51 V l M3 p1 r4 M6 hq5) (mw_kU hC q_1046 q_1036 q_346 q_1034 q_112 q_1055 ⟨rfl, rfl⟩ kU_X9_wishes ⟨Nat.le_of_ble_eq_true rfl, Nat.le_of_ble_eq_true rfl⟩) (Nat.le_of_ble_eq_true rfl) (eC_51 V) rfl rfl rfl (Nat.le_of_ble_eq_true rfl) hl.1 dX3_wishes_11 (fun H locs hM _ => ?_)
  refine lv_iconst hC.1 hC.2.1 dX3_wishes_14 ci_2 ?_
  refine lv_imul hC.1 hC.2.1 dX3_wishes_15 ?_
  exact hret (o_r1 hf) (o_r2 hf hM) dX3_wishes_16
set_option maxHeartbeats 4000000 in
set_option maxRecDepth 100000 in
theorem mcX9_sways_q51 (V : mV) (l : Launch) (M : mM) (p1 : Int32) (r : Int32) (M' : mM) (hf : fX9_sways_q51 M p1 = some (r, M')) : IC V l yX9_sways cX9_sways 2 ({ frames := 3, cells := 0, slots := 0, locals := 63 } : Room) [.ref (mvA V 51), .int p1] M r M' := by
  unfold fX9_sways_q51 at hf
  refine mw_enterI RX9 rfl (by decide +kernel) (Nat.le_of_ble_eq_true rfl) (fun {p e s m args below meth c} ls A Q hC hret hM hl => ?_)
  have hl : lv_has ls 2 [(0, .ref (mvA V 51)), (1, .int p1)] := hl
  refine lv_aload_n hC.1 hC.2.1 dX9_sways_0 rfl (lv_at hl 0 rfl) ?_
  refine mw_get (v := .ref (mvA V 47)) hC hM 51 (Nat.le_of_ble_eq_true rfl) (eC_51 V) inW3 rfl 0 (by decide) q_309 (fun _ h9 => h9) rfl dX9_sways_1 ?_
  refine lv_bipush hC.1 hC.2.1 dX9_sways_4 cb_11 ?_
  obtain ⟨r1, M3, hq2, hf⟩ := o_b2 hf
  refine mw_cVv (As := [.int 11]) (rest := []) hC hM (mcX10_begins V l M 11 r1 M3 hq2) (mw_kV hC q_1056 q_1043 q_1044 q_108 q_1045 ⟨rfl, rfl⟩ kV_X10_begins ⟨Nat.le_of_ble_eq_true rfl, Nat.le_of_ble_eq_true rfl⟩) (Nat.le_of_ble_eq_true rfl) (eC_47 V) rfl rfl rfl (Nat.le_of_ble_eq_true rfl) hl.1 dX9_sways_6 (fun H locs hM => ?_)
  refine lv_aload_n hC.1 hC.2.1 dX9_sways_9 rfl (lv_at hl 0 rfl) ?_
  refine lv_iload_n hC.1 hC.2.1 dX9_sways_10 rfl (lv_at hl 1 rfl) ?_
  obtain ⟨r4, M6, hq5, hf⟩ := o_b2 hf
  refine mw_cOi (As := [.int p1]) (rest := []) hC hM (mcX3_wishes_q51 V l M3 p1 r4 M6 hq5) (mw_kO (owner := RX9) hC q_1077 q_1036 q_1034 q_1039 q_1040 q_113 q_1041 q_1055 ⟨rfl, rfl⟩ kO_X9_wishes ⟨Nat.le_of_ble_eq_true rfl, Nat.le_of_ble_eq_true rfl⟩) (Nat.le_of_ble_eq_true rfl) (eC_51 V) rfl rfl rfl (Nat.le_of_ble_eq_true rfl) hl.1 dX9_sways_11 (fun H locs hM _ => ?_)
  refine lv_aload_n hC.1 hC.2.1 dX9_sways_14 rfl (lv_at hl 0 rfl) ?_
  refine mw_get (v := .int (M6 51 1)) hC hM 51 (Nat.le_of_ble_eq_true rfl) (eC_51 V) inW3 rfl 1 (by decide) q_322 (fun _ h9 => h9) rfl dX9_sways_15 ?_
  refine lv_isub hC.1 hC.2.1 dX9_sways_18 ?_
  exact hret (o_r1 hf) (o_r2 hf hM) dX9_sways_19
set_option maxHeartbeats 4000000 in
set_option maxRecDepth 100000 in
theorem mcX9_tells_q51 (V : mV) (l : Launch) (M : mM) (p1 : Int32) (r : Int32) (M' : mM) (hf : fX9_tells_q51 M p1 = some (r, M')) : IC V l yX9_tells cX9_tells 2 ({ frames := 4, cells := 0, slots := 0, locals := 84 } : Room) [.ref (mvA V 51), .int p1] M r M' := by
  unfold fX9_tells_q51 at hf
  refine mw_enterI RX9 rfl (by decide +kernel) (Nat.le_of_ble_eq_true rfl) (fun {p e s m args below meth c} ls A Q hC hret hM hl => ?_)
  have hl : lv_has ls 2 [(0, .ref (mvA V 51)), (1, .int p1)] := hl
  refine lv_aload_n hC.1 hC.2.1 dX9_tells_0 rfl (lv_at hl 0 rfl) ?_
  refine mw_get (v := .ref (mvA V 47)) hC hM 51 (Nat.le_of_ble_eq_true rfl) (eC_51 V) inW3 rfl 0 (by decide) q_309 (fun _ h9 => h9) rfl dX9_tells_1 ?_
  refine lv_bipush hC.1 hC.2.1 dX9_tells_4 cb_13 ?_
  obtain ⟨r1, M3, hq2, hf⟩ := o_b2 hf
  refine mw_cVv (As := [.int 13]) (rest := []) hC hM (mcX10_begins V l M 13 r1 M3 hq2) (mw_kV hC q_1056 q_1043 q_1044 q_108 q_1045 ⟨rfl, rfl⟩ kV_X10_begins ⟨Nat.le_of_ble_eq_true rfl, Nat.le_of_ble_eq_true rfl⟩) (Nat.le_of_ble_eq_true rfl) (eC_47 V) rfl rfl rfl (Nat.le_of_ble_eq_true rfl) hl.1 dX9_tells_6 (fun H locs hM => ?_)
  refine lv_aload_n hC.1 hC.2.1 dX9_tells_9 rfl (lv_at hl 0 rfl) ?_
  refine lv_iload_n hC.1 hC.2.1 dX9_tells_10 rfl (lv_at hl 1 rfl) ?_
  obtain ⟨r4, M6, hq5, hf⟩ := o_b2 hf
  refine mw_cOi (As := [.int p1]) (rest := []) hC hM (mcX9_sways_q51 V l M3 p1 r4 M6 hq5) (mw_kO (owner := RX9) hC q_1117 q_1060 q_1058 q_1067 q_1058 q_112 q_1076 q_1076 ⟨rfl, rfl⟩ kO_X9_sways ⟨Nat.le_of_ble_eq_true rfl, Nat.le_of_ble_eq_true rfl⟩) (Nat.le_of_ble_eq_true rfl) (eC_51 V) rfl rfl rfl (Nat.le_of_ble_eq_true rfl) hl.1 dX9_tells_11 (fun H locs hM _ => ?_)
  refine lv_aload_n hC.1 hC.2.1 dX9_tells_14 rfl (lv_at hl 0 rfl) ?_
  refine mw_get (v := .int (M6 51 2)) hC hM 51 (Nat.le_of_ble_eq_true rfl) (eC_51 V) inW3 rfl 2 (by decide) q_326 (fun _ h9 => h9) rfl dX9_tells_15 ?_
  refine lv_ixor hC.1 hC.2.1 dX9_tells_18 ?_
  exact hret (o_r1 hf) (o_r2 hf hM) dX9_tells_19
set_option maxHeartbeats 4000000 in
set_option maxRecDepth 100000 in
theorem mcX9_shares_q51 (V : mV) (l : Launch) (M : mM) (p1 : Int32) (r : Int32) (M' : mM) (hf : fX9_shares_q51 M p1 = some (r, M')) : IC V l yX9_shares cX9_shares 3 ({ frames := 1, cells := 0, slots := 0, locals := 21 } : Room) [.ref (mvA V 51), .int p1] M r M' := by
  unfold fX9_shares_q51 at hf
  refine mw_enterI RX9 rfl (by decide +kernel) (Nat.le_of_ble_eq_true rfl) (fun {p e s m args below meth c} ls A Q hC hret hM hl => ?_)
  have hl : lv_has ls 3 [(0, .ref (mvA V 51)), (1, .int p1)] := hl
  refine lv_aload_n hC.1 hC.2.1 dX9_shares_0 rfl (lv_at hl 0 rfl) ?_
  refine mw_get (v := .ref (mvA V 47)) hC hM 51 (Nat.le_of_ble_eq_true rfl) (eC_51 V) inW3 rfl 0 (by decide) q_309 (fun _ h9 => h9) rfl dX9_shares_1 ?_
  refine lv_bipush hC.1 hC.2.1 dX9_shares_4 cb_12 ?_
  obtain ⟨r1, M3, hq2, hf⟩ := o_b2 hf
  refine mw_cVv (As := [.int 12]) (rest := []) hC hM (mcX10_begins V l M 12 r1 M3 hq2) (mw_kV hC q_1056 q_1043 q_1044 q_108 q_1045 ⟨rfl, rfl⟩ kV_X10_begins ⟨Nat.le_of_ble_eq_true rfl, Nat.le_of_ble_eq_true rfl⟩) (Nat.le_of_ble_eq_true rfl) (eC_47 V) rfl rfl rfl (Nat.le_of_ble_eq_true rfl) hl.1 dX9_shares_6 (fun H locs hM => ?_)
  refine lv_aload_n hC.1 hC.2.1 dX9_shares_9 rfl (lv_at hl 0 rfl) ?_
  refine mw_get (v := .int (M3 51 2)) hC hM 51 (Nat.le_of_ble_eq_true rfl) (eC_51 V) inW3 rfl 2 (by decide) q_326 (fun _ h9 => h9) rfl dX9_shares_10 ?_
  refine lv_aload_n hC.1 hC.2.1 dX9_shares_13 rfl (lv_at hl 0 rfl) ?_
  refine mw_get (v := .int (M3 51 1)) hC hM 51 (Nat.le_of_ble_eq_true rfl) (eC_51 V) inW3 rfl 1 (by decide) q_322 (fun _ h9 => h9) rfl dX9_shares_14 ?_
  refine lv_isub hC.1 hC.2.1 dX9_shares_17 ?_
  refine lv_istore_n (lv' := [(2, .int ((M3 51 2) - (M3 51 1))), (0, .ref (mvA V 51)), (1, .int p1)]) hC.1 hC.2.1 dX9_shares_18 rfl hl (Nat.le_of_ble_eq_true rfl) rfl (fun ls hl => ?_)
  refine lv_iload_n hC.1 hC.2.1 dX9_shares_19 rfl (lv_at hl 0 rfl) ?_
  refine lv_if_ne (tgt := 33) hC.1 hC.2.1 dX9_shares_20 (by decide) (fun hc5 => ?_) (fun hc5 => ?_)
  · have hf := o_f hc5 hf
    refine lv_iload_n hC.1 hC.2.1 dX9_shares_33 rfl (lv_at hl 2 rfl) ?_
    refine lv_iload_n hC.1 hC.2.1 dX9_shares_34 rfl (lv_at hl 0 rfl) ?_
    obtain ⟨hg4, hf⟩ := o_g hf
    refine lv_idiv hC.1 hC.2.1 dX9_shares_35 (nz_ne hg4) ?_
    exact hret (o_r1 hf) (o_r2 hf hM) dX9_shares_36
  · have hf := o_t hc5 hf
    refine lv_aload_n hC.1 hC.2.1 dX9_shares_23 rfl (lv_at hl 1 rfl) ?_
    refine mw_get (v := .ref (mvA V 47)) hC hM 51 (Nat.le_of_ble_eq_true rfl) (eC_51 V) inW3 rfl 0 (by decide) q_309 (fun _ h9 => h9) rfl dX9_shares_24 ?_
    refine lv_iconst hC.1 hC.2.1 dX9_shares_27 ci_1 ?_
    refine mw_put hC hM 47 (Nat.le_of_ble_eq_true rfl) (eC_47 V) inW10 tyX10 tyX10_ok nmX10 rfl 1 (by decide) q_145 (fun _ h9 => h9) rfl (nar_b (Or.inr rfl)) (fit_b (Or.inr rfl)) (Nat.le_of_ble_eq_true rfl) rfl dX9_shares_28 (fun H locs hM => ?_)
    refine lv_iconst hC.1 hC.2.1 dX9_shares_31 ci_0 ?_
    exact hret (o_r1 hf) (o_r2 hf hM) dX9_shares_32
set_option maxHeartbeats 4000000 in
set_option maxRecDepth 100000 in
theorem mcX9_wishes_q52 (V : mV) (l : Launch) (M : mM) (p1 : Int32) (r : Int32) (M' : mM) (hf : fX9_wishes_q52 M p1 = some (r, M')) : IC V l yX9_wishes cX9_wishes 2 ({ frames := 1, cells := 0, slots := 0, locals := 21 } : Room) [.ref (mvA V 52), .int p1] M r M' := by
  unfold fX9_wishes_q52 at hf
  refine mw_enterI RX9 rfl (by decide +kernel) (Nat.le_of_ble_eq_true rfl) (fun {p e s m args below meth c} ls A Q hC hret hM hl => ?_)
  have hl : lv_has ls 2 [(0, .ref (mvA V 52)), (1, .int p1)] := hl
  refine lv_aload_n hC.1 hC.2.1 dX9_wishes_0 rfl (lv_at hl 0 rfl) ?_
  refine mw_get (v := .ref (mvA V 47)) hC hM 52 (Nat.le_of_ble_eq_true rfl) (eC_52 V) inW1 rfl 0 (by decide) q_309 (fun _ h9 => h9) rfl dX9_wishes_1 ?_
  refine lv_bipush hC.1 hC.2.1 dX9_wishes_4 cb_10 ?_
  obtain ⟨r1, M3, hq2, hf⟩ := o_b2 hf
  refine mw_cVv (As := [.int 10]) (rest := []) hC hM (mcX10_begins V l M 10 r1 M3 hq2) (mw_kV hC q_1056 q_1043 q_1044 q_108 q_1045 ⟨rfl, rfl⟩ kV_X10_begins ⟨Nat.le_of_ble_eq_true rfl, Nat.le_of_ble_eq_true rfl⟩) (Nat.le_of_ble_eq_true rfl) (eC_47 V) rfl rfl rfl (Nat.le_of_ble_eq_true rfl) hl.1 dX9_wishes_6 (fun H locs hM => ?_)
  refine lv_iload_n hC.1 hC.2.1 dX9_wishes_9 rfl (lv_at hl 1 rfl) ?_
  refine lv_aload_n hC.1 hC.2.1 dX9_wishes_10 rfl (lv_at hl 0 rfl) ?_
  refine mw_get (v := .int (M3 52 2)) hC hM 52 (Nat.le_of_ble_eq_true rfl) (eC_52 V) inW1 rfl 2 (by decide) q_326 (fun _ h9 => h9) rfl dX9_wishes_11 ?_
  refine lv_iadd hC.1 hC.2.1 dX9_wishes_14 ?_
  exact hret (o_r1 hf) (o_r2 hf hM) dX9_wishes_15
set_option maxHeartbeats 4000000 in
set_option maxRecDepth 100000 in
theorem mcX9_sways_q52 (V : mV) (l : Launch) (M : mM) (p1 : Int32) (r : Int32) (M' : mM) (hf : fX9_sways_q52 M p1 = some (r, M')) : IC V l yX9_sways cX9_sways 2 ({ frames := 2, cells := 0, slots := 0, locals := 42 } : Room) [.ref (mvA V 52), .int p1] M r M' := by
  unfold fX9_sways_q52 at hf
  refine mw_enterI RX9 rfl (by decide +kernel) (Nat.le_of_ble_eq_true rfl) (fun {p e s m args below meth c} ls A Q hC hret hM hl => ?_)
  have hl : lv_has ls 2 [(0, .ref (mvA V 52)), (1, .int p1)] := hl
  refine lv_aload_n hC.1 hC.2.1 dX9_sways_0 rfl (lv_at hl 0 rfl) ?_
  refine mw_get (v := .ref (mvA V 47)) hC hM 52 (Nat.le_of_ble_eq_true rfl) (eC_52 V) inW1 rfl 0 (by decide) q_309 (fun _ h9 => h9) rfl dX9_sways_1 ?_
  refine lv_bipush hC.1 hC.2.1 dX9_sways_4 cb_11 ?_
  obtain ⟨r1, M3, hq2, hf⟩ := o_b2 hf
  refine mw_cVv (As := [.int 11]) (rest := []) hC hM (mcX10_begins V l M 11 r1 M3 hq2) (mw_kV hC q_1056 q_1043 q_1044 q_108 q_1045 ⟨rfl, rfl⟩ kV_X10_begins ⟨Nat.le_of_ble_eq_true rfl, Nat.le_of_ble_eq_true rfl⟩) (Nat.le_of_ble_eq_true rfl) (eC_47 V) rfl rfl rfl (Nat.le_of_ble_eq_true rfl) hl.1 dX9_sways_6 (fun H locs hM => ?_)
  refine lv_aload_n hC.1 hC.2.1 dX9_sways_9 rfl (lv_at hl 0 rfl) ?_
  refine lv_iload_n hC.1 hC.2.1 dX9_sways_10 rfl (lv_at hl 1 rfl) ?_
  obtain ⟨r4, M6, hq5, hf⟩ := o_b2 hf
  refine mw_cOi (As := [.int p1]) (rest := []) hC hM (mcX9_wishes_q52 V l M3 p1 r4 M6 hq5) (mw_kO (owner := RX9) hC q_1077 q_1036 q_1034 q_1038 q_1034 q_112 q_1055 q_1055 ⟨rfl, rfl⟩ kO_X9_wishes ⟨Nat.le_of_ble_eq_true rfl, Nat.le_of_ble_eq_true rfl⟩) (Nat.le_of_ble_eq_true rfl) (eC_52 V) rfl rfl rfl (Nat.le_of_ble_eq_true rfl) hl.1 dX9_sways_11 (fun H locs hM _ => ?_)
  refine lv_aload_n hC.1 hC.2.1 dX9_sways_14 rfl (lv_at hl 0 rfl) ?_
  refine mw_get (v := .int (M6 52 1)) hC hM 52 (Nat.le_of_ble_eq_true rfl) (eC_52 V) inW1 rfl 1 (by decide) q_322 (fun _ h9 => h9) rfl dX9_sways_15 ?_
  refine lv_isub hC.1 hC.2.1 dX9_sways_18 ?_
  exact hret (o_r1 hf) (o_r2 hf hM) dX9_sways_19
