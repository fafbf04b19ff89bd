set_option maxHeartbeats 4000000 in
set_option maxRecDepth 100000 in
theorem mcX11_change (V : mV) (l : Launch) (M : mM) (p1 : Int32) (p2 : Int32) (p3 : Int32) (r : Int32) (M' : mM) (hf : fX11_change M p1 p2 p3 = some (r, M')) : IC V l yX11_change cX11_change 6 ({ frames := 3, cells := 0, slots := 0, locals := 63 } : Room) [.ref (mvA V 0), .int p1, .int p2, .int p3] M r M' := by
  unfold fX11_change at hf
  refine mw_enterI RX11 rfl (by decide +kernel) (Nat.le_of_ble_eq_true rfl) (fun {p e s m args below meth c} ls A Q hC hret hM hl => ?_)
  have hl : lv_has ls 6 [(0, .ref (mvA V 0)), (1, .int p1), (2, .int p2), (3, .int p3)] := hl
  have hL55 : ∀ (M : mM) (x1 : Int32) (x3 : Int32) (H : Heap) (locs : List Loc) (ls : Array Slot), fX11_change_L55 M x1 x3 = some (r, M') → PC V M A s H locs → lv_has ls 6 [(0, .ref (mvA V 0)), (1, .int x1), (3, .int x3)] → W p l e ({ frames := 3, cells := 0, slots := 0, locals := 63 } : Room) s m args below meth c H locs 0 0 Q (F0 m 55 ls [.ref (mvA V 5)]) := by
    intro M x1 x3 H locs ls hf hM hl
    unfold fX11_change_L55 at hf
    refine lv_astore (lv' := [(4, .ref (mvA V 5)), (0, .ref (mvA V 0)), (1, .int x1), (3, .int x3)]) hC.1 hC.2.1 dX11_change_55 hl (Nat.le_of_ble_eq_true rfl) rfl (fun ls hl => ?_)
    refine lv_aload hC.1 hC.2.1 dX11_change_57 (lv_at hl 0 rfl) ?_
    refine lv_iload_n hC.1 hC.2.1 dX11_change_59 rfl (lv_at hl 2 rfl) ?_
    obtain ⟨hg7, hf⟩ := o_g hf
    refine mw_iald hC hM 5 0 (Nat.le_of_ble_eq_true rfl) (eC_5 V) rfl hg7 dX11_change_60 ?_
    refine lv_istore (lv' := [(5, .int (M 5 (Int32.toNatClampNeg x1))), (4, .ref (mvA V 5)), (0, .ref (mvA V 0)), (1, .int x1), (3, .int x3)]) hC.1 hC.2.1 dX11_change_61 hl (Nat.le_of_ble_eq_true rfl) rfl (fun ls hl => ?_)
    refine lv_aload hC.1 hC.2.1 dX11_change_63 (lv_at hl 1 rfl) ?_
    refine lv_iload_n hC.1 hC.2.1 dX11_change_65 rfl (lv_at hl 3 rfl) ?_
    refine lv_iload_n hC.1 hC.2.1 dX11_change_66 rfl (lv_at hl 4 rfl) ?_
    obtain ⟨hg8, hf⟩ := o_g hf
    refine mw_iast hC hM 5 0 (Nat.le_of_ble_eq_true rfl) (eC_5 V) rfl hg8 dX11_change_67 (fun H locs hM => ?_)
    refine lv_aload_n hC.1 hC.2.1 dX11_change_68 rfl (lv_at hl 2 rfl) ?_
    obtain ⟨r9, M11, hq10, hf⟩ := o_b2 hf
    refine mw_cVv (As := []) (rest := []) hC hM (mcX11_forgetSums V l (wr M 5 (Int32.toNatClampNeg x1) x3) r9 M11 hq10) (mw_kV hC q_416 q_418 q_0 q_107 q_419 ⟨rfl, rfl⟩ kV_X11_forgetSums ⟨Nat.le_of_ble_eq_true rfl, Nat.le_of_ble_eq_true rfl⟩) (Nat.le_of_ble_eq_true rfl) (eC_0 V) rfl rfl rfl (Nat.le_of_ble_eq_true rfl) hl.1 dX11_change_69 (fun H locs hM => ?_)
    refine lv_iload hC.1 hC.2.1 dX11_change_72 (lv_at hl 0 rfl) ?_
    exact hret (o_r1 hf) (o_r2 hf hM) dX11_change_74
  have hL55_1 : ∀ (M : mM) (x1 : Int32) (x3 : Int32) (H : Heap) (locs : List Loc) (ls : Array Slot), fX11_change_L55_1 M x1 x3 = some (r, M') → PC V M A s H locs → lv_has ls 6 [(0, .ref (mvA V 0)), (1, .int x1), (3, .int x3)] → W p l e ({ frames := 3, cells := 0, slots := 0, locals := 63 } : Room) s m args below meth c H locs 0 0 Q (F0 m 55 ls [.ref (mvA V 4)]) := by
    intro M x1 x3 H locs ls hf hM hl
    unfold fX11_change_L55_1 at hf
    refine lv_astore (lv' := [(4, .ref (mvA V 4)), (0, .ref (mvA V 0)), (1, .int x1), (3, .int x3)]) hC.1 hC.2.1 dX11_change_55 hl (Nat.le_of_ble_eq_true rfl) rfl (fun ls hl => ?_)
    refine lv_aload hC.1 hC.2.1 dX11_change_57 (lv_at hl 0 rfl) ?_
    refine lv_iload_n hC.1 hC.2.1 dX11_change_59 rfl (lv_at hl 2 rfl) ?_
    obtain ⟨hg12, hf⟩ := o_g hf
    refine mw_iald hC hM 4 0 (Nat.le_of_ble_eq_true rfl) (eC_4 V) rfl hg12 dX11_change_60 ?_
    refine lv_istore (lv' := [(5, .int (M 4 (Int32.toNatClampNeg x1))), (4, .ref (mvA V 4)), (0, .ref (mvA V 0)), (1, .int x1), (3, .int x3)]) hC.1 hC.2.1 dX11_change_61 hl (Nat.le_of_ble_eq_true rfl) rfl (fun ls hl => ?_)
    refine lv_aload hC.1 hC.2.1 dX11_change_63 (lv_at hl 1 rfl) ?_
    refine lv_iload_n hC.1 hC.2.1 dX11_change_65 rfl (lv_at hl 3 rfl) ?_
    refine lv_iload_n hC.1 hC.2.1 dX11_change_66 rfl (lv_at hl 4 rfl) ?_
    obtain ⟨hg13, hf⟩ := o_g hf
    refine mw_iast hC hM 4 0 (Nat.le_of_ble_eq_true rfl) (eC_4 V) rfl hg13 dX11_change_67 (fun H locs hM => ?_)
    refine lv_aload_n hC.1 hC.2.1 dX11_change_68 rfl (lv_at hl 2 rfl) ?_
    obtain ⟨r14, M16, hq15, hf⟩ := o_b2 hf
    refine mw_cVv (As := []) (rest := []) hC hM (mcX11_forgetSums V l (wr M 4 (Int32.toNatClampNeg x1) x3) r14 M16 hq15) (mw_kV hC q_416 q_418 q_0 q_107 q_419 ⟨rfl, rfl⟩ kV_X11_forgetSums ⟨Nat.le_of_ble_eq_true rfl, Nat.le_of_ble_eq_true rfl⟩) (Nat.le_of_ble_eq_true rfl) (eC_0 V) rfl rfl rfl (Nat.le_of_ble_eq_true rfl) hl.1 dX11_change_69 (fun H locs hM => ?_)
    refine lv_iload hC.1 hC.2.1 dX11_change_72 (lv_at hl 0 rfl) ?_
    exact hret (o_r1 hf) (o_r2 hf hM) dX11_change_74
  have hL55_2 : ∀ (M : mM) (x1 : Int32) (x3 : Int32) (H : Heap) (locs : List Loc) (ls : Array Slot), fX11_change_L55_2 M x1 x3 = some (r, M') → PC V M A s H locs → lv_has ls 6 [(0, .ref (mvA V 0)), (1, .int x1), (3, .int x3)] → W p l e ({ frames := 3, cells := 0, slots := 0, locals := 63 } : Room) s m args below meth c H locs 0 0 Q (F0 m 55 ls [.ref (mvA V 3)]) := by
    intro M x1 x3 H locs ls hf hM hl
    unfold fX11_change_L55_2 at hf
    refine lv_astore (lv' := [(4, .ref (mvA V 3)), (0, .ref (mvA V 0)), (1, .int x1), (3, .int x3)]) hC.1 hC.2.1 dX11_change_55 hl (Nat.le_of_ble_eq_true rfl) rfl (fun ls hl => ?_)
    refine lv_aload hC.1 hC.2.1 dX11_change_57 (lv_at hl 0 rfl) ?_
    refine lv_iload_n hC.1 hC.2.1 dX11_change_59 rfl (lv_at hl 2 rfl) ?_
    obtain ⟨hg17, hf⟩ := o_g hf
    refine mw_iald hC hM 3 0 (Nat.le_of_ble_eq_true rfl) (eC_3 V) rfl hg17 dX11_change_60 ?_
    refine lv_istore (lv' := [(5, .int (M 3 (Int32.toNatClampNeg x1))), (4, .ref (mvA V 3)), (0, .ref (mvA V 0)), (1, .int x1), (3, .int x3)]) hC.1 hC.2.1 dX11_change_61 hl (Nat.le_of_ble_eq_true rfl) rfl (fun ls hl => ?_)
    refine lv_aload hC.1 hC.2.1 dX11_change_63 (lv_at hl 1 rfl) ?_
    refine lv_iload_n hC.1 hC.2.1 dX11_change_65 rfl (lv_at hl 3 rfl) ?_
    refine lv_iload_n hC.1 hC.2.1 dX11_change_66 rfl (lv_at hl 4 rfl) ?_
    obtain ⟨hg18, hf⟩ := o_g hf
    refine mw_iast hC hM 3 0 (Nat.le_of_ble_eq_true rfl) (eC_3 V) rfl hg18 dX11_change_67 (fun H locs hM => ?_)
    refine lv_aload_n hC.1 hC.2.1 dX11_change_68 rfl (lv_at hl 2 rfl) ?_
    obtain ⟨r19, M21, hq20, hf⟩ := o_b2 hf
    refine mw_cVv (As := []) (rest := []) hC hM (mcX11_forgetSums V l (wr M 3 (Int32.toNatClampNeg x1) x3) r19 M21 hq20) (mw_kV hC q_416 q_418 q_0 q_107 q_419 ⟨rfl, rfl⟩ kV_X11_forgetSums ⟨Nat.le_of_ble_eq_true rfl, Nat.le_of_ble_eq_true rfl⟩) (Nat.le_of_ble_eq_true rfl) (eC_0 V) rfl rfl rfl (Nat.le_of_ble_eq_true rfl) hl.1 dX11_change_69 (fun H locs hM => ?_)
    refine lv_iload hC.1 hC.2.1 dX11_change_72 (lv_at hl 0 rfl) ?_
    exact hret (o_r1 hf) (o_r2 hf hM) dX11_change_74
  refine lv_aload_n hC.1 hC.2.1 dX11_change_0 rfl (lv_at hl 0 rfl) ?_
  refine lv_iload_n hC.1 hC.2.1 dX11_change_1 rfl (lv_at hl 1 rfl) ?_
  refine mw_cVi (As := [.int p1]) (rest := []) hC hM (mcX11_isVoter V l M p1 _ rfl) (mw_kV hC q_481 q_483 q_1 q_107 q_484 ⟨rfl, rfl⟩ kV_X11_isVoter ⟨Nat.le_of_ble_eq_true rfl, Nat.le_of_ble_eq_true rfl⟩) (Nat.le_of_ble_eq_true rfl) (eC_0 V) rfl rfl rfl (Nat.le_of_ble_eq_true rfl) hl.1 dX11_change_2 (fun H locs hM hb1 => ?_)
  refine lv_if_eq (tgt := 16) hC.1 hC.2.1 dX11_change_5 (by decide) (fun hc6 => ?_) (fun hc6 => ?_)
  · have hf := o_t hc6 hf
    refine lv_iconst hC.1 hC.2.1 dX11_change_16 ci_m1 ?_
    exact hret (o_r1 hf) (o_r2 hf hM) dX11_change_17
  · have hf := o_f hc6 hf
    refine lv_iload_n hC.1 hC.2.1 dX11_change_8 rfl (lv_at hl 2 rfl) ?_
    refine lv_iload_n hC.1 hC.2.1 dX11_change_9 rfl (lv_at hl 3 rfl) ?_
    refine mw_cSi (As := [.int p2, .int p3]) (rest := []) hC hM (mcX11_suits V l M p2 p3 _ rfl) (mw_kS hC q_471 q_472 q_107 q_473 ⟨rfl, rfl⟩ kS_X11_suits ⟨Nat.le_of_ble_eq_true rfl, Nat.le_of_ble_eq_true rfl⟩) rfl rfl (Nat.le_of_ble_eq_true rfl) hl.1 dX11_change_10 (fun H locs hM hb2 => ?_)
    refine lv_if_ne (tgt := 18) hC.1 hC.2.1 dX11_change_13 (by decide) (fun hc5 => ?_) (fun hc5 => ?_)
    · have hf := o_f hc5 hf
      refine lv_iload_n hC.1 hC.2.1 dX11_change_18 rfl (lv_at hl 2 rfl) ?_
      refine lv_iconst hC.1 hC.2.1 dX11_change_19 ci_1 ?_
      refine lv_icmp_ne (tgt := 33) hC.1 hC.2.1 dX11_change_20 (by decide) (fun hc4 => ?_) (fun hc4 => ?_)
      · have hf := o_f hc4 hf
        refine lv_iload_n hC.1 hC.2.1 dX11_change_33 rfl (lv_at hl 2 rfl) ?_
        refine lv_iconst hC.1 hC.2.1 dX11_change_34 ci_2 ?_
        refine lv_icmp_ne (tgt := 48) hC.1 hC.2.1 dX11_change_35 (by decide) (fun hc3 => ?_) (fun hc3 => ?_)
        · have hf := o_f hc3 hf
          refine lv_aload_n hC.1 hC.2.1 dX11_change_48 rfl (lv_at hl 0 rfl) ?_
          refine mw_get (v := .ref (mvA V 1)) hC hM 0 (Nat.le_of_ble_eq_true rfl) (eC_0 V) inW11 rfl 0 (by decide) q_424 (fun _ h9 => h9) rfl dX11_change_49 ?_
          refine mw_get (v := .ref (mvA V 5)) hC hM 1 (Nat.le_of_ble_eq_true rfl) (eC_1 V) inW4 rfl 4 (by decide) q_215 (fun _ h9 => h9) rfl dX11_change_52 ?_
          exact hL55 _ _ _ _ _ _ hf hM (lv_sub hl [0, 1, 3] rfl)
        · have hf := o_t hc3 hf
          refine lv_aload_n hC.1 hC.2.1 dX11_change_38 rfl (lv_at hl 0 rfl) ?_
          refine mw_get (v := .ref (mvA V 1)) hC hM 0 (Nat.le_of_ble_eq_true rfl) (eC_0 V) inW11 rfl 0 (by decide) q_424 (fun _ h9 => h9) rfl dX11_change_39 ?_
          refine mw_get (v := .ref (mvA V 4)) hC hM 1 (Nat.le_of_ble_eq_true rfl) (eC_1 V) inW4 rfl 3 (by decide) q_213 (fun _ h9 => h9) rfl dX11_change_42 ?_
          refine lv_goto (tgt := 55) hC.1 hC.2.1 dX11_change_45 (by decide) ?_
          exact hL55_1 _ _ _ _ _ _ hf hM (lv_sub hl [0, 1, 3] rfl)
      · have hf := o_t hc4 hf
        refine lv_aload_n hC.1 hC.2.1 dX11_change_23 rfl (lv_at hl 0 rfl) ?_
        refine mw_get (v := .ref (mvA V 1)) hC hM 0 (Nat.le_of_ble_eq_true rfl) (eC_0 V) inW11 rfl 0 (by decide) q_424 (fun _ h9 => h9) rfl dX11_change_24 ?_
        refine mw_get (v := .ref (mvA V 3)) hC hM 1 (Nat.le_of_ble_eq_true rfl) (eC_1 V) inW4 rfl 2 (by decide) q_211 (fun _ h9 => h9) rfl dX11_change_27 ?_
        refine lv_goto (tgt := 55) hC.1 hC.2.1 dX11_change_30 (by decide) ?_
        exact hL55_2 _ _ _ _ _ _ hf hM (lv_sub hl [0, 1, 3] rfl)
    · have hf := o_t hc5 hf
      refine lv_iconst hC.1 hC.2.1 dX11_change_16 ci_m1 ?_
      exact hret (o_r1 hf) (o_r2 hf hM) dX11_change_17
set_option maxHeartbeats 4000000 in
set_option maxRecDepth 100000 in
theorem mcX11_remake (V : mV) (l : Launch) (M : mM) (p1 : Int32) (p2 : Int32) (r : Int32) (M' : mM) (hf : fX11_remake M p1 p2 = some (r, M')) : IC V l yX11_remake cX11_remake 4 ({ frames := 2, cells := 0, slots := 0, locals := 43 } : Room) [.ref (mvA V 0), .int p1, .int p2] M r M' := by
  unfold fX11_remake at hf
  refine mw_enterI RX11 rfl (by decide +kernel) (Nat.le_of_ble_eq_true rfl) (fun {p e s m args below meth c} ls A Q hC hret hM hl => ?_)
  have hl : lv_has ls 4 [(0, .ref (mvA V 0)), (1, .int p1), (2, .int p2)] := hl
  refine lv_aload_n hC.1 hC.2.1 dX11_remake_0 rfl (lv_at hl 0 rfl) ?_
  refine lv_iload_n hC.1 hC.2.1 dX11_remake_1 rfl (lv_at hl 1 rfl) ?_
  refine mw_cVi (As := [.int p1]) (rest := []) hC hM (mcX11_isVoter V l M p1 _ rfl) (mw_kV hC q_481 q_483 q_1 q_107 q_484 ⟨rfl, rfl⟩ kV_X11_isVoter ⟨Nat.le_of_ble_eq_true rfl, Nat.le_of_ble_eq_true rfl⟩) (Nat.le_of_ble_eq_true rfl) (eC_0 V) rfl rfl rfl (Nat.le_of_ble_eq_true rfl) hl.1 dX11_remake_2 (fun H locs hM hb1 => ?_)
  refine lv_if_eq (tgt := 17) hC.1 hC.2.1 dX11_remake_5 (by decide) (fun hc9 => ?_) (fun hc9 => ?_)
  · have hf := o_t hc9 hf
    refine lv_iconst hC.1 hC.2.1 dX11_remake_17 ci_m1 ?_
    exact hret (o_r1 hf) (o_r2 hf hM) dX11_remake_18
  · have hf := o_f hc9 hf
    refine lv_iload_n hC.1 hC.2.1 dX11_remake_8 rfl (lv_at hl 2 rfl) ?_
    refine lv_iconst hC.1 hC.2.1 dX11_remake_9 ci_1 ?_
    refine lv_iconst hC.1 hC.2.1 dX11_remake_10 ci_5 ?_
    refine mw_cSi (As := [.int p2, .int 1, .int 5]) (rest := []) hC hM (mcX11_isIn V l M p2 1 5 _ rfl) (mw_kS hC q_468 q_469 q_107 q_470 ⟨rfl, rfl⟩ kS_X11_isIn ⟨Nat.le_of_ble_eq_true rfl, Nat.le_of_ble_eq_true rfl⟩) rfl rfl (Nat.le_of_ble_eq_true rfl) hl.1 dX11_remake_11 (fun H locs hM hb2 => ?_)
    refine lv_if_ne (tgt := 19) hC.1 hC.2.1 dX11_remake_14 (by decide) (fun hc8 => ?_) (fun hc8 => ?_)
    · have hf := o_f hc8 hf
      refine lv_aload_n hC.1 hC.2.1 dX11_remake_19 rfl (lv_at hl 0 rfl) ?_
      refine mw_get (v := .ref (mvA V 1)) hC hM 0 (Nat.le_of_ble_eq_true rfl) (eC_0 V) inW11 rfl 0 (by decide) q_424 (fun _ h9 => h9) rfl dX11_remake_20 ?_
      refine mw_get (v := .ref (mvA V 2)) hC hM 1 (Nat.le_of_ble_eq_true rfl) (eC_1 V) inW4 rfl 1 (by decide) q_209 (fun _ h9 => h9) rfl dX11_remake_23 ?_
      refine lv_iload_n hC.1 hC.2.1 dX11_remake_26 rfl (lv_at hl 1 rfl) ?_
      obtain ⟨hg3, hf⟩ := o_g hf
      refine mw_iald hC hM 2 0 (Nat.le_of_ble_eq_true rfl) (eC_2 V) rfl hg3 dX11_remake_27 ?_
      refine lv_istore_n (lv' := [(3, .int (M 2 (Int32.toNatClampNeg p1))), (0, .ref (mvA V 0)), (1, .int p1), (2, .int p2)]) hC.1 hC.2.1 dX11_remake_28 rfl hl (Nat.le_of_ble_eq_true rfl) rfl (fun ls hl => ?_)
      refine lv_aload_n hC.1 hC.2.1 dX11_remake_29 rfl (lv_at hl 1 rfl) ?_
      refine mw_get (v := .ref (mvA V 1)) hC hM 0 (Nat.le_of_ble_eq_true rfl) (eC_0 V) inW11 rfl 0 (by decide) q_424 (fun _ h9 => h9) rfl dX11_remake_30 ?_
      refine mw_get (v := .ref (mvA V 2)) hC hM 1 (Nat.le_of_ble_eq_true rfl) (eC_1 V) inW4 rfl 1 (by decide) q_209 (fun _ h9 => h9) rfl dX11_remake_33 ?_
      refine lv_iload_n hC.1 hC.2.1 dX11_remake_36 rfl (lv_at hl 2 rfl) ?_
      refine lv_iload_n hC.1 hC.2.1 dX11_remake_37 rfl (lv_at hl 3 rfl) ?_
      obtain ⟨hg4, hf⟩ := o_g hf
      refine mw_iast hC hM 2 0 (Nat.le_of_ble_eq_true rfl) (eC_2 V) rfl hg4 dX11_remake_38 (fun H locs hM => ?_)
      refine lv_aload_n hC.1 hC.2.1 dX11_remake_39 rfl (lv_at hl 1 rfl) ?_
      obtain ⟨r5, M7, hq6, hf⟩ := o_b2 hf
      refine mw_cVv (As := []) (rest := []) hC hM (mcX11_forgetSums V l (wr M 2 (Int32.toNatClampNeg p1) p2) r5 M7 hq6) (mw_kV hC q_416 q_418 q_0 q_107 q_419 ⟨rfl, rfl⟩ kV_X11_forgetSums ⟨Nat.le_of_ble_eq_true rfl, Nat.le_of_ble_eq_true rfl⟩) (Nat.le_of_ble_eq_true rfl) (eC_0 V) rfl rfl rfl (Nat.le_of_ble_eq_true rfl) hl.1 dX11_remake_40 (fun H locs hM => ?_)
      refine lv_iload_n hC.1 hC.2.1 dX11_remake_43 rfl (lv_at hl 0 rfl) ?_
      exact hret (o_r1 hf) (o_r2 hf hM) dX11_remake_44
    · have hf := o_t hc8 hf
      refine lv_iconst hC.1 hC.2.1 dX11_remake_17 ci_m1 ?_
      exact hret (o_r1 hf) (o_r2 hf hM) dX11_remake_18
set_option maxHeartbeats 4000000 in
set_option maxRecDepth 100000 in
theorem mcX11_wakes (V : mV) (l : Launch) (M : mM) (p1 : Int32) (p2 : Int32) (r : Int32) (M' : mM) (hf : fX11_wakes M p1 p2 = some (r, M')) : IC V l yX11_wakes cX11_wakes 4 ({ frames := 1, cells := 0, slots := 0, locals := 21 } : Room) [.ref (mvA V 0), .int p1, .int p2] M r M' := by
  unfold fX11_wakes at hf
  refine mw_enterI RX11 rfl (by decide +kernel) (Nat.le_of_ble_eq_true rfl) (fun {p e s m args below meth c} ls A Q hC hret hM hl => ?_)
  have hl : lv_has ls 4 [(0, .ref (mvA V 0)), (1, .int p1), (2, .int p2)] := hl
  have hL23 : ∀ (M : mM) (x1 : Int32) (x2 : Int32) (t0 : Int32) (H : Heap) (locs : List Loc) (ls : Array Slot), fX11_wakes_L23 M x1 x2 t0 = some (r, M') → PC V M A s H locs → lv_has ls 4 [(0, .ref (mvA V 0)), (1, .int x1), (2, .int x2)] → W p l e ({ frames := 1, cells := 0, slots := 0, locals := 21 } : Room) s m args below meth c H locs 0 0 Q (F0 m 23 ls [.int t0]) := by
    intro M x1 x2 t0 H locs ls hf hM hl
    unfold fX11_wakes_L23 at hf
    refine lv_istore_n (lv' := [(3, .int t0), (0, .ref (mvA V 0)), (1, .int x1), (2, .int x2)]) hC.1 hC.2.1 dX11_wakes_23 rfl hl (Nat.le_of_ble_eq_true rfl) rfl (fun ls hl => ?_)
    refine lv_aload_n hC.1 hC.2.1 dX11_wakes_24 rfl (lv_at hl 1 rfl) ?_
    refine mw_get (v := .ref (mvA V 1)) hC hM 0 (Nat.le_of_ble_eq_true rfl) (eC_0 V) inW11 rfl 0 (by decide) q_424 (fun _ h9 => h9) rfl dX11_wakes_25 ?_
    refine lv_iload_n hC.1 hC.2.1 dX11_wakes_28 rfl (lv_at hl 3 rfl) ?_
    refine lv_if_eq (tgt := 46) hC.1 hC.2.1 dX11_wakes_29 (by decide) (fun hc5 => ?_) (fun hc5 => ?_)
    · have hf := o_t hc5 hf
      refine lv_aload_n hC.1 hC.2.1 dX11_wakes_46 rfl (lv_at hl 1 rfl) ?_
      refine mw_get (v := .ref (mvA V 1)) hC hM 0 (Nat.le_of_ble_eq_true rfl) (eC_0 V) inW11 rfl 0 (by decide) q_424 (fun _ h9 => h9) rfl dX11_wakes_47 ?_
      refine mw_get (v := .int (M 1 5)) hC hM 1 (Nat.le_of_ble_eq_true rfl) (eC_1 V) inW4 rfl 5 (by decide) q_216 (fun _ h9 => h9) rfl dX11_wakes_50 ?_
      refine lv_iconst hC.1 hC.2.1 dX11_wakes_53 ci_1 ?_
      refine lv_iload_n hC.1 hC.2.1 dX11_wakes_54 rfl (lv_at hl 2 rfl) ?_
      refine lv_ishl hC.1 hC.2.1 dX11_wakes_55 ?_
      refine lv_iconst hC.1 hC.2.1 dX11_wakes_56 ci_m1 ?_
      refine lv_ixor hC.1 hC.2.1 dX11_wakes_57 ?_
      refine lv_iand hC.1 hC.2.1 dX11_wakes_58 ?_
      refine mw_put hC hM 1 (Nat.le_of_ble_eq_true rfl) (eC_1 V) inW4 tyX4 tyX4_ok nmX4 rfl 5 (by decide) q_216 (fun _ h9 => h9) rfl rfl rfl (Nat.le_of_ble_eq_true rfl) rfl dX11_wakes_59 (fun H locs hM => ?_)
      refine lv_iload_n hC.1 hC.2.1 dX11_wakes_62 rfl (lv_at hl 0 rfl) ?_
      exact hret (o_r1 hf) (o_r2 hf hM) dX11_wakes_63
    · have hf := o_f hc5 hf
      refine lv_aload_n hC.1 hC.2.1 dX11_wakes_32 rfl (lv_at hl 1 rfl) ?_
      refine mw_get (v := .ref (mvA V 1)) hC hM 0 (Nat.le_of_ble_eq_true rfl) (eC_0 V) inW11 rfl 0 (by decide) q_424 (fun _ h9 => h9) rfl dX11_wakes_33 ?_
      refine mw_get (v := .int (M 1 5)) hC hM 1 (Nat.le_of_ble_eq_true rfl) (eC_1 V) inW4 rfl 5 (by decide) q_216 (fun _ h9 => h9) rfl dX11_wakes_36 ?_
      refine lv_iconst hC.1 hC.2.1 dX11_wakes_39 ci_1 ?_
      refine lv_iload_n hC.1 hC.2.1 dX11_wakes_40 rfl (lv_at hl 2 rfl) ?_
      refine lv_ishl hC.1 hC.2.1 dX11_wakes_41 ?_
      refine lv_ior hC.1 hC.2.1 dX11_wakes_42 ?_
      refine lv_goto (tgt := 59) hC.1 hC.2.1 dX11_wakes_43 (by decide) ?_
      refine mw_put hC hM 1 (Nat.le_of_ble_eq_true rfl) (eC_1 V) inW4 tyX4 tyX4_ok nmX4 rfl 5 (by decide) q_216 (fun _ h9 => h9) rfl rfl rfl (Nat.le_of_ble_eq_true rfl) rfl dX11_wakes_59 (fun H locs hM => ?_)
      refine lv_iload_n hC.1 hC.2.1 dX11_wakes_62 rfl (lv_at hl 0 rfl) ?_
      exact hret (o_r1 hf) (o_r2 hf hM) dX11_wakes_63
  refine lv_aload_n hC.1 hC.2.1 dX11_wakes_0 rfl (lv_at hl 0 rfl) ?_
  refine lv_iload_n hC.1 hC.2.1 dX11_wakes_1 rfl (lv_at hl 1 rfl) ?_
  refine mw_cVi (As := [.int p1]) (rest := []) hC hM (mcX11_isVoter V l M p1 _ rfl) (mw_kV hC q_481 q_483 q_1 q_107 q_484 ⟨rfl, rfl⟩ kV_X11_isVoter ⟨Nat.le_of_ble_eq_true rfl, Nat.le_of_ble_eq_true rfl⟩) (Nat.le_of_ble_eq_true rfl) (eC_0 V) rfl rfl rfl (Nat.le_of_ble_eq_true rfl) hl.1 dX11_wakes_2 (fun H locs hM hb1 => ?_)
  refine lv_if_ne (tgt := 10) hC.1 hC.2.1 dX11_wakes_5 (by decide) (fun hc4 => ?_) (fun hc4 => ?_)
  · have hf := o_f hc4 hf
    refine lv_aload_n hC.1 hC.2.1 dX11_wakes_10 rfl (lv_at hl 0 rfl) ?_
    refine lv_iload_n hC.1 hC.2.1 dX11_wakes_11 rfl (lv_at hl 1 rfl) ?_
    refine mw_cVi (As := [.int p1]) (rest := []) hC hM (mcX11_isAwake V l M p1 _ rfl) (mw_kV hC q_485 q_487 q_2 q_107 q_488 ⟨rfl, rfl⟩ kV_X11_isAwake ⟨Nat.le_of_ble_eq_true rfl, Nat.le_of_ble_eq_true rfl⟩) (Nat.le_of_ble_eq_true rfl) (eC_0 V) rfl rfl rfl (Nat.le_of_ble_eq_true rfl) hl.1 dX11_wakes_12 (fun H locs hM hb2 => ?_)
    refine lv_if_eq (tgt := 22) hC.1 hC.2.1 dX11_wakes_15 (by decide) (fun hc3 => ?_) (fun hc3 => ?_)
    · have hf := o_t hc3 hf
      refine lv_iconst hC.1 hC.2.1 dX11_wakes_22 ci_0 ?_
      exact hL23 _ _ _ _ _ _ _ hf hM (lv_sub hl [0, 1, 2] rfl)
    · have hf := o_f hc3 hf
      refine lv_iconst hC.1 hC.2.1 dX11_wakes_18 ci_1 ?_
      refine lv_goto (tgt := 23) hC.1 hC.2.1 dX11_wakes_19 (by decide) ?_
      exact hL23 _ _ _ _ _ _ _ hf hM (lv_sub hl [0, 1, 2] rfl)
  · have hf := o_t hc4 hf
    refine lv_iconst hC.1 hC.2.1 dX11_wakes_8 ci_m1 ?_
    exact hret (o_r1 hf) (o_r2 hf hM) dX11_wakes_9
set_option maxHeartbeats 4000000 in
set_option maxRecDepth 100000 in
theorem mcX11_clock (V : mV) (l : Launch) (M : mM) (p1 : Int32) (r : Int32) (M' : mM) (hf : fX11_clock M p1 = some (r, M')) : IC V l yX11_clock cX11_clock 3 ({ frames := 2, cells := 0, slots := 0, locals := 42 } : Room) [.ref (mvA V 0), .int p1] M r M' := by
  unfold fX11_clock at hf
  refine mw_enterI RX11 rfl (by decide +kernel) (Nat.le_of_ble_eq_true rfl) (fun {p e s m args below meth c} ls A Q hC hret hM hl => ?_)
  have hl : lv_has ls 3 [(0, .ref (mvA V 0)), (1, .int p1)] := hl
  refine lv_iload_n hC.1 hC.2.1 dX11_clock_0 rfl (lv_at hl 1 rfl) ?_
  refine mw_cSi (As := [.int p1]) (rest := []) hC hM (mcX11_isHour V l M p1 _ rfl) (mw_kS hC q_474 q_475 q_107 q_476 ⟨rfl, rfl⟩ kS_X11_isHour ⟨Nat.le_of_ble_eq_true rfl, Nat.le_of_ble_eq_true rfl⟩) rfl rfl (Nat.le_of_ble_eq_true rfl) hl.1 dX11_clock_1 (fun H locs hM hb1 => ?_)
  refine lv_if_ne (tgt := 9) hC.1 hC.2.1 dX11_clock_4 (by decide) (fun hc2 => ?_) (fun hc2 => ?_)
  · have hf := o_f hc2 hf
    refine lv_aload_n hC.1 hC.2.1 dX11_clock_9 rfl (lv_at hl 0 rfl) ?_
    refine mw_get (v := .ref (mvA V 1)) hC hM 0 (Nat.le_of_ble_eq_true rfl) (eC_0 V) inW11 rfl 0 (by decide) q_424 (fun _ h9 => h9) rfl dX11_clock_10 ?_
    refine mw_get (v := .int (M 1 6)) hC hM 1 (Nat.le_of_ble_eq_true rfl) (eC_1 V) inW4 rfl 6 (by decide) q_219 (fun _ h9 => h9) rfl dX11_clock_13 ?_
    refine lv_istore_n (lv' := [(2, .int (M 1 6)), (0, .ref (mvA V 0)), (1, .int p1)]) hC.1 hC.2.1 dX11_clock_16 rfl hl (Nat.le_of_ble_eq_true rfl) rfl (fun ls hl => ?_)
    refine lv_aload_n hC.1 hC.2.1 dX11_clock_17 rfl (lv_at hl 1 rfl) ?_
    refine mw_get (v := .ref (mvA V 1)) hC hM 0 (Nat.le_of_ble_eq_true rfl) (eC_0 V) inW11 rfl 0 (by decide) q_424 (fun _ h9 => h9) rfl dX11_clock_18 ?_
    refine lv_iload_n hC.1 hC.2.1 dX11_clock_21 rfl (lv_at hl 2 rfl) ?_
    refine mw_put hC hM 1 (Nat.le_of_ble_eq_true rfl) (eC_1 V) inW4 tyX4 tyX4_ok nmX4 rfl 6 (by decide) q_219 (fun _ h9 => h9) rfl rfl rfl (Nat.le_of_ble_eq_true rfl) rfl dX11_clock_22 (fun H locs hM => ?_)
    refine lv_iload_n hC.1 hC.2.1 dX11_clock_25 rfl (lv_at hl 0 rfl) ?_
    exact hret (o_r1 hf) (o_r2 hf hM) dX11_clock_26
  · have hf := o_t hc2 hf
    refine lv_iconst hC.1 hC.2.1 dX11_clock_7 ci_m1 ?_
    exact hret (o_r1 hf) (o_r2 hf hM) dX11_clock_8
set_option maxHeartbeats 4000000 in
set_option maxRecDepth 100000 in
theorem mcX11_limit (V : mV) (l : Launch) (M : mM) (p1 : Int32) (r : Int32) (M' : mM) (hf : fX11_limit M p1 = some (r, M')) : IC V l yX11_limit cX11_limit 3 ({ frames := 1, cells := 0, slots := 0, locals := 22 } : Room) [.ref (mvA V 0), .int p1] M r M' := by
  unfold fX11_limit at hf
  refine mw_enterI RX11 rfl (by decide +kernel) (Nat.le_of_ble_eq_true rfl) (fun {p e s m args below meth c} ls A Q hC hret hM hl => ?_)
  have hl : lv_has ls 3 [(0, .ref (mvA V 0)), (1, .int p1)] := hl
  refine lv_iload_n hC.1 hC.2.1 dX11_limit_0 rfl (lv_at hl 1 rfl) ?_
  refine lv_iconst hC.1 hC.2.1 dX11_limit_1 ci_0 ?_
  refine lv_bipush hC.1 hC.2.1 dX11_limit_2 cb_99 ?_
  refine mw_cSi (As := [.int p1, .int 0, .int 99]) (rest := []) hC hM (mcX11_isIn V l M p1 0 99 _ rfl) (mw_kS hC q_468 q_469 q_107 q_470 ⟨rfl, rfl⟩ kS_X11_isIn ⟨Nat.le_of_ble_eq_true rfl, Nat.le_of_ble_eq_true rfl⟩) rfl rfl (Nat.le_of_ble_eq_true rfl) hl.1 dX11_limit_4 (fun H locs hM hb1 => ?_)
  refine lv_if_ne (tgt := 12) hC.1 hC.2.1 dX11_limit_7 (by decide) (fun hc2 => ?_) (fun hc2 => ?_)
  · have hf := o_f hc2 hf
    refine lv_aload_n hC.1 hC.2.1 dX11_limit_12 rfl (lv_at hl 0 rfl) ?_
    refine mw_get (v := .ref (mvA V 1)) hC hM 0 (Nat.le_of_ble_eq_true rfl) (eC_0 V) inW11 rfl 0 (by decide) q_424 (fun _ h9 => h9) rfl dX11_limit_13 ?_
    refine mw_get (v := .int (M 1 8)) hC hM 1 (Nat.le_of_ble_eq_true rfl) (eC_1 V) inW4 rfl 8 (by decide) q_223 (fun _ h9 => h9) rfl dX11_limit_16 ?_
    refine lv_istore_n (lv' := [(2, .int (M 1 8)), (0, .ref (mvA V 0)), (1, .int p1)]) hC.1 hC.2.1 dX11_limit_19 rfl hl (Nat.le_of_ble_eq_true rfl) rfl (fun ls hl => ?_)
    refine lv_aload_n hC.1 hC.2.1 dX11_limit_20 rfl (lv_at hl 1 rfl) ?_
    refine mw_get (v := .ref (mvA V 1)) hC hM 0 (Nat.le_of_ble_eq_true rfl) (eC_0 V) inW11 rfl 0 (by decide) q_424 (fun _ h9 => h9) rfl dX11_limit_21 ?_
    refine lv_iload_n hC.1 hC.2.1 dX11_limit_24 rfl (lv_at hl 2 rfl) ?_
    refine mw_put hC hM 1 (Nat.le_of_ble_eq_true rfl) (eC_1 V) inW4 tyX4 tyX4_ok nmX4 rfl 8 (by decide) q_223 (fun _ h9 => h9) rfl rfl rfl (Nat.le_of_ble_eq_true rfl) rfl dX11_limit_25 (fun H locs hM => ?_)
    refine lv_iload_n hC.1 hC.2.1 dX11_limit_28 rfl (lv_at hl 0 rfl) ?_
    exact hret (o_r1 hf) (o_r2 hf hM) dX11_limit_29
  · have hf := o_t hc2 hf
    refine lv_iconst hC.1 hC.2.1 dX11_limit_10 ci_m1 ?_
    exact hret (o_r1 hf) (o_r2 hf hM) dX11_limit_11
set_option maxHeartbeats 4000000 in
set_option maxRecDepth 100000 in
theorem mcX11_state (V : mV) (l : Launch) (M : mM) (p1 : Int32) (r : Int32) (hf : fX11_state M p1 = r) : IC V l yX11_state cX11_state 2 ({ frames := 0, cells := 0, slots := 0, locals := 0 } : Room) [.ref (mvA V 0), .int p1] M r M := by
  unfold fX11_state at hf
  refine mw_enterI RX11 rfl (by decide +kernel) (Nat.le_of_ble_eq_true rfl) (fun {p e s m args below meth c} ls A Q hC hret hM hl => ?_)
  have hl : lv_has ls 2 [(0, .ref (mvA V 0)), (1, .int p1)] := hl
  refine lv_iload_n hC.1 hC.2.1 dX11_state_0 rfl (lv_at hl 1 rfl) ?_
  by_cases hc1 : p1 = 0
  · have hf := o_t hc1 hf
    refine lv_tableIn (off := 35) (tgt := 36) hC.1 hC.2.1 dX11_state_1 (by rw [hc1]; decide) (by rw [hc1]; decide) (by rw [hc1]; rfl) (by decide) ?_
    refine lv_aload_n hC.1 hC.2.1 dX11_state_36 rfl (lv_at hl 0 rfl) ?_
    refine mw_get (v := .ref (mvA V 1)) hC hM 0 (Nat.le_of_ble_eq_true rfl) (eC_0 V) inW11 rfl 0 (by decide) q_424 (fun _ h9 => h9) rfl dX11_state_37 ?_
    refine mw_get (v := .int (M 1 6)) hC hM 1 (Nat.le_of_ble_eq_true rfl) (eC_1 V) inW4 rfl 6 (by decide) q_219 (fun _ h9 => h9) rfl dX11_state_40 ?_
    exact hret hf hM dX11_state_43
  have hf := o_f hc1 hf
  by_cases hc2 : p1 = 1
  · have hf := o_t hc2 hf
    refine lv_tableIn (off := 43) (tgt := 44) hC.1 hC.2.1 dX11_state_1 (by rw [hc2]; decide) (by rw [hc2]; decide) (by rw [hc2]; rfl) (by decide) ?_
    refine lv_aload_n hC.1 hC.2.1 dX11_state_44 rfl (lv_at hl 0 rfl) ?_
    refine mw_get (v := .ref (mvA V 1)) hC hM 0 (Nat.le_of_ble_eq_true rfl) (eC_0 V) inW11 rfl 0 (by decide) q_424 (fun _ h9 => h9) rfl dX11_state_45 ?_
    refine mw_get (v := .int (M 1 7)) hC hM 1 (Nat.le_of_ble_eq_true rfl) (eC_1 V) inW4 rfl 7 (by decide) q_221 (fun _ h9 => h9) rfl dX11_state_48 ?_
    exact hret hf hM dX11_state_51
  have hf := o_f hc2 hf
  by_cases hc3 : p1 = 2
  · have hf := o_t hc3 hf
    refine lv_tableIn (off := 51) (tgt := 52) hC.1 hC.2.1 dX11_state_1 (by rw [hc3]; decide) (by rw [hc3]; decide) (by rw [hc3]; rfl) (by decide) ?_
    refine lv_aload_n hC.1 hC.2.1 dX11_state_52 rfl (lv_at hl 0 rfl) ?_
    refine mw_get (v := .ref (mvA V 1)) hC hM 0 (Nat.le_of_ble_eq_true rfl) (eC_0 V) inW11 rfl 0 (by decide) q_424 (fun _ h9 => h9) rfl dX11_state_53 ?_
    refine mw_get (v := .int (M 1 8)) hC hM 1 (Nat.le_of_ble_eq_true rfl) (eC_1 V) inW4 rfl 8 (by decide) q_223 (fun _ h9 => h9) rfl dX11_state_56 ?_
    exact hret hf hM dX11_state_59
  have hf := o_f hc3 hf
  by_cases hc4 : p1 = 3
  · have hf := o_t hc4 hf
    refine lv_tableIn (off := 59) (tgt := 60) hC.1 hC.2.1 dX11_state_1 (by rw [hc4]; decide) (by rw [hc4]; decide) (by rw [hc4]; rfl) (by decide) ?_
    refine lv_aload_n hC.1 hC.2.1 dX11_state_60 rfl (lv_at hl 0 rfl) ?_
    refine mw_get (v := .ref (mvA V 1)) hC hM 0 (Nat.le_of_ble_eq_true rfl) (eC_0 V) inW11 rfl 0 (by decide) q_424 (fun _ h9 => h9) rfl dX11_state_61 ?_
    refine mw_get (v := .int (M 1 5)) hC hM 1 (Nat.le_of_ble_eq_true rfl) (eC_1 V) inW4 rfl 5 (by decide) q_216 (fun _ h9 => h9) rfl dX11_state_64 ?_
    exact hret hf hM dX11_state_67
  have hf := o_f hc4 hf
  by_cases hc5 : p1 = 4
  · have hf := o_t hc5 hf
    refine lv_tableIn (off := 67) (tgt := 68) hC.1 hC.2.1 dX11_state_1 (by rw [hc5]; decide) (by rw [hc5]; decide) (by rw [hc5]; rfl) (by decide) ?_
    refine lv_aload_n hC.1 hC.2.1 dX11_state_68 rfl (lv_at hl 0 rfl) ?_
    refine mw_get (v := .ref (mvA V 1)) hC hM 0 (Nat.le_of_ble_eq_true rfl) (eC_0 V) inW11 rfl 0 (by decide) q_424 (fun _ h9 => h9) rfl dX11_state_69 ?_
    refine mw_get (v := .int (M 1 9)) hC hM 1 (Nat.le_of_ble_eq_true rfl) (eC_1 V) inW4 rfl 9 (by decide) q_225 (fun _ h9 => h9) rfl dX11_state_72 ?_
    exact hret hf hM dX11_state_75
  have hf := o_f hc5 hf
  have hc1 := sw_ne (k := 0) (v := 0) rfl hc1
  have hc2 := sw_ne (k := 1) (v := 1) rfl hc2
  have hc3 := sw_ne (k := 2) (v := 2) rfl hc3
  have hc4 := sw_ne (k := 3) (v := 3) rfl hc4
  have hc5 := sw_ne (k := 4) (v := 4) rfl hc5
  refine lv_tableOut (tgt := 76) hC.1 hC.2.1 dX11_state_1 (by omega) (by decide) ?_
  refine lv_iconst hC.1 hC.2.1 dX11_state_76 ci_m1 ?_
  exact hret hf hM dX11_state_77
set_option maxHeartbeats 4000000 in
set_option maxRecDepth 100000 in
theorem mcX5_take (V : mV) (l : Launch) (M : mM) (p1 : Int64) (p3 : Int32) (r : Int32) (M' : mM) (hf : fX5_take M p1 p3 = some (r, M')) : IC V l yX5_take cX5_take 5 ({ frames := 0, cells := 0, slots := 0, locals := 0 } : Room) [.ref (mvA V 33), .long p1, .int p3] M r M' := by
  unfold fX5_take at hf
  refine mw_enterI RX5 rfl (by decide +kernel) (Nat.le_of_ble_eq_true rfl) (fun {p e s m args below meth c} ls A Q hC hret hM hl => ?_)
  have hl : lv_has ls 5 [(0, .ref (mvA V 33)), (1, .long p1), (3, .int p3)] := hl
  have hL3 : ∀ (n : Nat) (M : mM) (x1 : Int64) (x3 : Int32) (x4 : Int32) (H : Heap) (locs : List Loc) (ls : Array Slot), fX5_take_L3 n M x1 x3 x4 = some (r, M') → PC V M A s H locs → lv_has ls 5 [(0, .ref (mvA V 33)), (1, .long x1), (3, .int x3), (4, .int x4)] → W p l e ({ frames := 0, cells := 0, slots := 0, locals := 0 } : Room) s m args below meth c H locs 0 0 Q (F0 m 3 ls []) := by
    intro n2
    induction n2 with
    | zero => intro M x1 x3 x4 H locs ls hf; cases hf
    | succ n2 ih2 =>
      intro M x1 x3 x4 H locs ls hf hM hl
      have hf : fX5_take_L3_b (fX5_take_L3 n2) M x1 x3 x4 = some (r, M') := hf
      unfold fX5_take_L3_b at hf
      refine lv_iload hC.1 hC.2.1 dX5_take_3 (lv_at hl 3 rfl) ?_
      refine lv_iload_n hC.1 hC.2.1 dX5_take_5 rfl (lv_at hl 2 rfl) ?_
      refine lv_icmp_ge (tgt := 56) hC.1 hC.2.1 dX5_take_6 (by decide) (fun hc3 => ?_) (fun hc3 => ?_)
      · have hf := o_t hc3 hf
        refine lv_aload_n hC.1 hC.2.1 dX5_take_56 rfl (lv_at hl 0 rfl) ?_
        refine mw_get (v := .int (M 33 0)) hC hM 33 (Nat.le_of_ble_eq_true rfl) (eC_33 V) inW5 rfl 0 (by decide) q_275 (fun _ h9 => h9) rfl dX5_take_57 ?_
        exact hret (o_r1 hf) (o_r2 hf hM) dX5_take_60
      · have hf := o_f hc3 hf
        refine lv_aload_n hC.1 hC.2.1 dX5_take_9 rfl (lv_at hl 0 rfl) ?_
        refine mw_get (v := .int (M 33 0)) hC hM 33 (Nat.le_of_ble_eq_true rfl) (eC_33 V) inW5 rfl 0 (by decide) q_275 (fun _ h9 => h9) rfl dX5_take_10 ?_
        refine lv_sipush hC.1 hC.2.1 dX5_take_13 cs_200 ?_
        refine lv_icmp_ge (tgt := 56) hC.1 hC.2.1 dX5_take_16 (by decide) (fun hc2 => ?_) (fun hc2 => ?_)
        · have hf := o_t hc2 hf
          refine lv_aload_n hC.1 hC.2.1 dX5_take_56 rfl (lv_at hl 0 rfl) ?_
          refine mw_get (v := .int (M 33 0)) hC hM 33 (Nat.le_of_ble_eq_true rfl) (eC_33 V) inW5 rfl 0 (by decide) q_275 (fun _ h9 => h9) rfl dX5_take_57 ?_
          exact hret (o_r1 hf) (o_r2 hf hM) dX5_take_60
        · have hf := o_f hc2 hf
          refine lv_aload_n hC.1 hC.2.1 dX5_take_19 rfl (lv_at hl 0 rfl) ?_
          refine mw_get (v := .ref (mvA V 43)) hC hM 33 (Nat.le_of_ble_eq_true rfl) (eC_33 V) inW5 rfl 2 (by decide) q_279 (fun _ h9 => h9) rfl dX5_take_20 ?_
          refine lv_aload_n hC.1 hC.2.1 dX5_take_23 rfl (lv_at hl 0 rfl) ?_
          refine mw_get (v := .int (M 33 0)) hC hM 33 (Nat.le_of_ble_eq_true rfl) (eC_33 V) inW5 rfl 0 (by decide) q_275 (fun _ h9 => h9) rfl dX5_take_24 ?_
          refine lv_lload_n hC.1 hC.2.1 dX5_take_27 rfl (lv_at hl 1 rfl) ?_
          refine lv_bipush hC.1 hC.2.1 dX5_take_28 cb_8 ?_
          refine lv_iload hC.1 hC.2.1 dX5_take_30 (lv_at hl 3 rfl) ?_
          refine lv_imul hC.1 hC.2.1 dX5_take_32 ?_
          refine lv_lushr (v := (lushr x1 (8 * x4))) hC.1 hC.2.1 dX5_take_33 rfl ?_
          refine lv_l2i (v := (Int64.toInt32 (lushr x1 (8 * x4)))) hC.1 hC.2.1 dX5_take_34 rfl ?_
          refine lv_sipush hC.1 hC.2.1 dX5_take_35 cs_255 ?_
          refine lv_iand hC.1 hC.2.1 dX5_take_38 ?_
          obtain ⟨hg1, hf⟩ := o_g hf
          refine mw_iast hC hM 43 0 (Nat.le_of_ble_eq_true rfl) (eC_43 V) rfl hg1 dX5_take_39 (fun H locs hM => ?_)
          refine lv_aload_n hC.1 hC.2.1 dX5_take_40 rfl (lv_at hl 0 rfl) ?_
          refine lv_dup hC.1 hC.2.1 dX5_take_41 rfl ?_
          refine mw_get (v := .int ((wr M 43 (Int32.toNatClampNeg (M 33 0)) ((Int64.toInt32 (lushr x1 (8 * x4))) &&& 255)) 33 0)) hC hM 33 (Nat.le_of_ble_eq_true rfl) (eC_33 V) inW5 rfl 0 (by decide) q_275 (fun _ h9 => h9) rfl dX5_take_42 ?_
          refine lv_iconst hC.1 hC.2.1 dX5_take_45 ci_1 ?_
          refine lv_iadd hC.1 hC.2.1 dX5_take_46 ?_
          refine mw_put hC hM 33 (Nat.le_of_ble_eq_true rfl) (eC_33 V) inW5 tyX5 tyX5_ok nmX5 rfl 0 (by decide) q_275 (fun _ h9 => h9) rfl rfl rfl (Nat.le_of_ble_eq_true rfl) rfl dX5_take_47 (fun H locs hM => ?_)
          refine lv_iinc (k := 3) (lv' := [(4, .int (x4 + 1)), (0, .ref (mvA V 33)), (1, .long x1), (3, .int x3)]) hC.1 hC.2.1 dX5_take_50 hl rfl (inc_1 _) (Nat.le_of_ble_eq_true rfl) rfl (fun ls hl => ?_)
          refine lv_goto (tgt := 3) hC.1 hC.2.1 dX5_take_53 (by decide) ?_
          exact ih2 _ _ _ _ _ _ _ hf hM (lv_sub hl [1, 2, 3, 0] rfl)
  refine lv_iconst hC.1 hC.2.1 dX5_take_0 ci_0 ?_
  refine lv_istore (lv' := [(4, .int 0), (0, .ref (mvA V 33)), (1, .long p1), (3, .int p3)]) hC.1 hC.2.1 dX5_take_1 hl (Nat.le_of_ble_eq_true rfl) rfl (fun ls hl => ?_)
  exact hL3 _ _ _ _ _ _ _ _ hf hM (lv_sub hl [1, 2, 3, 0] rfl)
set_option maxHeartbeats 4000000 in
set_option maxRecDepth 100000 in
theorem mcX11_feed (V : mV) (l : Launch) (M : mM) (p1 : Int64) (p3 : Int32) (r : Int32) (M' : mM) (hf : fX11_feed M p1 p3 = some (r, M')) : IC V l yX11_feed cX11_feed 4 ({ frames := 1, cells := 0, slots := 0, locals := 24 } : Room) [.ref (mvA V 0), .long p1, .int p3] M r M' := by
  unfold fX11_feed at hf
  refine mw_enterI RX11 rfl (by decide +kernel) (Nat.le_of_ble_eq_true rfl) (fun {p e s m args below meth c} ls A Q hC hret hM hl => ?_)
  have hl : lv_has ls 4 [(0, .ref (mvA V 0)), (1, .long p1), (3, .int p3)] := hl
  refine lv_iload_n hC.1 hC.2.1 dX11_feed_0 rfl (lv_at hl 2 rfl) ?_
  refine lv_iconst hC.1 hC.2.1 dX11_feed_1 ci_1 ?_
  refine lv_bipush hC.1 hC.2.1 dX11_feed_2 cb_8 ?_
  refine mw_cSi (As := [.int p3, .int 1, .int 8]) (rest := []) hC hM (mcX11_isIn V l M p3 1 8 _ rfl) (mw_kS hC q_468 q_469 q_107 q_470 ⟨rfl, rfl⟩ kS_X11_isIn ⟨Nat.le_of_ble_eq_true rfl, Nat.le_of_ble_eq_true rfl⟩) rfl rfl (Nat.le_of_ble_eq_true rfl) hl.1 dX11_feed_4 (fun H locs hM hb1 => ?_)
  refine lv_if_ne (tgt := 12) hC.1 hC.2.1 dX11_feed_7 (by decide) (fun hc6 => ?_) (fun hc6 => ?_)
  · have hf := o_f hc6 hf
    refine lv_aload_n hC.1 hC.2.1 dX11_feed_12 rfl (lv_at hl 0 rfl) ?_
    refine mw_get (v := .ref (mvA V 33)) hC hM 0 (Nat.le_of_ble_eq_true rfl) (eC_0 V) inW11 rfl 3 (by decide) q_427 (fun _ h9 => h9) rfl dX11_feed_13 ?_
    refine mw_get (v := .int (M 33 0)) hC hM 33 (Nat.le_of_ble_eq_true rfl) (eC_33 V) inW5 rfl 0 (by decide) q_276 (fun _ h9 => h9) rfl dX11_feed_16 ?_
    refine lv_iload_n hC.1 hC.2.1 dX11_feed_19 rfl (lv_at hl 2 rfl) ?_
    refine lv_iadd hC.1 hC.2.1 dX11_feed_20 ?_
    refine lv_sipush hC.1 hC.2.1 dX11_feed_21 cs_200 ?_
    refine lv_icmp_le (tgt := 30) hC.1 hC.2.1 dX11_feed_24 (by decide) (fun hc5 => ?_) (fun hc5 => ?_)
    · have hf := o_t hc5 hf
      refine lv_aload_n hC.1 hC.2.1 dX11_feed_30 rfl (lv_at hl 0 rfl) ?_
      refine mw_get (v := .ref (mvA V 33)) hC hM 0 (Nat.le_of_ble_eq_true rfl) (eC_0 V) inW11 rfl 3 (by decide) q_427 (fun _ h9 => h9) rfl dX11_feed_31 ?_
      refine lv_lload_n hC.1 hC.2.1 dX11_feed_34 rfl (lv_at hl 1 rfl) ?_
      refine lv_iload_n hC.1 hC.2.1 dX11_feed_35 rfl (lv_at hl 2 rfl) ?_
      obtain ⟨r2, M4, hq3, hf⟩ := o_b2 hf
      refine mw_cVi (As := [.long p1, .int p3]) (rest := []) hC hM (mcX5_take V l M p1 p3 r2 M4 hq3) (mw_kV hC q_568 q_569 q_570 q_111 q_571 ⟨rfl, rfl⟩ kV_X5_take ⟨Nat.le_of_ble_eq_true rfl, Nat.le_of_ble_eq_true rfl⟩) (Nat.le_of_ble_eq_true rfl) (eC_33 V) rfl rfl rfl (Nat.le_of_ble_eq_true rfl) hl.1 dX11_feed_36 (fun H locs hM _ => ?_)
      exact hret (o_r1 hf) (o_r2 hf hM) dX11_feed_39
    · have hf := o_f hc5 hf
      refine lv_bipush hC.1 hC.2.1 dX11_feed_27 cb_m2 ?_
      exact hret (o_r1 hf) (o_r2 hf hM) dX11_feed_29
  · have hf := o_t hc6 hf
    refine lv_iconst hC.1 hC.2.1 dX11_feed_10 ci_m1 ?_
    exact hret (o_r1 hf) (o_r2 hf hM) dX11_feed_11
set_option maxHeartbeats 4000000 in
set_option maxRecDepth 100000 in
theorem mcX6_clear_q34 (V : mV) (l : Launch) (M : mM) (r : Int32) (M' : mM) (hf : fX6_clear_q34 M = some (r, M')) : UC V l yX6_clear cX6_clear 1 ({ frames := 0, cells := 0, slots := 0, locals := 0 } : Room) [.ref (mvA V 34)] M M' := by
  unfold fX6_clear_q34 at hf
  refine mw_enterV RX6 rfl (by decide +kernel) (Nat.le_of_ble_eq_true rfl) (fun {p e s m args below meth c} ls A Q hC hret hM hl => ?_)
  have hl : lv_has ls 1 [(0, .ref (mvA V 34))] := hl
  refine lv_aload_n hC.1 hC.2.1 dX6_clear_0 rfl (lv_at hl 0 rfl) ?_
  refine lv_iconst hC.1 hC.2.1 dX6_clear_1 ci_0 ?_
  refine mw_put hC hM 34 (Nat.le_of_ble_eq_true rfl) (eC_34 V) inW6 tyX6 tyX6_ok nmX6 rfl 0 (by decide) q_169 (fun _ h9 => h9) rfl rfl rfl (Nat.le_of_ble_eq_true rfl) rfl dX6_clear_2 (fun H locs hM => ?_)
  refine lv_aload_n hC.1 hC.2.1 dX6_clear_5 rfl (lv_at hl 0 rfl) ?_
  refine lv_iconst hC.1 hC.2.1 dX6_clear_6 ci_0 ?_
  refine mw_put hC hM 34 (Nat.le_of_ble_eq_true rfl) (eC_34 V) inW6 tyX6 tyX6_ok nmX6 rfl 5 (by decide) q_175 (fun _ h9 => h9) rfl rfl rfl (Nat.le_of_ble_eq_true rfl) rfl dX6_clear_7 (fun H locs hM => ?_)
  refine lv_aload_n hC.1 hC.2.1 dX6_clear_10 rfl (lv_at hl 0 rfl) ?_
  refine lv_iconst hC.1 hC.2.1 dX6_clear_11 ci_5 ?_
  refine mw_put hC hM 34 (Nat.le_of_ble_eq_true rfl) (eC_34 V) inW6 tyX6 tyX6_ok nmX6 rfl 9 (by decide) q_179 (fun _ h9 => h9) rfl rfl rfl (Nat.le_of_ble_eq_true rfl) rfl dX6_clear_12 (fun H locs hM => ?_)
  exact hret (o_r2 hf hM) dX6_clear_15
set_option maxHeartbeats 4000000 in
set_option maxRecDepth 100000 in
theorem mcX5_addWord (V : mV) (l : Launch) (M : mM) (p1 : Int32) (p2 : Int32) (p3 : Int32) (r : Int32) (M' : mM) (hf : fX5_addWord M p1 p2 p3 = some (r, M')) : UC V l yX5_addWord cX5_addWord 4 ({ frames := 0, cells := 0, slots := 0, locals := 0 } : Room) [.ref (mvA V 33), .int p1, .int p2, .int p3] M M' := by
  unfold fX5_addWord at hf
  refine mw_enterV RX5 rfl (by decide +kernel) (Nat.le_of_ble_eq_true rfl) (fun {p e s m args below meth c} ls A Q hC hret hM hl => ?_)
  have hl : lv_has ls 4 [(0, .ref (mvA V 33)), (1, .int p1), (2, .int p2), (3, .int p3)] := hl
  refine lv_aload_n hC.1 hC.2.1 dX5_addWord_0 rfl (lv_at hl 0 rfl) ?_
  refine mw_get (v := .int (M 33 3)) hC hM 33 (Nat.le_of_ble_eq_true rfl) (eC_33 V) inW5 rfl 3 (by decide) q_280 (fun _ h9 => h9) rfl dX5_addWord_1 ?_
  refine lv_sipush hC.1 hC.2.1 dX5_addWord_4 cs_200 ?_
  refine lv_icmp_gt (tgt := 50) hC.1 hC.2.1 dX5_addWord_7 (by decide) (fun hc4 => ?_) (fun hc4 => ?_)
  · have hf := o_t hc4 hf
    exact hret (o_r2 hf hM) dX5_addWord_50
  · have hf := o_f hc4 hf
    refine lv_aload_n hC.1 hC.2.1 dX5_addWord_10 rfl (lv_at hl 0 rfl) ?_
    refine mw_get (v := .ref (mvA V 44)) hC hM 33 (Nat.le_of_ble_eq_true rfl) (eC_33 V) inW5 rfl 4 (by decide) q_281 (fun _ h9 => h9) rfl dX5_addWord_11 ?_
    refine lv_aload_n hC.1 hC.2.1 dX5_addWord_14 rfl (lv_at hl 0 rfl) ?_
    refine mw_get (v := .int (M 33 3)) hC hM 33 (Nat.le_of_ble_eq_true rfl) (eC_33 V) inW5 rfl 3 (by decide) q_280 (fun _ h9 => h9) rfl dX5_addWord_15 ?_
    refine lv_iload_n hC.1 hC.2.1 dX5_addWord_18 rfl (lv_at hl 1 rfl) ?_
    obtain ⟨hg1, hf⟩ := o_g hf
    refine mw_iast hC hM 44 0 (Nat.le_of_ble_eq_true rfl) (eC_44 V) rfl hg1 dX5_addWord_19 (fun H locs hM => ?_)
    refine lv_aload_n hC.1 hC.2.1 dX5_addWord_20 rfl (lv_at hl 0 rfl) ?_
    refine mw_get (v := .ref (mvA V 45)) hC hM 33 (Nat.le_of_ble_eq_true rfl) (eC_33 V) inW5 rfl 5 (by decide) q_282 (fun _ h9 => h9) rfl dX5_addWord_21 ?_
    refine lv_aload_n hC.1 hC.2.1 dX5_addWord_24 rfl (lv_at hl 0 rfl) ?_
    refine mw_get (v := .int ((wr M 44 (Int32.toNatClampNeg (M 33 3)) p1) 33 3)) hC hM 33 (Nat.le_of_ble_eq_true rfl) (eC_33 V) inW5 rfl 3 (by decide) q_280 (fun _ h9 => h9) rfl dX5_addWord_25 ?_
    refine lv_iload_n hC.1 hC.2.1 dX5_addWord_28 rfl (lv_at hl 2 rfl) ?_
    obtain ⟨hg2, hf⟩ := o_g hf
    refine mw_iast hC hM 45 0 (Nat.le_of_ble_eq_true rfl) (eC_45 V) rfl hg2 dX5_addWord_29 (fun H locs hM => ?_)
    refine lv_aload_n hC.1 hC.2.1 dX5_addWord_30 rfl (lv_at hl 0 rfl) ?_
    refine mw_get (v := .ref (mvA V 46)) hC hM 33 (Nat.le_of_ble_eq_true rfl) (eC_33 V) inW5 rfl 6 (by decide) q_283 (fun _ h9 => h9) rfl dX5_addWord_31 ?_
    refine lv_aload_n hC.1 hC.2.1 dX5_addWord_34 rfl (lv_at hl 0 rfl) ?_
    refine mw_get (v := .int ((wr (wr M 44 (Int32.toNatClampNeg (M 33 3)) p1) 45 (Int32.toNatClampNeg ((wr M 44 (Int32.toNatClampNeg (M 33 3)) p1) 33 3)) p2) 33 3)) hC hM 33 (Nat.le_of_ble_eq_true rfl) (eC_33 V) inW5 rfl 3 (by decide) q_280 (fun _ h9 => h9) rfl dX5_addWord_35 ?_
    refine lv_iload_n hC.1 hC.2.1 dX5_addWord_38 rfl (lv_at hl 3 rfl) ?_
    obtain ⟨hg3, hf⟩ := o_g hf
    refine mw_iast hC hM 46 0 (Nat.le_of_ble_eq_true rfl) (eC_46 V) rfl hg3 dX5_addWord_39 (fun H locs hM => ?_)
    refine lv_aload_n hC.1 hC.2.1 dX5_addWord_40 rfl (lv_at hl 0 rfl) ?_
    refine lv_dup hC.1 hC.2.1 dX5_addWord_41 rfl ?_
    refine mw_get (v := .int ((wr (wr (wr M 44 (Int32.toNatClampNeg (M 33 3)) p1) 45 (Int32.toNatClampNeg ((wr M 44 (Int32.toNatClampNeg (M 33 3)) p1) 33 3)) p2) 46 (Int32.toNatClampNeg ((wr (wr M 44 (Int32.toNatClampNeg (M 33 3)) p1) 45 (Int32.toNatClampNeg ((wr M 44 (Int32.toNatClampNeg (M 33 3)) p1) 33 3)) p2) 33 3)) p3) 33 3)) hC hM 33 (Nat.le_of_ble_eq_true rfl) (eC_33 V) inW5 rfl 3 (by decide) q_280 (fun _ h9 => h9) rfl dX5_addWord_42 ?_
    refine lv_iconst hC.1 hC.2.1 dX5_addWord_45 ci_1 ?_
    refine lv_iadd hC.1 hC.2.1 dX5_addWord_46 ?_
    refine mw_put hC hM 33 (Nat.le_of_ble_eq_true rfl) (eC_33 V) inW5 tyX5 tyX5_ok nmX5 rfl 3 (by decide) q_280 (fun _ h9 => h9) rfl rfl rfl (Nat.le_of_ble_eq_true rfl) rfl dX5_addWord_47 (fun H locs hM => ?_)
    exact hret (o_r2 hf hM) dX5_addWord_50
set_option maxHeartbeats 4000000 in
set_option maxRecDepth 100000 in
theorem mcX5_isLetter (V : mV) (l : Launch) (M : mM) (p0 : Int32) (r : Int32) (hf : fX5_isLetter p0 = r) : ZC V l yX5_isLetter cX5_isLetter 1 ({ frames := 0, cells := 0, slots := 0, locals := 0 } : Room) [.int p0] M r M := by
  unfold fX5_isLetter at hf
  refine mw_enterZ RX5 rfl (by decide +kernel) (Nat.le_of_ble_eq_true rfl) (fun {p e s m args below meth c} ls A Q hC hret hM hl => ?_)
  have hl : lv_has ls 1 [(0, .int p0)] := hl
  refine lv_iload_n hC.1 hC.2.1 dX5_isLetter_0 rfl (lv_at hl 0 rfl) ?_
  refine lv_bipush hC.1 hC.2.1 dX5_isLetter_1 cb_97 ?_
  refine lv_icmp_lt (tgt := 16) hC.1 hC.2.1 dX5_isLetter_3 (by decide) (fun hc2 => ?_) (fun hc2 => ?_)
  · have hf := o_t hc2 hf
    refine lv_iconst hC.1 hC.2.1 dX5_isLetter_16 ci_0 ?_
    exact hret hf (Or.inl rfl) hM dX5_isLetter_17
  · have hf := o_f hc2 hf
    refine lv_iload_n hC.1 hC.2.1 dX5_isLetter_6 rfl (lv_at hl 0 rfl) ?_
    refine lv_bipush hC.1 hC.2.1 dX5_isLetter_7 cb_122 ?_
    refine lv_icmp_gt (tgt := 16) hC.1 hC.2.1 dX5_isLetter_9 (by decide) (fun hc1 => ?_) (fun hc1 => ?_)
    · have hf := o_t hc1 hf
      refine lv_iconst hC.1 hC.2.1 dX5_isLetter_16 ci_0 ?_
      exact hret hf (Or.inl rfl) hM dX5_isLetter_17
    · have hf := o_f hc1 hf
      refine lv_iconst hC.1 hC.2.1 dX5_isLetter_12 ci_1 ?_
      refine lv_goto (tgt := 17) hC.1 hC.2.1 dX5_isLetter_13 (by decide) ?_
      exact hret hf (Or.inr rfl) hM dX5_isLetter_17
set_option maxHeartbeats 4000000 in
set_option maxRecDepth 100000 in
theorem mcX5_isDigit (V : mV) (l : Launch) (M : mM) (p0 : Int32) (r : Int32) (hf : fX5_isDigit p0 = r) : ZC V l yX5_isDigit cX5_isDigit 1 ({ frames := 0, cells := 0, slots := 0, locals := 0 } : Room) [.int p0] M r M := by
  unfold fX5_isDigit at hf
  refine mw_enterZ RX5 rfl (by decide +kernel) (Nat.le_of_ble_eq_true rfl) (fun {p e s m args below meth c} ls A Q hC hret hM hl => ?_)
  have hl : lv_has ls 1 [(0, .int p0)] := hl
  refine lv_iload_n hC.1 hC.2.1 dX5_isDigit_0 rfl (lv_at hl 0 rfl) ?_
  refine lv_bipush hC.1 hC.2.1 dX5_isDigit_1 cb_48 ?_
  refine lv_icmp_lt (tgt := 16) hC.1 hC.2.1 dX5_isDigit_3 (by decide) (fun hc2 => ?_) (fun hc2 => ?_)
  · have hf := o_t hc2 hf
    refine lv_iconst hC.1 hC.2.1 dX5_isDigit_16 ci_0 ?_
    exact hret hf (Or.inl rfl) hM dX5_isDigit_17
  · have hf := o_f hc2 hf
    refine lv_iload_n hC.1 hC.2.1 dX5_isDigit_6 rfl (lv_at hl 0 rfl) ?_
    refine lv_bipush hC.1 hC.2.1 dX5_isDigit_7 cb_57 ?_
    refine lv_icmp_gt (tgt := 16) hC.1 hC.2.1 dX5_isDigit_9 (by decide) (fun hc1 => ?_) (fun hc1 => ?_)
    · have hf := o_t hc1 hf
      refine lv_iconst hC.1 hC.2.1 dX5_isDigit_16 ci_0 ?_
      exact hret hf (Or.inl rfl) hM dX5_isDigit_17
    · have hf := o_f hc1 hf
      refine lv_iconst hC.1 hC.2.1 dX5_isDigit_12 ci_1 ?_
      refine lv_goto (tgt := 17) hC.1 hC.2.1 dX5_isDigit_13 (by decide) ?_
      exact hret hf (Or.inr rfl) hM dX5_isDigit_17
set_option maxHeartbeats 4000000 in
set_option maxRecDepth 100000 in
theorem mcX5_signOf (V : mV) (l : Launch) (M : mM) (p0 : Int32) (r : Int32) (hf : fX5_signOf p0 = r) : IC V l yX5_signOf cX5_signOf 1 ({ frames := 0, cells := 0, slots := 0, locals := 0 } : Room) [.int p0] M r M := by
  unfold fX5_signOf at hf
  refine mw_enterI RX5 rfl (by decide +kernel) (Nat.le_of_ble_eq_true rfl) (fun {p e s m args below meth c} ls A Q hC hret hM hl => ?_)
  have hl : lv_has ls 1 [(0, .int p0)] := hl
  refine lv_iload_n hC.1 hC.2.1 dX5_signOf_0 rfl (lv_at hl 0 rfl) ?_
  by_cases hc1 : p0 = 40
  · have hf := o_t hc1 hf
    refine lv_lookup (off := 68) (tgt := 69) hC.1 hC.2.1 dX5_signOf_1 (by decide) (by rw [hc1]; rfl) (by decide) ?_
    refine lv_bipush hC.1 hC.2.1 dX5_signOf_69 cb_34 ?_
    exact hret hf hM dX5_signOf_71
  have hf := o_f hc1 hf
  by_cases hc2 : p0 = 41
  · have hf := o_t hc2 hf
    refine lv_lookup (off := 71) (tgt := 72) hC.1 hC.2.1 dX5_signOf_1 (by decide) (by rw [hc2]; rfl) (by decide) ?_
    refine lv_bipush hC.1 hC.2.1 dX5_signOf_72 cb_35 ?_
    exact hret hf hM dX5_signOf_74
  have hf := o_f hc2 hf
  by_cases hc3 : p0 = 59
  · have hf := o_t hc3 hf
    refine lv_lookup (off := 74) (tgt := 75) hC.1 hC.2.1 dX5_signOf_1 (by decide) (by rw [hc3]; rfl) (by decide) ?_
    refine lv_bipush hC.1 hC.2.1 dX5_signOf_75 cb_36 ?_
    exact hret hf hM dX5_signOf_77
  have hf := o_f hc3 hf
  by_cases hc4 : p0 = 60
  · have hf := o_t hc4 hf
    refine lv_lookup (off := 59) (tgt := 60) hC.1 hC.2.1 dX5_signOf_1 (by decide) (by rw [hc4]; rfl) (by decide) ?_
    refine lv_bipush hC.1 hC.2.1 dX5_signOf_60 cb_31 ?_
    exact hret hf hM dX5_signOf_62
  have hf := o_f hc4 hf
  by_cases hc5 : p0 = 61
  · have hf := o_t hc5 hf
    refine lv_lookup (off := 62) (tgt := 63) hC.1 hC.2.1 dX5_signOf_1 (by decide) (by rw [hc5]; rfl) (by decide) ?_
    refine lv_bipush hC.1 hC.2.1 dX5_signOf_63 cb_32 ?_
    exact hret hf hM dX5_signOf_65
  have hf := o_f hc5 hf
  by_cases hc6 : p0 = 62
  · have hf := o_t hc6 hf
    refine lv_lookup (off := 65) (tgt := 66) hC.1 hC.2.1 dX5_signOf_1 (by decide) (by rw [hc6]; rfl) (by decide) ?_
    refine lv_bipush hC.1 hC.2.1 dX5_signOf_66 cb_33 ?_
    exact hret hf hM dX5_signOf_68
  have hf := o_f hc6 hf
  have hc1 := sw_ne (k := 40) (v := 40) rfl hc1
  have hc2 := sw_ne (k := 41) (v := 41) rfl hc2
  have hc3 := sw_ne (k := 59) (v := 59) rfl hc3
  have hc4 := sw_ne (k := 60) (v := 60) rfl hc4
  have hc5 := sw_ne (k := 61) (v := 61) rfl hc5
  have hc6 := sw_ne (k := 62) (v := 62) rfl hc6
  refine lv_lookup (off := 77) (tgt := 78) hC.1 hC.2.1 dX5_signOf_1 (by decide) (by simp [Op.lookupswitch.offset, Ne.symm hc1, Ne.symm hc2, Ne.symm hc3, Ne.symm hc4, Ne.symm hc5, Ne.symm hc6]) (by decide) ?_
  refine lv_bipush hC.1 hC.2.1 dX5_signOf_78 cb_41 ?_
  exact hret hf hM dX5_signOf_80
set_option maxHeartbeats 4000000 in
set_option maxRecDepth 100000 in
theorem mcX6_addValue_q34 (V : mV) (l : Launch) (M : mM) (p1 : Int32) (r : Int32) (M' : mM) (hf : fX6_addValue_q34 M p1 = some (r, M')) : IC V l yX6_addValue cX6_addValue 2 ({ frames := 0, cells := 0, slots := 0, locals := 0 } : Room) [.ref (mvA V 34), .int p1] M r M' := by
  unfold fX6_addValue_q34 at hf
  refine mw_enterI RX6 rfl (by decide +kernel) (Nat.le_of_ble_eq_true rfl) (fun {p e s m args below meth c} ls A Q hC hret hM hl => ?_)
  have hl : lv_has ls 2 [(0, .ref (mvA V 34)), (1, .int p1)] := hl
  refine lv_aload_n hC.1 hC.2.1 dX6_addValue_0 rfl (lv_at hl 0 rfl) ?_
  refine mw_get (v := .int (M 34 9)) hC hM 34 (Nat.le_of_ble_eq_true rfl) (eC_34 V) inW6 rfl 9 (by decide) q_179 (fun _ h9 => h9) rfl dX6_addValue_1 ?_
  refine lv_aload_n hC.1 hC.2.1 dX6_addValue_4 rfl (lv_at hl 0 rfl) ?_
  refine mw_get (v := .ref (mvA V 42)) hC hM 34 (Nat.le_of_ble_eq_true rfl) (eC_34 V) inW6 rfl 10 (by decide) q_180 (fun _ h9 => h9) rfl dX6_addValue_5 ?_
  refine mw_alen (n := 205) hC hM 42 0 (Nat.le_of_ble_eq_true rfl) (eC_42 V) rfl dX6_addValue_8 ?_
  refine lv_icmp_ge (tgt := 32) hC.1 hC.2.1 dX6_addValue_9 (by decide) (fun hc2 => ?_) (fun hc2 => ?_)
  · have hf := o_t hc2 hf
    refine lv_aload_n hC.1 hC.2.1 dX6_addValue_32 rfl (lv_at hl 0 rfl) ?_
    refine mw_get (v := .int (M 34 9)) hC hM 34 (Nat.le_of_ble_eq_true rfl) (eC_34 V) inW6 rfl 9 (by decide) q_179 (fun _ h9 => h9) rfl dX6_addValue_33 ?_
    refine lv_iconst hC.1 hC.2.1 dX6_addValue_36 ci_1 ?_
    refine lv_isub hC.1 hC.2.1 dX6_addValue_37 ?_
    exact hret (o_r1 hf) (o_r2 hf hM) dX6_addValue_38
  · have hf := o_f hc2 hf
    refine lv_aload_n hC.1 hC.2.1 dX6_addValue_12 rfl (lv_at hl 0 rfl) ?_
    refine mw_get (v := .ref (mvA V 42)) hC hM 34 (Nat.le_of_ble_eq_true rfl) (eC_34 V) inW6 rfl 10 (by decide) q_180 (fun _ h9 => h9) rfl dX6_addValue_13 ?_
    refine lv_aload_n hC.1 hC.2.1 dX6_addValue_16 rfl (lv_at hl 0 rfl) ?_
    refine mw_get (v := .int (M 34 9)) hC hM 34 (Nat.le_of_ble_eq_true rfl) (eC_34 V) inW6 rfl 9 (by decide) q_179 (fun _ h9 => h9) rfl dX6_addValue_17 ?_
    refine lv_iload_n hC.1 hC.2.1 dX6_addValue_20 rfl (lv_at hl 1 rfl) ?_
    obtain ⟨hg1, hf⟩ := o_g hf
    refine mw_iast hC hM 42 0 (Nat.le_of_ble_eq_true rfl) (eC_42 V) rfl hg1 dX6_addValue_21 (fun H locs hM => ?_)
    refine lv_aload_n hC.1 hC.2.1 dX6_addValue_22 rfl (lv_at hl 0 rfl) ?_
    refine lv_dup hC.1 hC.2.1 dX6_addValue_23 rfl ?_
    refine mw_get (v := .int ((wr M 42 (Int32.toNatClampNeg (M 34 9)) p1) 34 9)) hC hM 34 (Nat.le_of_ble_eq_true rfl) (eC_34 V) inW6 rfl 9 (by decide) q_179 (fun _ h9 => h9) rfl dX6_addValue_24 ?_
    refine lv_iconst hC.1 hC.2.1 dX6_addValue_27 ci_1 ?_
    refine lv_iadd hC.1 hC.2.1 dX6_addValue_28 ?_
    refine mw_put hC hM 34 (Nat.le_of_ble_eq_true rfl) (eC_34 V) inW6 tyX6 tyX6_ok nmX6 rfl 9 (by decide) q_179 (fun _ h9 => h9) rfl rfl rfl (Nat.le_of_ble_eq_true rfl) rfl dX6_addValue_29 (fun H locs hM => ?_)
    refine lv_aload_n hC.1 hC.2.1 dX6_addValue_32 rfl (lv_at hl 0 rfl) ?_
    refine mw_get (v := .int ((wr (wr M 42 (Int32.toNatClampNeg (M 34 9)) p1) 34 9 (((wr M 42 (Int32.toNatClampNeg (M 34 9)) p1) 34 9) + 1)) 34 9)) hC hM 34 (Nat.le_of_ble_eq_true rfl) (eC_34 V) inW6 rfl 9 (by decide) q_179 (fun _ h9 => h9) rfl dX6_addValue_33 ?_
    refine lv_iconst hC.1 hC.2.1 dX6_addValue_36 ci_1 ?_
    refine lv_isub hC.1 hC.2.1 dX6_addValue_37 ?_
    exact hret (o_r1 hf) (o_r2 hf hM) dX6_addValue_38
set_option maxHeartbeats 4000000 in
set_option maxRecDepth 100000 in
theorem mcX5_addNumber (V : mV) (l : Launch) (M : mM) (p1 : Int32) (p2 : Int32) (r : Int32) (M' : mM) (hf : fX5_addNumber M p1 p2 = some (r, M')) : UC V l yX5_addNumber cX5_addNumber 5 ({ frames := 1, cells := 0, slots := 0, locals := 23 } : Room) [.ref (mvA V 33), .int p1, .int p2] M M' := by
  unfold fX5_addNumber at hf
  refine mw_enterV RX5 rfl (by decide +kernel) (Nat.le_of_ble_eq_true rfl) (fun {p e s m args below meth c} ls A Q hC hret hM hl => ?_)
  have hl : lv_has ls 5 [(0, .ref (mvA V 33)), (1, .int p1), (2, .int p2)] := hl
  have hL22 : ∀ (n : Nat) (M : mM) (x1 : Int32) (x2 : Int32) (x3 : Int32) (x4 : Int32) (H : Heap) (locs : List Loc) (ls : Array Slot), fX5_addNumber_L22 n M x1 x2 x3 x4 = some (r, M') → PC V M A s H locs → lv_has ls 5 [(0, .ref (mvA V 33)), (1, .int x1), (2, .int x2), (3, .int x3), (4, .int x4)] → W p l e ({ frames := 1, cells := 0, slots := 0, locals := 23 } : Room) s m args below meth c H locs 0 0 Q (F0 m 22 ls []) := by
    intro n15
    induction n15 with
    | zero => intro M x1 x2 x3 x4 H locs ls hf; cases hf
    | succ n15 ih15 =>
      intro M x1 x2 x3 x4 H locs ls hf hM hl
      have hf : fX5_addNumber_L22_b (fX5_addNumber_L22 n15) M x1 x2 x3 x4 = some (r, M') := hf
      unfold fX5_addNumber_L22_b at hf
      refine lv_iload hC.1 hC.2.1 dX5_addNumber_22 (lv_at hl 4 rfl) ?_
      refine lv_iload_n hC.1 hC.2.1 dX5_addNumber_24 rfl (lv_at hl 2 rfl) ?_
      refine lv_icmp_ge (tgt := 50) hC.1 hC.2.1 dX5_addNumber_25 (by decide) (fun hc12 => ?_) (fun hc12 => ?_)
      · have hf := o_t hc12 hf
        refine lv_aload_n hC.1 hC.2.1 dX5_addNumber_50 rfl (lv_at hl 0 rfl) ?_
        refine lv_bipush hC.1 hC.2.1 dX5_addNumber_51 cb_30 ?_
        refine lv_iload_n hC.1 hC.2.1 dX5_addNumber_53 rfl (lv_at hl 1 rfl) ?_
        refine lv_aload_n hC.1 hC.2.1 dX5_addNumber_54 rfl (lv_at hl 0 rfl) ?_
        refine mw_get (v := .ref (mvA V 34)) hC hM 33 (Nat.le_of_ble_eq_true rfl) (eC_33 V) inW5 rfl 1 (by decide) q_277 (fun _ h9 => h9) rfl dX5_addNumber_55 ?_
        refine lv_iload_n hC.1 hC.2.1 dX5_addNumber_58 rfl (lv_at hl 3 rfl) ?_
        obtain ⟨r5, M7, hq6, hf⟩ := o_b2 hf
        refine mw_cVi (As := [.int x3]) (rest := [.int x1, .int 30, .ref (mvA V 33)]) hC hM (mcX6_addValue_q34 V l M x3 r5 M7 hq6) (mw_kV hC q_677 q_678 q_679 q_110 q_680 ⟨rfl, rfl⟩ kV_X6_addValue ⟨Nat.le_of_ble_eq_true rfl, Nat.le_of_ble_eq_true rfl⟩) (Nat.le_of_ble_eq_true rfl) (eC_34 V) rfl rfl rfl (Nat.le_of_ble_eq_true rfl) hl.1 dX5_addNumber_59 (fun H locs hM _ => ?_)
        obtain ⟨r8, M10, hq9, hf⟩ := o_b2 hf
        refine mw_cVv (As := [.int 30, .int x1, .int r5]) (rest := []) hC hM (mcX5_addWord V l M7 30 x1 r5 r8 M10 hq9) (mw_kV hC q_666 q_668 q_9 q_111 q_669 ⟨rfl, rfl⟩ kV_X5_addWord ⟨Nat.le_of_ble_eq_true rfl, Nat.le_of_ble_eq_true rfl⟩) (Nat.le_of_ble_eq_true rfl) (eC_33 V) rfl rfl rfl (Nat.le_of_ble_eq_true rfl) hl.1 dX5_addNumber_62 (fun H locs hM => ?_)
        exact hret (o_r2 hf hM) dX5_addNumber_65
      · have hf := o_f hc12 hf
        refine lv_iload_n hC.1 hC.2.1 dX5_addNumber_28 rfl (lv_at hl 3 rfl) ?_
        refine lv_bipush hC.1 hC.2.1 dX5_addNumber_29 cb_10 ?_
        refine lv_imul hC.1 hC.2.1 dX5_addNumber_31 ?_
        refine lv_aload_n hC.1 hC.2.1 dX5_addNumber_32 rfl (lv_at hl 0 rfl) ?_
        refine mw_get (v := .ref (mvA V 43)) hC hM 33 (Nat.le_of_ble_eq_true rfl) (eC_33 V) inW5 rfl 2 (by decide) q_279 (fun _ h9 => h9) rfl dX5_addNumber_33 ?_
        refine lv_iload hC.1 hC.2.1 dX5_addNumber_36 (lv_at hl 4 rfl) ?_
        obtain ⟨hg11, hf⟩ := o_g hf
        refine mw_iald hC hM 43 0 (Nat.le_of_ble_eq_true rfl) (eC_43 V) rfl hg11 dX5_addNumber_38 ?_
        refine lv_iadd hC.1 hC.2.1 dX5_addNumber_39 ?_
        refine lv_bipush hC.1 hC.2.1 dX5_addNumber_40 cb_48 ?_
        refine lv_isub hC.1 hC.2.1 dX5_addNumber_42 ?_
        refine lv_istore_n (lv' := [(3, .int (((x3 * 10) + (M 43 (Int32.toNatClampNeg x4))) - 48)), (0, .ref (mvA V 33)), (1, .int x1), (2, .int x2), (4, .int x4)]) hC.1 hC.2.1 dX5_addNumber_43 rfl hl (Nat.le_of_ble_eq_true rfl) rfl (fun ls hl => ?_)
        refine lv_iinc (k := 4) (lv' := [(4, .int (x4 + 1)), (3, .int (((x3 * 10) + (M 43 (Int32.toNatClampNeg x4))) - 48)), (0, .ref (mvA V 33)), (1, .int x1), (2, .int x2)]) hC.1 hC.2.1 dX5_addNumber_44 hl rfl (inc_1 _) (Nat.le_of_ble_eq_true rfl) rfl (fun ls hl => ?_)
        refine lv_goto (tgt := 22) hC.1 hC.2.1 dX5_addNumber_47 (by decide) ?_
        exact ih15 _ _ _ _ _ _ _ _ hf hM (lv_sub hl [2, 3, 4, 1, 0] rfl)
  refine lv_iload_n hC.1 hC.2.1 dX5_addNumber_0 rfl (lv_at hl 2 rfl) ?_
  refine lv_iload_n hC.1 hC.2.1 dX5_addNumber_1 rfl (lv_at hl 1 rfl) ?_
  refine lv_isub hC.1 hC.2.1 dX5_addNumber_2 ?_
  refine lv_iconst hC.1 hC.2.1 dX5_addNumber_3 ci_4 ?_
  refine lv_icmp_le (tgt := 17) hC.1 hC.2.1 dX5_addNumber_4 (by decide) (fun hc4 => ?_) (fun hc4 => ?_)
  · have hf := o_t hc4 hf
    refine lv_iconst hC.1 hC.2.1 dX5_addNumber_17 ci_0 ?_
    refine lv_istore_n (lv' := [(3, .int 0), (0, .ref (mvA V 33)), (1, .int p1), (2, .int p2)]) hC.1 hC.2.1 dX5_addNumber_18 rfl hl (Nat.le_of_ble_eq_true rfl) rfl (fun ls hl => ?_)
    refine lv_iload_n hC.1 hC.2.1 dX5_addNumber_19 rfl (lv_at hl 2 rfl) ?_
    refine lv_istore (lv' := [(4, .int p1), (3, .int 0), (0, .ref (mvA V 33)), (1, .int p1), (2, .int p2)]) hC.1 hC.2.1 dX5_addNumber_20 hl (Nat.le_of_ble_eq_true rfl) rfl (fun ls hl => ?_)
    exact hL22 _ _ _ _ _ _ _ _ _ hf hM (lv_sub hl [2, 3, 4, 1, 0] rfl)
  · have hf := o_f hc4 hf
    refine lv_aload_n hC.1 hC.2.1 dX5_addNumber_7 rfl (lv_at hl 0 rfl) ?_
    refine lv_bipush hC.1 hC.2.1 dX5_addNumber_8 cb_41 ?_
    refine lv_iload_n hC.1 hC.2.1 dX5_addNumber_10 rfl (lv_at hl 1 rfl) ?_
    refine lv_bipush hC.1 hC.2.1 dX5_addNumber_11 cb_m3 ?_
    obtain ⟨r1, M3, hq2, hf⟩ := o_b2 hf
    refine mw_cVv (As := [.int 41, .int p1, .int (-3)]) (rest := []) hC hM (mcX5_addWord V l M 41 p1 (-3) r1 M3 hq2) (mw_kV hC q_666 q_668 q_9 q_111 q_669 ⟨rfl, rfl⟩ kV_X5_addWord ⟨Nat.le_of_ble_eq_true rfl, Nat.le_of_ble_eq_true rfl⟩) (Nat.le_of_ble_eq_true rfl) (eC_33 V) rfl rfl rfl (Nat.le_of_ble_eq_true rfl) hl.1 dX5_addNumber_13 (fun H locs hM => ?_)
    exact hret (o_r2 hf hM) dX5_addNumber_16
set_option maxHeartbeats 4000000 in
set_option maxRecDepth 100000 in
theorem mcX5_spells (V : mV) (l : Launch) (M : mM) (p1 : Int32) (p2 : Int32) (p3 : Nat) (r : Int32) (hf : fX5_spells M p1 p2 p3 = some r) : ZC V l yX5_spells cX5_spells 6 ({ frames := 9, cells := 0, slots := 0, locals := 300 } : Room) [.ref (mvA V 33), .int p1, .int p2, .ref (mvK V p3)] M r M := by
  unfold fX5_spells at hf
  refine mw_enterZ RX5 rfl (by decide +kernel) (Nat.le_of_ble_eq_true rfl) (fun {p e s m args below meth c} ls A Q hC hret hM hl => ?_)
  have hl : lv_has ls 6 [(0, .ref (mvA V 33)), (1, .int p1), (2, .int p2), (3, .ref (mvK V p3))] := hl
  have hL20 : ∀ (n : Nat) (x1 : Int32) (x2 : Int32) (x3 : Nat) (x4 : Int32) (x5 : Int32) (H : Heap) (locs : List Loc) (ls : Array Slot), fX5_spells_L20 n M x1 x2 x3 x4 x5 = some r → PC V M A s H locs → lv_has ls 6 [(0, .ref (mvA V 33)), (1, .int x1), (2, .int x2), (3, .ref (mvK V x3)), (4, .int x4), (5, .int x5)] → W p l e ({ frames := 9, cells := 0, slots := 0, locals := 300 } : Room) s m args below meth c H locs 0 0 Q (F0 m 20 ls []) := by
    intro n12
    induction n12 with
    | zero => intro x1 x2 x3 x4 x5 H locs ls hf; cases hf
    | succ n12 ih12 =>
      intro x1 x2 x3 x4 x5 H locs ls hf hM hl
      have hf : fX5_spells_L20_b (fX5_spells_L20 n12) M x1 x2 x3 x4 x5 = some r := hf
      unfold fX5_spells_L20_b at hf
      refine lv_iload hC.1 hC.2.1 dX5_spells_20 (lv_at hl 4 rfl) ?_
      refine lv_if_eq (tgt := 62) hC.1 hC.2.1 dX5_spells_22 (by decide) (fun hc10 => ?_) (fun hc10 => ?_)
      · have hf := o_t hc10 hf
        refine lv_iload hC.1 hC.2.1 dX5_spells_62 (lv_at hl 4 rfl) ?_
        obtain ⟨hg3, hf⟩ := o_g hf
        exact hret (Option.some.inj hf) (isB_or hg3) hM dX5_spells_64
      · have hf := o_f hc10 hf
        refine lv_iload hC.1 hC.2.1 dX5_spells_25 (lv_at hl 5 rfl) ?_
        refine lv_iload_n hC.1 hC.2.1 dX5_spells_27 rfl (lv_at hl 2 rfl) ?_
        refine lv_icmp_ge (tgt := 62) hC.1 hC.2.1 dX5_spells_28 (by decide) (fun hc9 => ?_) (fun hc9 => ?_)
        · have hf := o_t hc9 hf
          refine lv_iload hC.1 hC.2.1 dX5_spells_62 (lv_at hl 4 rfl) ?_
          obtain ⟨hg4, hf⟩ := o_g hf
          exact hret (Option.some.inj hf) (isB_or hg4) hM dX5_spells_64
        · have hf := o_f hc9 hf
          refine lv_aload_n hC.1 hC.2.1 dX5_spells_31 rfl (lv_at hl 0 rfl) ?_
          refine mw_get (v := .ref (mvA V 43)) hC hM 33 (Nat.le_of_ble_eq_true rfl) (eC_33 V) inW5 rfl 2 (by decide) q_279 (fun _ h9 => h9) rfl dX5_spells_32 ?_
          refine lv_iload hC.1 hC.2.1 dX5_spells_35 (lv_at hl 5 rfl) ?_
          obtain ⟨hg5, hf⟩ := o_g hf
          refine mw_iald hC hM 43 0 (Nat.le_of_ble_eq_true rfl) (eC_43 V) rfl hg5 dX5_spells_37 ?_
          refine lv_aload_n hC.1 hC.2.1 dX5_spells_38 rfl (lv_at hl 3 rfl) ?_
          refine lv_iload hC.1 hC.2.1 dX5_spells_39 (lv_at hl 5 rfl) ?_
          refine lv_iload_n hC.1 hC.2.1 dX5_spells_41 rfl (lv_at hl 1 rfl) ?_
          refine lv_isub hC.1 hC.2.1 dX5_spells_42 ?_
          obtain ⟨hg6, hf⟩ := o_g hf
          obtain ⟨hg7, hf⟩ := o_g hf
          refine mw_sch (rest := [.int (M 43 (Int32.toNatClampNeg x5))]) hC hM hg6 hg7 q_610 q_611 q_612 q_123 q_613 (Nat.le_of_ble_eq_true rfl) (Nat.le_of_ble_eq_true rfl) (Nat.le_of_ble_eq_true rfl) hl.1 dX5_spells_43 (fun H locs hM => ?_)
          refine lv_icmp_ne (tgt := 53) hC.1 hC.2.1 dX5_spells_46 (by decide) (fun hc8 => ?_) (fun hc8 => ?_)
          · have hf := o_f hc8 hf
            refine lv_iconst hC.1 hC.2.1 dX5_spells_53 ci_0 ?_
            refine lv_istore (lv' := [(4, .int 0), (0, .ref (mvA V 33)), (1, .int x1), (2, .int x2), (3, .ref (mvK V x3)), (5, .int x5)]) hC.1 hC.2.1 dX5_spells_54 hl (Nat.le_of_ble_eq_true rfl) rfl (fun ls hl => ?_)
            refine lv_iinc (k := 5) (lv' := [(5, .int (x5 + 1)), (4, .int 0), (0, .ref (mvA V 33)), (1, .int x1), (2, .int x2), (3, .ref (mvK V x3))]) hC.1 hC.2.1 dX5_spells_56 hl rfl (inc_1 _) (Nat.le_of_ble_eq_true rfl) rfl (fun ls hl => ?_)
            refine lv_goto (tgt := 20) hC.1 hC.2.1 dX5_spells_59 (by decide) ?_
            exact ih12 _ _ _ _ _ _ _ _ hf hM (lv_sub hl [2, 3, 4, 5, 1, 0] rfl)
          · have hf := o_t hc8 hf
            refine lv_iconst hC.1 hC.2.1 dX5_spells_49 ci_1 ?_
            refine lv_goto (tgt := 54) hC.1 hC.2.1 dX5_spells_50 (by decide) ?_
            refine lv_istore (lv' := [(4, .int 1), (0, .ref (mvA V 33)), (1, .int x1), (2, .int x2), (3, .ref (mvK V x3)), (5, .int x5)]) hC.1 hC.2.1 dX5_spells_54 hl (Nat.le_of_ble_eq_true rfl) rfl (fun ls hl => ?_)
            refine lv_iinc (k := 5) (lv' := [(5, .int (x5 + 1)), (4, .int 1), (0, .ref (mvA V 33)), (1, .int x1), (2, .int x2), (3, .ref (mvK V x3))]) hC.1 hC.2.1 dX5_spells_56 hl rfl (inc_1 _) (Nat.le_of_ble_eq_true rfl) rfl (fun ls hl => ?_)
            refine lv_goto (tgt := 20) hC.1 hC.2.1 dX5_spells_59 (by decide) ?_
            exact ih12 _ _ _ _ _ _ _ _ hf hM (lv_sub hl [2, 3, 4, 5, 1, 0] rfl)
  have hL15 : ∀ (x1 : Int32) (x2 : Int32) (x3 : Nat) (t0 : Int32) (H : Heap) (locs : List Loc) (ls : Array Slot), fX5_spells_L15 M x1 x2 x3 t0 = some r → PC V M A s H locs → lv_has ls 6 [(0, .ref (mvA V 33)), (1, .int x1), (2, .int x2), (3, .ref (mvK V x3))] → W p l e ({ frames := 9, cells := 0, slots := 0, locals := 300 } : Room) s m args below meth c H locs 0 0 Q (F0 m 15 ls [.int t0]) := by
    intro x1 x2 x3 t0 H locs ls hf hM hl
    unfold fX5_spells_L15 at hf
    refine lv_istore (lv' := [(4, .int t0), (0, .ref (mvA V 33)), (1, .int x1), (2, .int x2), (3, .ref (mvK V x3))]) hC.1 hC.2.1 dX5_spells_15 hl (Nat.le_of_ble_eq_true rfl) rfl (fun ls hl => ?_)
    refine lv_iload_n hC.1 hC.2.1 dX5_spells_17 rfl (lv_at hl 2 rfl) ?_
    refine lv_istore (lv' := [(5, .int x1), (4, .int t0), (0, .ref (mvA V 33)), (1, .int x1), (2, .int x2), (3, .ref (mvK V x3))]) hC.1 hC.2.1 dX5_spells_18 hl (Nat.le_of_ble_eq_true rfl) rfl (fun ls hl => ?_)
    exact hL20 _ _ _ _ _ _ _ _ _ hf hM (lv_sub hl [2, 3, 4, 5, 1, 0] rfl)
  refine lv_iload_n hC.1 hC.2.1 dX5_spells_0 rfl (lv_at hl 2 rfl) ?_
  refine lv_iload_n hC.1 hC.2.1 dX5_spells_1 rfl (lv_at hl 1 rfl) ?_
  refine lv_isub hC.1 hC.2.1 dX5_spells_2 ?_
  refine lv_aload_n hC.1 hC.2.1 dX5_spells_3 rfl (lv_at hl 3 rfl) ?_
  obtain ⟨hg1, hf⟩ := o_g hf
  refine mw_slen (rest := [.int (p2 - p1)]) hC hM hg1 q_600 q_601 q_602 q_123 q_603 (Nat.le_of_ble_eq_true rfl) (Nat.le_of_ble_eq_true rfl) (Nat.le_of_ble_eq_true rfl) hl.1 dX5_spells_4 (fun H locs hM => ?_)
  refine lv_icmp_ne (tgt := 14) hC.1 hC.2.1 dX5_spells_7 (by decide) (fun hc2 => ?_) (fun hc2 => ?_)
  · have hf := o_f hc2 hf
    refine lv_iconst hC.1 hC.2.1 dX5_spells_14 ci_0 ?_
    exact hL15 _ _ _ _ _ _ _ hf hM (lv_sub hl [0, 1, 2, 3] rfl)
  · have hf := o_t hc2 hf
    refine lv_iconst hC.1 hC.2.1 dX5_spells_10 ci_1 ?_
    refine lv_goto (tgt := 15) hC.1 hC.2.1 dX5_spells_11 (by decide) ?_
    exact hL15 _ _ _ _ _ _ _ hf hM (lv_sub hl [0, 1, 2, 3] rfl)
