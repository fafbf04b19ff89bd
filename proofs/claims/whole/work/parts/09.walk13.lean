set_option maxHeartbeats 4000000 in
set_option maxRecDepth 100000 in
theorem mcX12_wouldBe (V : mV) (l : Launch) (M : mM) (p1 : Int32) (p2 : Int32) (p3 : Int32) (r : Int32) (M' : mM) (hf : fX12_wouldBe M p1 p2 p3 = some (r, M')) : IR V l yX12_wouldBe cX12_wouldBe 9 ({ frames := 7, cells := 0, slots := 0, locals := 161 } : Room) [.ref (mvA V 0), .int p1, .int p2, .int p3] M r M' := by
  unfold fX12_wouldBe at hf
  refine mw_enterI RX12 rfl (by decide +kernel) (Nat.le_of_ble_eq_true rfl) (fun {p e s m args below meth c} ls A Q hC hret hM hl => ?_)
  have hl : lv_has ls 9 [(0, .ref (mvA V 0)), (1, .int p1), (2, .int p2), (3, .int p3)] := hl
  have hL165 : ∀ (M : mM) (x4 : Int32) (x5 : Int32) (H : Heap) (locs : List Loc) (ls : Array Slot), fX12_wouldBe_L165 M x4 x5 = some (r, M') → PR V M A s H locs → lv_has ls 9 [(0, .ref (mvA V 0)), (4, .int x4), (5, .int x5)] → W p l e ({ frames := 7, cells := 0, slots := 0, locals := 161 } : Room) s m args below meth c H locs 0 0 Q (F0 m 165 ls []) := by
    intro M x4 x5 H locs ls hf hM hl
    unfold fX12_wouldBe_L165 at hf
    refine lv_aload_n hC.1 hC.2.1 dX12_wouldBe_165 rfl (lv_at hl 0 rfl) ?_
    refine mw_get (v := .ref (mvA V 1)) hC hM 0 (Nat.le_of_ble_eq_true rfl) (eR_0 V) inW12 rfl 0 (by decide) q_1146 (fun _ h9 => h9) rfl dX12_wouldBe_166 ?_
    refine lv_iconst hC.1 hC.2.1 dX12_wouldBe_169 ci_1 ?_
    obtain ⟨hg16, hf⟩ := o_g hf
    refine mw_iald hC hM 1 0 (Nat.le_of_ble_eq_true rfl) (eR_1 V) rfl hg16 dX12_wouldBe_170 ?_
    refine lv_istore (lv' := [(6, .int (M 1 (Int32.toNatClampNeg 1))), (0, .ref (mvA V 0)), (4, .int x4), (5, .int x5)]) hC.1 hC.2.1 dX12_wouldBe_171 hl (Nat.le_of_ble_eq_true rfl) rfl (fun ls hl => ?_)
    refine lv_aload_n hC.1 hC.2.1 dX12_wouldBe_173 rfl (lv_at hl 1 rfl) ?_
    obtain ⟨r17, M19, hq18, hf⟩ := o_b2 hf
    refine mw_cVv (As := []) (rest := []) hC hM (mcX12_laysAllBack V l M r17 M19 hq18) (mw_kV hC q_1641 q_1643 q_91 q_120 q_1644 ⟨rfl, rfl⟩ kV_X12_laysAllBack ⟨Nat.le_of_ble_eq_true rfl, Nat.le_of_ble_eq_true rfl⟩) (Nat.le_of_ble_eq_true rfl) (eR_0 V) rfl rfl rfl (Nat.le_of_ble_eq_true rfl) hl.1 dX12_wouldBe_174 (fun H locs hM => ?_)
    refine lv_iload hC.1 hC.2.1 dX12_wouldBe_177 (lv_at hl 2 rfl) ?_
    refine lv_if_ge (tgt := 187) hC.1 hC.2.1 dX12_wouldBe_179 (by decide) (fun hc20 => ?_) (fun hc20 => ?_)
    · have hf := o_t hc20 hf
      refine lv_bipush hC.1 hC.2.1 dX12_wouldBe_187 cb_100 ?_
      refine lv_iload hC.1 hC.2.1 dX12_wouldBe_189 (lv_at hl 3 rfl) ?_
      refine lv_imul hC.1 hC.2.1 dX12_wouldBe_191 ?_
      refine lv_iload hC.1 hC.2.1 dX12_wouldBe_192 (lv_at hl 0 rfl) ?_
      refine lv_iadd hC.1 hC.2.1 dX12_wouldBe_194 ?_
      exact hret (o_r1 hf) (o_r2 hf hM) dX12_wouldBe_195
    · have hf := o_f hc20 hf
      refine lv_iload hC.1 hC.2.1 dX12_wouldBe_182 (lv_at hl 2 rfl) ?_
      refine lv_goto (tgt := 195) hC.1 hC.2.1 dX12_wouldBe_184 (by decide) ?_
      exact hret (o_r1 hf) (o_r2 hf hM) dX12_wouldBe_195
  have hL38 : ∀ (n : Nat) (M : mM) (x1 : Int32) (x2 : Int32) (x3 : Int32) (x4 : Int32) (x5 : Int32) (x6 : Int32) (H : Heap) (locs : List Loc) (ls : Array Slot), fX12_wouldBe_L38 n M x1 x2 x3 x4 x5 x6 = some (r, M') → PR V M A s H locs → lv_has ls 9 [(0, .ref (mvA V 0)), (1, .int x1), (2, .int x2), (3, .int x3), (4, .int x4), (5, .int x5), (6, .int x6)] → W p l e ({ frames := 7, cells := 0, slots := 0, locals := 161 } : Room) s m args below meth c H locs 0 0 Q (F0 m 38 ls []) := by
    intro n21
    induction n21 with
    | zero => intro M x1 x2 x3 x4 x5 x6 H locs ls hf; cases hf
    | succ n21 ih21 =>
      intro M x1 x2 x3 x4 x5 x6 H locs ls hf hM hl
      have hf : fX12_wouldBe_L38_b (fX12_wouldBe_L38 n21) M x1 x2 x3 x4 x5 x6 = some (r, M') := hf
      unfold fX12_wouldBe_L38_b at hf
      have hL115 : ∀ (M : mM) (x1 : Int32) (x2 : Int32) (x3 : Int32) (x5 : Int32) (x6 : Int32) (x7 : Int32) (t0 : Int32) (H : Heap) (locs : List Loc) (ls : Array Slot), fX12_wouldBe_L115 (fX12_wouldBe_L38 n21) M x1 x2 x3 x5 x6 x7 t0 = some (r, M') → PR V M A s H locs → lv_has ls 9 [(0, .ref (mvA V 0)), (1, .int x1), (2, .int x2), (3, .int x3), (5, .int x5), (6, .int x6), (7, .int x7)] → W p l e ({ frames := 7, cells := 0, slots := 0, locals := 161 } : Room) s m args below meth c H locs 0 0 Q (F0 m 115 ls [.int t0]) := by
        intro M x1 x2 x3 x5 x6 x7 t0 H locs ls hf hM hl
        unfold fX12_wouldBe_L115 at hf
        refine lv_istore (lv' := [(4, .int t0), (0, .ref (mvA V 0)), (1, .int x1), (2, .int x2), (3, .int x3), (5, .int x5), (6, .int x6), (7, .int x7)]) hC.1 hC.2.1 dX12_wouldBe_115 hl (Nat.le_of_ble_eq_true rfl) rfl (fun ls hl => ?_)
        refine lv_iload hC.1 hC.2.1 dX12_wouldBe_117 (lv_at hl 0 rfl) ?_
        refine lv_if_ne (tgt := 159) hC.1 hC.2.1 dX12_wouldBe_119 (by decide) (fun hc37 => ?_) (fun hc37 => ?_)
        · have hf := o_f hc37 hf
          refine lv_iinc (k := 6) (lv' := [(6, .int (x6 + 1)), (4, .int t0), (0, .ref (mvA V 0)), (1, .int x1), (2, .int x2), (3, .int x3), (5, .int x5), (7, .int x7)]) hC.1 hC.2.1 dX12_wouldBe_159 hl rfl (inc_1 _) (Nat.le_of_ble_eq_true rfl) rfl (fun ls hl => ?_)
          refine lv_goto (tgt := 38) hC.1 hC.2.1 dX12_wouldBe_162 (by decide) ?_
          exact ih21 _ _ _ _ _ _ _ _ _ _ hf hM (lv_sub hl [2, 3, 4, 5, 1, 6, 0] rfl)
        · have hf := o_t hc37 hf
          refine lv_aload_n hC.1 hC.2.1 dX12_wouldBe_122 rfl (lv_at hl 1 rfl) ?_
          refine lv_iload hC.1 hC.2.1 dX12_wouldBe_123 (lv_at hl 7 rfl) ?_
          obtain ⟨r25, M27, hq26, hf⟩ := o_b2 hf
          refine mw_cVv (As := [.int x7]) (rest := []) hC hM (mcX12_does V l M x7 r25 M27 hq26) (mw_kV hC q_1549 q_1551 q_83 q_120 q_1552 ⟨rfl, rfl⟩ kV_X12_does ⟨Nat.le_of_ble_eq_true rfl, Nat.le_of_ble_eq_true rfl⟩) (Nat.le_of_ble_eq_true rfl) (eR_0 V) rfl rfl rfl (Nat.le_of_ble_eq_true rfl) hl.1 dX12_wouldBe_125 (fun H locs hM => ?_)
          refine lv_aload_n hC.1 hC.2.1 dX12_wouldBe_128 rfl (lv_at hl 1 rfl) ?_
          obtain ⟨r28, M30, hq29, hf⟩ := o_b2 hf
          refine mw_cVi (As := []) (rest := []) hC hM (mcX12_sumNow V l M27 r28 M30 hq29) (mw_kV hC q_1460 q_1462 q_72 q_120 q_1463 ⟨rfl, rfl⟩ kV_X12_sumNow ⟨Nat.le_of_ble_eq_true rfl, Nat.le_of_ble_eq_true rfl⟩) (Nat.le_of_ble_eq_true rfl) (eR_0 V) rfl rfl rfl (Nat.le_of_ble_eq_true rfl) hl.1 dX12_wouldBe_129 (fun H locs hM _ => ?_)
          refine lv_istore (lv' := [(8, .int r28), (4, .int t0), (0, .ref (mvA V 0)), (1, .int x1), (2, .int x2), (3, .int x3), (5, .int x5), (6, .int x6), (7, .int x7)]) hC.1 hC.2.1 dX12_wouldBe_132 hl (Nat.le_of_ble_eq_true rfl) rfl (fun ls hl => ?_)
          refine lv_aload_n hC.1 hC.2.1 dX12_wouldBe_134 rfl (lv_at hl 2 rfl) ?_
          refine lv_aload_n hC.1 hC.2.1 dX12_wouldBe_135 rfl (lv_at hl 2 rfl) ?_
          refine lv_iload hC.1 hC.2.1 dX12_wouldBe_136 (lv_at hl 0 rfl) ?_
          obtain ⟨r31, hq32, hf⟩ := o_b hf
          refine mw_cVi (As := [.int r28]) (rest := [.ref (mvA V 0)]) hC hM (mcX12_moveBy V l M30 r28 r31 hq32) (mw_kV hC q_1472 q_1474 q_74 q_120 q_1475 ⟨rfl, rfl⟩ kV_X12_moveBy ⟨Nat.le_of_ble_eq_true rfl, Nat.le_of_ble_eq_true rfl⟩) (Nat.le_of_ble_eq_true rfl) (eR_0 V) rfl rfl rfl (Nat.le_of_ble_eq_true rfl) hl.1 dX12_wouldBe_138 (fun H locs hM _ => ?_)
          obtain ⟨r33, M35, hq34, hf⟩ := o_b2 hf
          refine mw_cVv (As := [.int r31]) (rest := []) hC hM (mcX12_turns V l M30 r31 r33 M35 hq34) (mw_kV hC q_1476 q_1478 q_75 q_120 q_1479 ⟨rfl, rfl⟩ kV_X12_turns ⟨Nat.le_of_ble_eq_true rfl, Nat.le_of_ble_eq_true rfl⟩) (Nat.le_of_ble_eq_true rfl) (eR_0 V) rfl rfl rfl (Nat.le_of_ble_eq_true rfl) hl.1 dX12_wouldBe_141 (fun H locs hM => ?_)
          refine lv_iload hC.1 hC.2.1 dX12_wouldBe_144 (lv_at hl 6 rfl) ?_
          refine lv_iload hC.1 hC.2.1 dX12_wouldBe_146 (lv_at hl 0 rfl) ?_
          refine lv_if_ne (tgt := 155) hC.1 hC.2.1 dX12_wouldBe_148 (by decide) (fun hc36 => ?_) (fun hc36 => ?_)
          · have hf := o_f hc36 hf
            refine lv_iconst hC.1 hC.2.1 dX12_wouldBe_155 ci_1 ?_
            refine lv_iadd hC.1 hC.2.1 dX12_wouldBe_156 ?_
            refine lv_istore (lv' := [(5, .int (x5 + 1)), (8, .int r28), (4, .int t0), (0, .ref (mvA V 0)), (1, .int x1), (2, .int x2), (3, .int x3), (6, .int x6), (7, .int x7)]) hC.1 hC.2.1 dX12_wouldBe_157 hl (Nat.le_of_ble_eq_true rfl) rfl (fun ls hl => ?_)
            refine lv_iinc (k := 7) (lv' := [(6, .int (x6 + 1)), (5, .int (x5 + 1)), (8, .int r28), (4, .int t0), (0, .ref (mvA V 0)), (1, .int x1), (2, .int x2), (3, .int x3), (7, .int x7)]) hC.1 hC.2.1 dX12_wouldBe_159 hl rfl (inc_1 _) (Nat.le_of_ble_eq_true rfl) rfl (fun ls hl => ?_)
            refine lv_goto (tgt := 38) hC.1 hC.2.1 dX12_wouldBe_162 (by decide) ?_
            exact ih21 _ _ _ _ _ _ _ _ _ _ hf hM (lv_sub hl [4, 5, 6, 7, 3, 1, 0] rfl)
          · have hf := o_t hc36 hf
            refine lv_iconst hC.1 hC.2.1 dX12_wouldBe_151 ci_0 ?_
            refine lv_goto (tgt := 156) hC.1 hC.2.1 dX12_wouldBe_152 (by decide) ?_
            refine lv_iadd hC.1 hC.2.1 dX12_wouldBe_156 ?_
            refine lv_istore (lv' := [(5, .int (x5 + 0)), (8, .int r28), (4, .int t0), (0, .ref (mvA V 0)), (1, .int x1), (2, .int x2), (3, .int x3), (6, .int x6), (7, .int x7)]) hC.1 hC.2.1 dX12_wouldBe_157 hl (Nat.le_of_ble_eq_true rfl) rfl (fun ls hl => ?_)
            refine lv_iinc (k := 7) (lv' := [(6, .int (x6 + 1)), (5, .int (x5 + 0)), (8, .int r28), (4, .int t0), (0, .ref (mvA V 0)), (1, .int x1), (2, .int x2), (3, .int x3), (7, .int x7)]) hC.1 hC.2.1 dX12_wouldBe_159 hl rfl (inc_1 _) (Nat.le_of_ble_eq_true rfl) rfl (fun ls hl => ?_)
            refine lv_goto (tgt := 38) hC.1 hC.2.1 dX12_wouldBe_162 (by decide) ?_
            exact ih21 _ _ _ _ _ _ _ _ _ _ hf hM (lv_sub hl [4, 5, 6, 7, 3, 1, 0] rfl)
      have hL113 : ∀ (M : mM) (x1 : Int32) (x2 : Int32) (x3 : Int32) (x4 : Int32) (x5 : Int32) (x6 : Int32) (x7 : Int32) (H : Heap) (locs : List Loc) (ls : Array Slot), fX12_wouldBe_L113 (fX12_wouldBe_L38 n21) M x1 x2 x3 x4 x5 x6 x7 = some (r, M') → PR V M A s H locs → lv_has ls 9 [(0, .ref (mvA V 0)), (1, .int x1), (2, .int x2), (3, .int x3), (4, .int x4), (5, .int x5), (6, .int x6), (7, .int x7)] → W p l e ({ frames := 7, cells := 0, slots := 0, locals := 161 } : Room) s m args below meth c H locs 0 0 Q (F0 m 113 ls []) := by
        intro M x1 x2 x3 x4 x5 x6 x7 H locs ls hf hM hl
        unfold fX12_wouldBe_L113 at hf
        refine lv_iload hC.1 hC.2.1 dX12_wouldBe_113 (lv_at hl 4 rfl) ?_
        exact hL115 _ _ _ _ _ _ _ _ _ _ _ hf hM (lv_sub hl [0, 1, 2, 3, 5, 6, 7] rfl)
      have hL84 : ∀ (M : mM) (x1 : Int32) (x2 : Int32) (x3 : Int32) (x4 : Int32) (x5 : Int32) (x6 : Int32) (t0 : Int32) (H : Heap) (locs : List Loc) (ls : Array Slot), fX12_wouldBe_L84 (fX12_wouldBe_L38 n21) M x1 x2 x3 x4 x5 x6 t0 = some (r, M') → PR V M A s H locs → lv_has ls 9 [(0, .ref (mvA V 0)), (1, .int x1), (2, .int x2), (3, .int x3), (4, .int x4), (5, .int x5), (6, .int x6)] → W p l e ({ frames := 7, cells := 0, slots := 0, locals := 161 } : Room) s m args below meth c H locs 0 0 Q (F0 m 84 ls [.int t0]) := by
        intro M x1 x2 x3 x4 x5 x6 t0 H locs ls hf hM hl
        unfold fX12_wouldBe_L84 at hf
        refine lv_istore (lv' := [(7, .int t0), (0, .ref (mvA V 0)), (1, .int x1), (2, .int x2), (3, .int x3), (4, .int x4), (5, .int x5), (6, .int x6)]) hC.1 hC.2.1 dX12_wouldBe_84 hl (Nat.le_of_ble_eq_true rfl) rfl (fun ls hl => ?_)
        refine lv_iload hC.1 hC.2.1 dX12_wouldBe_86 (lv_at hl 5 rfl) ?_
        refine lv_if_ne (tgt := 113) hC.1 hC.2.1 dX12_wouldBe_88 (by decide) (fun hc24 => ?_) (fun hc24 => ?_)
        · have hf := o_f hc24 hf
          exact hL113 _ _ _ _ _ _ _ _ _ _ _ hf hM (lv_sub hl [1, 2, 3, 4, 5, 6, 7, 0] rfl)
        · have hf := o_t hc24 hf
          refine lv_iload hC.1 hC.2.1 dX12_wouldBe_91 (lv_at hl 0 rfl) ?_
          refine lv_i2l (v := (Int32.toInt64 t0)) hC.1 hC.2.1 dX12_wouldBe_93 rfl ?_
          refine lv_lconst (v := 0) hC.1 hC.2.1 dX12_wouldBe_94 rfl ?_
          refine lv_aload_n hC.1 hC.2.1 dX12_wouldBe_95 rfl (lv_at hl 1 rfl) ?_
          refine mw_get (v := .ref (mvA V 1)) hC hM 0 (Nat.le_of_ble_eq_true rfl) (eR_0 V) inW12 rfl 0 (by decide) q_1146 (fun _ h9 => h9) rfl dX12_wouldBe_96 ?_
          refine lv_iconst hC.1 hC.2.1 dX12_wouldBe_99 ci_0 ?_
          obtain ⟨hg21, hf⟩ := o_g hf
          refine mw_iald hC hM 1 0 (Nat.le_of_ble_eq_true rfl) (eR_1 V) rfl hg21 dX12_wouldBe_100 ?_
          refine lv_i2l (v := (Int32.toInt64 (M 1 (Int32.toNatClampNeg 0)))) hC.1 hC.2.1 dX12_wouldBe_101 rfl ?_
          refine mw_cSi (As := [.long (Int32.toInt64 t0), .long 0, .long (Int32.toInt64 (M 1 (Int32.toNatClampNeg 0)))]) (rest := []) hC hM (mcX12_in V l M (Int32.toInt64 t0) 0 (Int32.toInt64 (M 1 (Int32.toNatClampNeg 0))) _ rfl) (mw_kS hC q_1257 q_1258 q_120 q_1259 ⟨rfl, rfl⟩ kS_X12_in ⟨Nat.le_of_ble_eq_true rfl, Nat.le_of_ble_eq_true rfl⟩) rfl rfl (Nat.le_of_ble_eq_true rfl) hl.1 dX12_wouldBe_102 (fun H locs hM hb22 => ?_)
          refine lv_if_ne (tgt := 113) hC.1 hC.2.1 dX12_wouldBe_105 (by decide) (fun hc23 => ?_) (fun hc23 => ?_)
          · have hf := o_f hc23 hf
            exact hL113 _ _ _ _ _ _ _ _ _ _ _ hf hM (lv_sub hl [1, 2, 3, 4, 5, 6, 7, 0] rfl)
          · have hf := o_t hc23 hf
            refine lv_bipush hC.1 hC.2.1 dX12_wouldBe_108 cb_m4 ?_
            refine lv_goto (tgt := 115) hC.1 hC.2.1 dX12_wouldBe_110 (by decide) ?_
            exact hL115 _ _ _ _ _ _ _ _ _ _ _ hf hM (lv_sub hl [1, 2, 3, 4, 6, 7, 0] rfl)
      refine lv_iload hC.1 hC.2.1 dX12_wouldBe_38 (lv_at hl 6 rfl) ?_
      refine lv_iload_n hC.1 hC.2.1 dX12_wouldBe_40 rfl (lv_at hl 3 rfl) ?_
      refine lv_icmp_ge (tgt := 165) hC.1 hC.2.1 dX12_wouldBe_41 (by decide) (fun hc15 => ?_) (fun hc15 => ?_)
      · have hf := o_t hc15 hf
        exact hL165 _ _ _ _ _ _ hf hM (lv_sub hl [0, 4, 5] rfl)
      · have hf := o_f hc15 hf
        refine lv_iload hC.1 hC.2.1 dX12_wouldBe_44 (lv_at hl 4 rfl) ?_
        refine lv_if_ne (tgt := 165) hC.1 hC.2.1 dX12_wouldBe_46 (by decide) (fun hc14 => ?_) (fun hc14 => ?_)
        · have hf := o_f hc14 hf
          exact hL165 _ _ _ _ _ _ hf hM (lv_sub hl [0, 4, 5] rfl)
        · have hf := o_t hc14 hf
          refine lv_aload_n hC.1 hC.2.1 dX12_wouldBe_49 rfl (lv_at hl 0 rfl) ?_
          refine lv_iload_n hC.1 hC.2.1 dX12_wouldBe_50 rfl (lv_at hl 1 rfl) ?_
          refine lv_iconst hC.1 hC.2.1 dX12_wouldBe_51 ci_0 ?_
          refine lv_iload_n hC.1 hC.2.1 dX12_wouldBe_52 rfl (lv_at hl 2 rfl) ?_
          refine lv_iload hC.1 hC.2.1 dX12_wouldBe_53 (lv_at hl 6 rfl) ?_
          refine lv_iadd hC.1 hC.2.1 dX12_wouldBe_55 ?_
          obtain ⟨r10, hq11, hf⟩ := o_b hf
          refine mw_cVi (As := [.int x1, .int 0, .int (x2 + x6)]) (rest := []) hC hM (mcX12_lacks V l M x1 0 (x2 + x6) r10 hq11) (mw_kV hC q_1677 q_1679 q_94 q_120 q_1680 ⟨rfl, rfl⟩ kV_X12_lacks ⟨Nat.le_of_ble_eq_true rfl, Nat.le_of_ble_eq_true rfl⟩) (Nat.le_of_ble_eq_true rfl) (eR_0 V) rfl rfl rfl (Nat.le_of_ble_eq_true rfl) hl.1 dX12_wouldBe_56 (fun H locs hM _ => ?_)
          refine lv_istore (lv' := [(4, .int r10), (0, .ref (mvA V 0)), (1, .int x1), (2, .int x2), (3, .int x3), (5, .int x5), (6, .int x6)]) hC.1 hC.2.1 dX12_wouldBe_59 hl (Nat.le_of_ble_eq_true rfl) rfl (fun ls hl => ?_)
          refine lv_iload hC.1 hC.2.1 dX12_wouldBe_61 (lv_at hl 0 rfl) ?_
          refine lv_if_ne (tgt := 83) hC.1 hC.2.1 dX12_wouldBe_63 (by decide) (fun hc13 => ?_) (fun hc13 => ?_)
          · have hf := o_f hc13 hf
            refine lv_iconst hC.1 hC.2.1 dX12_wouldBe_83 ci_0 ?_
            exact hL84 _ _ _ _ _ _ _ _ _ _ _ hf hM (lv_sub hl [1, 2, 3, 4, 0, 5, 6] rfl)
          · have hf := o_t hc13 hf
            refine lv_aload_n hC.1 hC.2.1 dX12_wouldBe_66 rfl (lv_at hl 1 rfl) ?_
            refine mw_get (v := .ref (mvA V 12)) hC hM 0 (Nat.le_of_ble_eq_true rfl) (eR_0 V) inW12 rfl 24 (by decide) q_1170 (fun _ h9 => h9) rfl dX12_wouldBe_67 ?_
            refine lv_bipush hC.1 hC.2.1 dX12_wouldBe_70 cb_40 ?_
            refine lv_iload_n hC.1 hC.2.1 dX12_wouldBe_72 rfl (lv_at hl 2 rfl) ?_
            refine lv_imul hC.1 hC.2.1 dX12_wouldBe_73 ?_
            refine lv_iload_n hC.1 hC.2.1 dX12_wouldBe_74 rfl (lv_at hl 3 rfl) ?_
            refine lv_iadd hC.1 hC.2.1 dX12_wouldBe_75 ?_
            refine lv_iload hC.1 hC.2.1 dX12_wouldBe_76 (lv_at hl 6 rfl) ?_
            refine lv_iadd hC.1 hC.2.1 dX12_wouldBe_78 ?_
            obtain ⟨hg12, hf⟩ := o_g hf
            refine mw_iald hC hM 12 0 (Nat.le_of_ble_eq_true rfl) (eR_12 V) rfl hg12 dX12_wouldBe_79 ?_
            refine lv_goto (tgt := 84) hC.1 hC.2.1 dX12_wouldBe_80 (by decide) ?_
            exact hL84 _ _ _ _ _ _ _ _ _ _ _ hf hM (lv_sub hl [1, 2, 3, 4, 0, 5, 6] rfl)
  refine lv_iload_n hC.1 hC.2.1 dX12_wouldBe_0 rfl (lv_at hl 1 rfl) ?_
  refine mw_cSi (As := [.int p1]) (rest := []) hC hM (mcX12_isFour V l M p1 _ rfl) (mw_kS hC q_1669 q_1670 q_120 q_1671 ⟨rfl, rfl⟩ kS_X12_isFour ⟨Nat.le_of_ble_eq_true rfl, Nat.le_of_ble_eq_true rfl⟩) rfl rfl (Nat.le_of_ble_eq_true rfl) hl.1 dX12_wouldBe_1 (fun H locs hM hb1 => ?_)
  refine lv_if_eq (tgt := 19) hC.1 hC.2.1 dX12_wouldBe_4 (by decide) (fun hc9 => ?_) (fun hc9 => ?_)
  · have hf := o_t hc9 hf
    refine lv_iconst hC.1 hC.2.1 dX12_wouldBe_19 ci_m1 ?_
    exact hret (o_r1 hf) (o_r2 hf hM) dX12_wouldBe_20
  · have hf := o_f hc9 hf
    refine lv_iload_n hC.1 hC.2.1 dX12_wouldBe_7 rfl (lv_at hl 3 rfl) ?_
    refine lv_i2l (v := (Int32.toInt64 p3)) hC.1 hC.2.1 dX12_wouldBe_8 rfl ?_
    refine lv_lconst (v := 0) hC.1 hC.2.1 dX12_wouldBe_9 rfl ?_
    refine lv_ldc2 hC.1 hC.2.1 hC.2.2.2.1 (mw_w hC q_1692) dX12_wouldBe_10 ?_
    refine mw_cSi (As := [.long (Int32.toInt64 p3), .long 0, .long 20]) (rest := []) hC hM (mcX12_in V l M (Int32.toInt64 p3) 0 20 _ rfl) (mw_kS hC q_1257 q_1258 q_120 q_1259 ⟨rfl, rfl⟩ kS_X12_in ⟨Nat.le_of_ble_eq_true rfl, Nat.le_of_ble_eq_true rfl⟩) rfl rfl (Nat.le_of_ble_eq_true rfl) hl.1 dX12_wouldBe_13 (fun H locs hM hb2 => ?_)
    refine lv_if_ne (tgt := 21) hC.1 hC.2.1 dX12_wouldBe_16 (by decide) (fun hc8 => ?_) (fun hc8 => ?_)
    · have hf := o_f hc8 hf
      refine lv_aload_n hC.1 hC.2.1 dX12_wouldBe_21 rfl (lv_at hl 0 rfl) ?_
      refine lv_iload_n hC.1 hC.2.1 dX12_wouldBe_22 rfl (lv_at hl 1 rfl) ?_
      obtain ⟨r3, hq4, hf⟩ := o_b hf
      refine mw_cVi (As := [.int p1]) (rest := []) hC hM (mcX12_lacksBytes V l M p1 r3 hq4) (mw_kV hC q_1693 q_1695 q_95 q_120 q_1696 ⟨rfl, rfl⟩ kV_X12_lacksBytes ⟨Nat.le_of_ble_eq_true rfl, Nat.le_of_ble_eq_true rfl⟩) (Nat.le_of_ble_eq_true rfl) (eR_0 V) rfl rfl rfl (Nat.le_of_ble_eq_true rfl) hl.1 dX12_wouldBe_23 (fun H locs hM _ => ?_)
      refine lv_istore (lv' := [(4, .int r3), (0, .ref (mvA V 0)), (1, .int p1), (2, .int p2), (3, .int p3)]) hC.1 hC.2.1 dX12_wouldBe_26 hl (Nat.le_of_ble_eq_true rfl) rfl (fun ls hl => ?_)
      refine lv_iconst hC.1 hC.2.1 dX12_wouldBe_28 ci_0 ?_
      refine lv_istore (lv' := [(5, .int 0), (4, .int r3), (0, .ref (mvA V 0)), (1, .int p1), (2, .int p2), (3, .int p3)]) hC.1 hC.2.1 dX12_wouldBe_29 hl (Nat.le_of_ble_eq_true rfl) rfl (fun ls hl => ?_)
      refine lv_aload_n hC.1 hC.2.1 dX12_wouldBe_31 rfl (lv_at hl 2 rfl) ?_
      obtain ⟨r5, M7, hq6, hf⟩ := o_b2 hf
      refine mw_cVv (As := []) (rest := []) hC hM (mcX12_thinksAll V l M r5 M7 hq6) (mw_kV hC q_1637 q_1639 q_90 q_120 q_1640 ⟨rfl, rfl⟩ kV_X12_thinksAll ⟨Nat.le_of_ble_eq_true rfl, Nat.le_of_ble_eq_true rfl⟩) (Nat.le_of_ble_eq_true rfl) (eR_0 V) rfl rfl rfl (Nat.le_of_ble_eq_true rfl) hl.1 dX12_wouldBe_32 (fun H locs hM => ?_)
      refine lv_iconst hC.1 hC.2.1 dX12_wouldBe_35 ci_0 ?_
      refine lv_istore (lv' := [(6, .int 0), (5, .int 0), (4, .int r3), (0, .ref (mvA V 0)), (1, .int p1), (2, .int p2), (3, .int p3)]) hC.1 hC.2.1 dX12_wouldBe_36 hl (Nat.le_of_ble_eq_true rfl) rfl (fun ls hl => ?_)
      exact hL38 _ _ _ _ _ _ _ _ _ _ _ hf hM (lv_sub hl [3, 4, 5, 6, 2, 1, 0] rfl)
    · have hf := o_t hc8 hf
      refine lv_iconst hC.1 hC.2.1 dX12_wouldBe_19 ci_m1 ?_
      exact hret (o_r1 hf) (o_r2 hf hM) dX12_wouldBe_20
set_option maxHeartbeats 4000000 in
set_option maxRecDepth 100000 in
theorem mcX12_shelf (V : mV) (l : Launch) (M : mM) (p1 : Int32) (p2 : Int32) (p3 : Int32) (r : Int32) (M' : mM) (hf : fX12_shelf M p1 p2 p3 = some (r, M')) : IR V l yX12_shelf cX12_shelf 6 ({ frames := 2, cells := 0, slots := 0, locals := 46 } : Room) [.ref (mvA V 0), .int p1, .int p2, .int p3] M r M' := by
  unfold fX12_shelf at hf
  refine mw_enterI RX12 rfl (by decide +kernel) (Nat.le_of_ble_eq_true rfl) (fun {p e s m args below meth c} ls A Q hC hret hM hl => ?_)
  have hl : lv_has ls 6 [(0, .ref (mvA V 0)), (1, .int p1), (2, .int p2), (3, .int p3)] := hl
  have hL107 : ∀ (M : mM) (x1 : Int32) (x3 : Int32) (x5 : Int32) (t1 : Int32) (t2 : Int32) (H : Heap) (locs : List Loc) (ls : Array Slot), fX12_shelf_L107 M x1 x3 x5 t1 t2 = some (r, M') → PR V M A s H locs → lv_has ls 6 [(0, .ref (mvA V 0)), (1, .int x1), (3, .int x3), (5, .int x5)] → W p l e ({ frames := 2, cells := 0, slots := 0, locals := 46 } : Room) s m args below meth c H locs 0 0 Q (F0 m 107 ls [.int t2, .int t1, .ref (mvA V 14)]) := by
    intro M x1 x3 x5 t1 t2 H locs ls hf hM hl
    unfold fX12_shelf_L107 at hf
    obtain ⟨hg18, hf⟩ := o_g hf
    refine mw_iast hC hM 14 0 (Nat.le_of_ble_eq_true rfl) (eR_14 V) rfl hg18 dX12_shelf_107 (fun H locs hM => ?_)
    refine lv_aload_n hC.1 hC.2.1 dX12_shelf_108 rfl (lv_at hl 0 rfl) ?_
    refine mw_get (v := .ref (mvA V 15)) hC hM 0 (Nat.le_of_ble_eq_true rfl) (eR_0 V) inW12 rfl 27 (by decide) q_1173 (fun _ h9 => h9) rfl dX12_shelf_109 ?_
    refine lv_iload_n hC.1 hC.2.1 dX12_shelf_112 rfl (lv_at hl 1 rfl) ?_
    refine lv_iload hC.1 hC.2.1 dX12_shelf_113 (lv_at hl 3 rfl) ?_
    refine lv_if_eq (tgt := 127) hC.1 hC.2.1 dX12_shelf_115 (by decide) (fun hc22 => ?_) (fun hc22 => ?_)
    · have hf := o_t hc22 hf
      refine lv_iconst hC.1 hC.2.1 dX12_shelf_127 ci_0 ?_
      obtain ⟨hg19, hf⟩ := o_g hf
      refine mw_iast hC hM 15 0 (Nat.le_of_ble_eq_true rfl) (eR_15 V) rfl hg19 dX12_shelf_128 (fun H locs hM => ?_)
      refine lv_iconst hC.1 hC.2.1 dX12_shelf_129 ci_1 ?_
      exact hret (o_r1 hf) (o_r2 hf hM) dX12_shelf_130
    · have hf := o_f hc22 hf
      refine lv_aload_n hC.1 hC.2.1 dX12_shelf_118 rfl (lv_at hl 0 rfl) ?_
      refine mw_get (v := .ref (mvA V 11)) hC hM 0 (Nat.le_of_ble_eq_true rfl) (eR_0 V) inW12 rfl 23 (by decide) q_1169 (fun _ h9 => h9) rfl dX12_shelf_119 ?_
      refine lv_iload_n hC.1 hC.2.1 dX12_shelf_122 rfl (lv_at hl 2 rfl) ?_
      obtain ⟨hg20, hf⟩ := o_g hf
      refine mw_iald hC hM 11 0 (Nat.le_of_ble_eq_true rfl) (eR_11 V) rfl hg20 dX12_shelf_123 ?_
      refine lv_goto (tgt := 128) hC.1 hC.2.1 dX12_shelf_124 (by decide) ?_
      obtain ⟨hg21, hf⟩ := o_g hf
      refine mw_iast hC hM 15 0 (Nat.le_of_ble_eq_true rfl) (eR_15 V) rfl hg21 dX12_shelf_128 (fun H locs hM => ?_)
      refine lv_iconst hC.1 hC.2.1 dX12_shelf_129 ci_1 ?_
      exact hret (o_r1 hf) (o_r2 hf hM) dX12_shelf_130
  have hL86 : ∀ (M : mM) (x1 : Int32) (x3 : Int32) (x5 : Int32) (t1 : Int32) (t2 : Int32) (H : Heap) (locs : List Loc) (ls : Array Slot), fX12_shelf_L86 M x1 x3 x5 t1 t2 = some (r, M') → PR V M A s H locs → lv_has ls 6 [(0, .ref (mvA V 0)), (1, .int x1), (3, .int x3), (5, .int x5)] → W p l e ({ frames := 2, cells := 0, slots := 0, locals := 46 } : Room) s m args below meth c H locs 0 0 Q (F0 m 86 ls [.int t2, .int t1, .ref (mvA V 13)]) := by
    intro M x1 x3 x5 t1 t2 H locs ls hf hM hl
    unfold fX12_shelf_L86 at hf
    obtain ⟨hg15, hf⟩ := o_g hf
    refine mw_iast hC hM 13 0 (Nat.le_of_ble_eq_true rfl) (eR_13 V) rfl hg15 dX12_shelf_86 (fun H locs hM => ?_)
    refine lv_aload_n hC.1 hC.2.1 dX12_shelf_87 rfl (lv_at hl 0 rfl) ?_
    refine mw_get (v := .ref (mvA V 14)) hC hM 0 (Nat.le_of_ble_eq_true rfl) (eR_0 V) inW12 rfl 26 (by decide) q_1172 (fun _ h9 => h9) rfl dX12_shelf_88 ?_
    refine lv_iload_n hC.1 hC.2.1 dX12_shelf_91 rfl (lv_at hl 1 rfl) ?_
    refine lv_iload hC.1 hC.2.1 dX12_shelf_92 (lv_at hl 3 rfl) ?_
    refine lv_if_eq (tgt := 106) hC.1 hC.2.1 dX12_shelf_94 (by decide) (fun hc17 => ?_) (fun hc17 => ?_)
    · have hf := o_t hc17 hf
      refine lv_iload_n hC.1 hC.2.1 dX12_shelf_106 rfl (lv_at hl 2 rfl) ?_
      exact hL107 _ _ _ _ _ _ _ _ _ hf hM (lv_sub hl [0, 1, 2, 3] rfl)
    · have hf := o_f hc17 hf
      refine lv_aload_n hC.1 hC.2.1 dX12_shelf_97 rfl (lv_at hl 0 rfl) ?_
      refine mw_get (v := .ref (mvA V 10)) hC hM 0 (Nat.le_of_ble_eq_true rfl) (eR_0 V) inW12 rfl 22 (by decide) q_1168 (fun _ h9 => h9) rfl dX12_shelf_98 ?_
      refine lv_iload_n hC.1 hC.2.1 dX12_shelf_101 rfl (lv_at hl 2 rfl) ?_
      obtain ⟨hg16, hf⟩ := o_g hf
      refine mw_iald hC hM 10 0 (Nat.le_of_ble_eq_true rfl) (eR_10 V) rfl hg16 dX12_shelf_102 ?_
      refine lv_goto (tgt := 107) hC.1 hC.2.1 dX12_shelf_103 (by decide) ?_
      exact hL107 _ _ _ _ _ _ _ _ _ hf hM (lv_sub hl [0, 1, 2, 3] rfl)
  have hL85 : ∀ (M : mM) (x1 : Int32) (x2 : Int32) (x3 : Int32) (x5 : Int32) (t1 : Int32) (H : Heap) (locs : List Loc) (ls : Array Slot), fX12_shelf_L85 M x1 x2 x3 x5 t1 = some (r, M') → PR V M A s H locs → lv_has ls 6 [(0, .ref (mvA V 0)), (1, .int x1), (2, .int x2), (3, .int x3), (5, .int x5)] → W p l e ({ frames := 2, cells := 0, slots := 0, locals := 46 } : Room) s m args below meth c H locs 0 0 Q (F0 m 85 ls [.int t1, .ref (mvA V 13)]) := by
    intro M x1 x2 x3 x5 t1 H locs ls hf hM hl
    unfold fX12_shelf_L85 at hf
    refine lv_iload_n hC.1 hC.2.1 dX12_shelf_85 rfl (lv_at hl 2 rfl) ?_
    exact hL86 _ _ _ _ _ _ _ _ _ hf hM (lv_sub hl [0, 1, 3, 4] rfl)
  have hL60 : ∀ (M : mM) (x1 : Int32) (x2 : Int32) (x3 : Int32) (t0 : Int32) (H : Heap) (locs : List Loc) (ls : Array Slot), fX12_shelf_L60 M x1 x2 x3 t0 = some (r, M') → PR V M A s H locs → lv_has ls 6 [(0, .ref (mvA V 0)), (1, .int x1), (2, .int x2), (3, .int x3)] → W p l e ({ frames := 2, cells := 0, slots := 0, locals := 46 } : Room) s m args below meth c H locs 0 0 Q (F0 m 60 ls [.int t0]) := by
    intro M x1 x2 x3 t0 H locs ls hf hM hl
    unfold fX12_shelf_L60 at hf
    refine lv_istore (lv' := [(5, .int t0), (0, .ref (mvA V 0)), (1, .int x1), (2, .int x2), (3, .int x3)]) hC.1 hC.2.1 dX12_shelf_60 hl (Nat.le_of_ble_eq_true rfl) rfl (fun ls hl => ?_)
    refine lv_aload_n hC.1 hC.2.1 dX12_shelf_62 rfl (lv_at hl 1 rfl) ?_
    refine mw_get (v := .ref (mvA V 13)) hC hM 0 (Nat.le_of_ble_eq_true rfl) (eR_0 V) inW12 rfl 25 (by decide) q_1171 (fun _ h9 => h9) rfl dX12_shelf_63 ?_
    refine lv_iload_n hC.1 hC.2.1 dX12_shelf_66 rfl (lv_at hl 2 rfl) ?_
    refine lv_iload hC.1 hC.2.1 dX12_shelf_67 (lv_at hl 0 rfl) ?_
    refine lv_if_eq (tgt := 85) hC.1 hC.2.1 dX12_shelf_69 (by decide) (fun hc14 => ?_) (fun hc14 => ?_)
    · have hf := o_t hc14 hf
      exact hL85 _ _ _ _ _ _ _ _ _ hf hM (lv_sub hl [1, 2, 3, 4, 0] rfl)
    · have hf := o_f hc14 hf
      refine lv_aload_n hC.1 hC.2.1 dX12_shelf_72 rfl (lv_at hl 1 rfl) ?_
      refine mw_get (v := .ref (mvA V 10)) hC hM 0 (Nat.le_of_ble_eq_true rfl) (eR_0 V) inW12 rfl 22 (by decide) q_1168 (fun _ h9 => h9) rfl dX12_shelf_73 ?_
      refine lv_iload_n hC.1 hC.2.1 dX12_shelf_76 rfl (lv_at hl 4 rfl) ?_
      obtain ⟨hg12, hf⟩ := o_g hf
      refine mw_iald hC hM 10 0 (Nat.le_of_ble_eq_true rfl) (eR_10 V) rfl hg12 dX12_shelf_77 ?_
      refine lv_if_ge (tgt := 85) hC.1 hC.2.1 dX12_shelf_78 (by decide) (fun hc13 => ?_) (fun hc13 => ?_)
      · have hf := o_t hc13 hf
        exact hL85 _ _ _ _ _ _ _ _ _ hf hM (lv_sub hl [1, 2, 3, 4, 0] rfl)
      · have hf := o_f hc13 hf
        refine lv_iconst hC.1 hC.2.1 dX12_shelf_81 ci_2 ?_
        refine lv_goto (tgt := 86) hC.1 hC.2.1 dX12_shelf_82 (by decide) ?_
        exact hL86 _ _ _ _ _ _ _ _ _ hf hM (lv_sub hl [1, 2, 4, 0] rfl)
  have hL34 : ∀ (M : mM) (x1 : Int32) (x2 : Int32) (x3 : Int32) (t0 : Int32) (H : Heap) (locs : List Loc) (ls : Array Slot), fX12_shelf_L34 M x1 x2 x3 t0 = some (r, M') → PR V M A s H locs → lv_has ls 6 [(0, .ref (mvA V 0)), (1, .int x1), (2, .int x2), (3, .int x3)] → W p l e ({ frames := 2, cells := 0, slots := 0, locals := 46 } : Room) s m args below meth c H locs 0 0 Q (F0 m 34 ls [.int t0]) := by
    intro M x1 x2 x3 t0 H locs ls hf hM hl
    unfold fX12_shelf_L34 at hf
    refine lv_istore (lv' := [(4, .int t0), (0, .ref (mvA V 0)), (1, .int x1), (2, .int x2), (3, .int x3)]) hC.1 hC.2.1 dX12_shelf_34 hl (Nat.le_of_ble_eq_true rfl) rfl (fun ls hl => ?_)
    refine lv_iload_n hC.1 hC.2.1 dX12_shelf_36 rfl (lv_at hl 2 rfl) ?_
    refine mw_cSi (As := [.int x1]) (rest := []) hC hM (mcX12_isFour V l M x1 _ rfl) (mw_kS hC q_1669 q_1670 q_120 q_1671 ⟨rfl, rfl⟩ kS_X12_isFour ⟨Nat.le_of_ble_eq_true rfl, Nat.le_of_ble_eq_true rfl⟩) rfl rfl (Nat.le_of_ble_eq_true rfl) hl.1 dX12_shelf_37 (fun H locs hM hb8 => ?_)
    refine lv_if_eq (tgt := 48) hC.1 hC.2.1 dX12_shelf_40 (by decide) (fun hc11 => ?_) (fun hc11 => ?_)
    · have hf := o_t hc11 hf
      refine lv_iconst hC.1 hC.2.1 dX12_shelf_48 ci_m1 ?_
      exact hret (o_r1 hf) (o_r2 hf hM) dX12_shelf_49
    · have hf := o_f hc11 hf
      refine lv_iload hC.1 hC.2.1 dX12_shelf_43 (lv_at hl 0 rfl) ?_
      refine lv_if_ne (tgt := 50) hC.1 hC.2.1 dX12_shelf_45 (by decide) (fun hc10 => ?_) (fun hc10 => ?_)
      · have hf := o_f hc10 hf
        refine lv_iload_n hC.1 hC.2.1 dX12_shelf_50 rfl (lv_at hl 3 rfl) ?_
        refine lv_iconst hC.1 hC.2.1 dX12_shelf_51 ci_1 ?_
        refine lv_icmp_ne (tgt := 59) hC.1 hC.2.1 dX12_shelf_52 (by decide) (fun hc9 => ?_) (fun hc9 => ?_)
        · have hf := o_f hc9 hf
          refine lv_iconst hC.1 hC.2.1 dX12_shelf_59 ci_0 ?_
          exact hL60 _ _ _ _ _ _ _ _ hf hM (lv_sub hl [1, 2, 3, 4] rfl)
        · have hf := o_t hc9 hf
          refine lv_iconst hC.1 hC.2.1 dX12_shelf_55 ci_1 ?_
          refine lv_goto (tgt := 60) hC.1 hC.2.1 dX12_shelf_56 (by decide) ?_
          exact hL60 _ _ _ _ _ _ _ _ hf hM (lv_sub hl [1, 2, 3, 4] rfl)
      · have hf := o_t hc10 hf
        refine lv_iconst hC.1 hC.2.1 dX12_shelf_48 ci_m1 ?_
        exact hret (o_r1 hf) (o_r2 hf hM) dX12_shelf_49
  refine lv_iload_n hC.1 hC.2.1 dX12_shelf_0 rfl (lv_at hl 2 rfl) ?_
  refine lv_if_ne (tgt := 12) hC.1 hC.2.1 dX12_shelf_1 (by decide) (fun hc7 => ?_) (fun hc7 => ?_)
  · have hf := o_f hc7 hf
    refine lv_iload_n hC.1 hC.2.1 dX12_shelf_12 rfl (lv_at hl 2 rfl) ?_
    refine lv_iconst hC.1 hC.2.1 dX12_shelf_13 ci_1 ?_
    refine lv_icmp_ne (tgt := 24) hC.1 hC.2.1 dX12_shelf_14 (by decide) (fun hc3 => ?_) (fun hc3 => ?_)
    · have hf := o_f hc3 hf
      refine lv_iload_n hC.1 hC.2.1 dX12_shelf_24 rfl (lv_at hl 2 rfl) ?_
      refine lv_iconst hC.1 hC.2.1 dX12_shelf_25 ci_2 ?_
      refine lv_icmp_ne (tgt := 33) hC.1 hC.2.1 dX12_shelf_26 (by decide) (fun hc1 => ?_) (fun hc1 => ?_)
      · have hf := o_f hc1 hf
        refine lv_iconst hC.1 hC.2.1 dX12_shelf_33 ci_0 ?_
        exact hL34 _ _ _ _ _ _ _ _ hf hM (lv_sub hl [0, 1, 2, 3] rfl)
      · have hf := o_t hc1 hf
        refine lv_iconst hC.1 hC.2.1 dX12_shelf_29 ci_1 ?_
        refine lv_goto (tgt := 34) hC.1 hC.2.1 dX12_shelf_30 (by decide) ?_
        exact hL34 _ _ _ _ _ _ _ _ hf hM (lv_sub hl [0, 1, 2, 3] rfl)
    · have hf := o_t hc3 hf
      refine lv_iload_n hC.1 hC.2.1 dX12_shelf_17 rfl (lv_at hl 3 rfl) ?_
      refine mw_cSi (As := [.int p3]) (rest := []) hC hM (mcX12_isFour V l M p3 _ rfl) (mw_kS hC q_1669 q_1670 q_120 q_1671 ⟨rfl, rfl⟩ kS_X12_isFour ⟨Nat.le_of_ble_eq_true rfl, Nat.le_of_ble_eq_true rfl⟩) rfl rfl (Nat.le_of_ble_eq_true rfl) hl.1 dX12_shelf_18 (fun H locs hM hb2 => ?_)
      refine lv_goto (tgt := 34) hC.1 hC.2.1 dX12_shelf_21 (by decide) ?_
      exact hL34 _ _ _ _ _ _ _ _ hf hM (lv_sub hl [0, 1, 2, 3] rfl)
  · have hf := o_t hc7 hf
    refine lv_aload_n hC.1 hC.2.1 dX12_shelf_4 rfl (lv_at hl 0 rfl) ?_
    refine lv_iload_n hC.1 hC.2.1 dX12_shelf_5 rfl (lv_at hl 3 rfl) ?_
    obtain ⟨r4, hq5, hf⟩ := o_b hf
    refine mw_cVi (As := [.int p3]) (rest := []) hC hM (mcX12_isVoter V l M p3 r4 hq5) (mw_kV hC q_1277 q_1279 q_45 q_120 q_1280 ⟨rfl, rfl⟩ kV_X12_isVoter ⟨Nat.le_of_ble_eq_true rfl, Nat.le_of_ble_eq_true rfl⟩) (Nat.le_of_ble_eq_true rfl) (eR_0 V) rfl rfl rfl (Nat.le_of_ble_eq_true rfl) hl.1 dX12_shelf_6 (fun H locs hM hb6 => ?_)
    refine lv_goto (tgt := 34) hC.1 hC.2.1 dX12_shelf_9 (by decide) ?_
    exact hL34 _ _ _ _ _ _ _ _ hf hM (lv_sub hl [0, 1, 2, 3] rfl)
set_option maxHeartbeats 4000000 in
set_option maxRecDepth 100000 in
theorem mcX12_isHeld (V : mV) (l : Launch) (M : mM) (p1 : Int32) (r : Int32) (hf : fX12_isHeld M p1 = some r) : ZR V l yX12_isHeld cX12_isHeld 2 ({ frames := 2, cells := 0, slots := 0, locals := 46 } : Room) [.ref (mvA V 0), .int p1] M r M := by
  unfold fX12_isHeld at hf
  refine mw_enterZ RX12 rfl (by decide +kernel) (Nat.le_of_ble_eq_true rfl) (fun {p e s m args below meth c} ls A Q hC hret hM hl => ?_)
  have hl : lv_has ls 2 [(0, .ref (mvA V 0)), (1, .int p1)] := hl
  refine lv_aload_n hC.1 hC.2.1 dX12_isHeld_0 rfl (lv_at hl 0 rfl) ?_
  refine mw_get (v := .ref (mvA V 13)) hC hM 0 (Nat.le_of_ble_eq_true rfl) (eR_0 V) inW12 rfl 25 (by decide) q_1171 (fun _ h9 => h9) rfl dX12_isHeld_1 ?_
  refine lv_iload_n hC.1 hC.2.1 dX12_isHeld_4 rfl (lv_at hl 1 rfl) ?_
  obtain ⟨hg1, hf⟩ := o_g hf
  refine mw_iald hC hM 13 0 (Nat.le_of_ble_eq_true rfl) (eR_13 V) rfl hg1 dX12_isHeld_5 ?_
  refine lv_if_ne (tgt := 26) hC.1 hC.2.1 dX12_isHeld_6 (by decide) (fun hc7 => ?_) (fun hc7 => ?_)
  · have hf := o_f hc7 hf
    refine lv_iconst hC.1 hC.2.1 dX12_isHeld_26 ci_0 ?_
    exact hret (Option.some.inj hf) (Or.inl rfl) hM dX12_isHeld_27
  · have hf := o_t hc7 hf
    refine lv_aload_n hC.1 hC.2.1 dX12_isHeld_9 rfl (lv_at hl 0 rfl) ?_
    refine lv_aload_n hC.1 hC.2.1 dX12_isHeld_10 rfl (lv_at hl 0 rfl) ?_
    refine mw_get (v := .ref (mvA V 14)) hC hM 0 (Nat.le_of_ble_eq_true rfl) (eR_0 V) inW12 rfl 26 (by decide) q_1172 (fun _ h9 => h9) rfl dX12_isHeld_11 ?_
    refine lv_iload_n hC.1 hC.2.1 dX12_isHeld_14 rfl (lv_at hl 1 rfl) ?_
    obtain ⟨hg2, hf⟩ := o_g hf
    refine mw_iald hC hM 14 0 (Nat.le_of_ble_eq_true rfl) (eR_14 V) rfl hg2 dX12_isHeld_15 ?_
    obtain ⟨r3, hq4, hf⟩ := o_b hf
    refine mw_cVi (As := [.int (M 14 (Int32.toNatClampNeg p1))]) (rest := []) hC hM (mcX12_isVoter V l M (M 14 (Int32.toNatClampNeg p1)) r3 hq4) (mw_kV hC q_1277 q_1279 q_45 q_120 q_1280 ⟨rfl, rfl⟩ kV_X12_isVoter ⟨Nat.le_of_ble_eq_true rfl, Nat.le_of_ble_eq_true rfl⟩) (Nat.le_of_ble_eq_true rfl) (eR_0 V) rfl rfl rfl (Nat.le_of_ble_eq_true rfl) hl.1 dX12_isHeld_16 (fun H locs hM hb5 => ?_)
    refine lv_if_eq (tgt := 26) hC.1 hC.2.1 dX12_isHeld_19 (by decide) (fun hc6 => ?_) (fun hc6 => ?_)
    · have hf := o_t hc6 hf
      refine lv_iconst hC.1 hC.2.1 dX12_isHeld_26 ci_0 ?_
      exact hret (Option.some.inj hf) (Or.inl rfl) hM dX12_isHeld_27
    · have hf := o_f hc6 hf
      refine lv_iconst hC.1 hC.2.1 dX12_isHeld_22 ci_1 ?_
      refine lv_goto (tgt := 27) hC.1 hC.2.1 dX12_isHeld_23 (by decide) ?_
      exact hret (Option.some.inj hf) (Or.inr rfl) hM dX12_isHeld_27
set_option maxHeartbeats 4000000 in
set_option maxRecDepth 100000 in
theorem mcX12_taken (V : mV) (l : Launch) (M : mM) (p1 : Int32) (p2 : Int32) (r : Int32) (hf : fX12_taken M p1 p2 = some r) : IR V l yX12_taken cX12_taken 3 ({ frames := 3, cells := 0, slots := 0, locals := 67 } : Room) [.ref (mvA V 0), .int p1, .int p2] M r M := by
  unfold fX12_taken at hf
  refine mw_enterI RX12 rfl (by decide +kernel) (Nat.le_of_ble_eq_true rfl) (fun {p e s m args below meth c} ls A Q hC hret hM hl => ?_)
  have hl : lv_has ls 3 [(0, .ref (mvA V 0)), (1, .int p1), (2, .int p2)] := hl
  have hL35 : ∀ (x1 : Int32) (x2 : Int32) (H : Heap) (locs : List Loc) (ls : Array Slot), fX12_taken_L35 M x1 x2 = some r → PR V M A s H locs → lv_has ls 3 [(0, .ref (mvA V 0)), (1, .int x1), (2, .int x2)] → W p l e ({ frames := 3, cells := 0, slots := 0, locals := 67 } : Room) s m args below meth c H locs 0 0 Q (F0 m 35 ls []) := by
    intro x1 x2 H locs ls hf hM hl
    unfold fX12_taken_L35 at hf
    refine lv_aload_n hC.1 hC.2.1 dX12_taken_35 rfl (lv_at hl 0 rfl) ?_
    refine mw_get (v := .ref (mvA V 13)) hC hM 0 (Nat.le_of_ble_eq_true rfl) (eR_0 V) inW12 rfl 25 (by decide) q_1171 (fun _ h9 => h9) rfl dX12_taken_36 ?_
    refine lv_iload_n hC.1 hC.2.1 dX12_taken_39 rfl (lv_at hl 1 rfl) ?_
    obtain ⟨hg7, hf⟩ := o_g hf
    refine mw_iald hC hM 13 0 (Nat.le_of_ble_eq_true rfl) (eR_13 V) rfl hg7 dX12_taken_40 ?_
    refine lv_iconst hC.1 hC.2.1 dX12_taken_41 ci_1 ?_
    refine lv_icmp_ne (tgt := 70) hC.1 hC.2.1 dX12_taken_42 (by decide) (fun hc22 => ?_) (fun hc22 => ?_)
    · have hf := o_f hc22 hf
      refine lv_aload_n hC.1 hC.2.1 dX12_taken_70 rfl (lv_at hl 0 rfl) ?_
      refine lv_iload_n hC.1 hC.2.1 dX12_taken_71 rfl (lv_at hl 1 rfl) ?_
      obtain ⟨r8, hq9, hf⟩ := o_b hf
      refine mw_cVi (As := [.int x1]) (rest := []) hC hM (mcX12_isHeld V l M x1 r8 hq9) (mw_kV hC q_1711 q_1713 q_96 q_120 q_1714 ⟨rfl, rfl⟩ kV_X12_isHeld ⟨Nat.le_of_ble_eq_true rfl, Nat.le_of_ble_eq_true rfl⟩) (Nat.le_of_ble_eq_true rfl) (eR_0 V) rfl rfl rfl (Nat.le_of_ble_eq_true rfl) hl.1 dX12_taken_72 (fun H locs hM hb10 => ?_)
      refine lv_if_ne (tgt := 81) hC.1 hC.2.1 dX12_taken_75 (by decide) (fun hc18 => ?_) (fun hc18 => ?_)
      · have hf := o_f hc18 hf
        refine lv_iload_n hC.1 hC.2.1 dX12_taken_81 rfl (lv_at hl 2 rfl) ?_
        refine lv_bipush hC.1 hC.2.1 dX12_taken_82 cb_10 ?_
        refine lv_icmp_ge (tgt := 114) hC.1 hC.2.1 dX12_taken_84 (by decide) (fun hc17 => ?_) (fun hc17 => ?_)
        · have hf := o_t hc17 hf
          refine lv_bipush hC.1 hC.2.1 dX12_taken_114 cb_m13 ?_
          exact hret (Option.some.inj hf) hM dX12_taken_116
        · have hf := o_f hc17 hf
          refine lv_aload_n hC.1 hC.2.1 dX12_taken_87 rfl (lv_at hl 0 rfl) ?_
          refine lv_aload_n hC.1 hC.2.1 dX12_taken_88 rfl (lv_at hl 0 rfl) ?_
          refine mw_get (v := .ref (mvA V 14)) hC hM 0 (Nat.le_of_ble_eq_true rfl) (eR_0 V) inW12 rfl 26 (by decide) q_1172 (fun _ h9 => h9) rfl dX12_taken_89 ?_
          refine lv_iload_n hC.1 hC.2.1 dX12_taken_92 rfl (lv_at hl 1 rfl) ?_
          obtain ⟨hg11, hf⟩ := o_g hf
          refine mw_iald hC hM 14 0 (Nat.le_of_ble_eq_true rfl) (eR_14 V) rfl hg11 dX12_taken_93 ?_
          refine lv_iconst hC.1 hC.2.1 dX12_taken_94 ci_0 ?_
          obtain ⟨r12, hq13, hf⟩ := o_b hf
          refine mw_cVi (As := [.int (M 14 (Int32.toNatClampNeg x1)), .int 0]) (rest := []) hC hM (mcX12_its V l M (M 14 (Int32.toNatClampNeg x1)) 0 r12 hq13) (mw_kV hC q_1282 q_1284 q_46 q_120 q_1285 ⟨rfl, rfl⟩ kV_X12_its ⟨Nat.le_of_ble_eq_true rfl, Nat.le_of_ble_eq_true rfl⟩) (Nat.le_of_ble_eq_true rfl) (eR_0 V) rfl rfl rfl (Nat.le_of_ble_eq_true rfl) hl.1 dX12_taken_95 (fun H locs hM _ => ?_)
          refine lv_iload_n hC.1 hC.2.1 dX12_taken_98 rfl (lv_at hl 2 rfl) ?_
          refine mw_cSi (As := [.int r12, .int x2]) (rest := []) hC hM (mcX12_isUnder V l M r12 x2 _ rfl) (mw_kS hC q_1301 q_1302 q_120 q_1303 ⟨rfl, rfl⟩ kS_X12_isUnder ⟨Nat.le_of_ble_eq_true rfl, Nat.le_of_ble_eq_true rfl⟩) rfl rfl (Nat.le_of_ble_eq_true rfl) hl.1 dX12_taken_99 (fun H locs hM hb14 => ?_)
          refine lv_if_eq (tgt := 114) hC.1 hC.2.1 dX12_taken_102 (by decide) (fun hc16 => ?_) (fun hc16 => ?_)
          · have hf := o_t hc16 hf
            refine lv_bipush hC.1 hC.2.1 dX12_taken_114 cb_m13 ?_
            exact hret (Option.some.inj hf) hM dX12_taken_116
          · have hf := o_f hc16 hf
            refine lv_aload_n hC.1 hC.2.1 dX12_taken_105 rfl (lv_at hl 0 rfl) ?_
            refine mw_get (v := .ref (mvA V 14)) hC hM 0 (Nat.le_of_ble_eq_true rfl) (eR_0 V) inW12 rfl 26 (by decide) q_1172 (fun _ h9 => h9) rfl dX12_taken_106 ?_
            refine lv_iload_n hC.1 hC.2.1 dX12_taken_109 rfl (lv_at hl 1 rfl) ?_
            obtain ⟨hg15, hf⟩ := o_g hf
            refine mw_iald hC hM 14 0 (Nat.le_of_ble_eq_true rfl) (eR_14 V) rfl hg15 dX12_taken_110 ?_
            refine lv_goto (tgt := 116) hC.1 hC.2.1 dX12_taken_111 (by decide) ?_
            exact hret (Option.some.inj hf) hM dX12_taken_116
      · have hf := o_t hc18 hf
        refine lv_bipush hC.1 hC.2.1 dX12_taken_78 cb_m11 ?_
        exact hret (Option.some.inj hf) hM dX12_taken_80
    · have hf := o_t hc22 hf
      refine lv_iload_n hC.1 hC.2.1 dX12_taken_45 rfl (lv_at hl 2 rfl) ?_
      refine lv_bipush hC.1 hC.2.1 dX12_taken_46 cb_10 ?_
      refine lv_isub hC.1 hC.2.1 dX12_taken_48 ?_
      refine lv_aload_n hC.1 hC.2.1 dX12_taken_49 rfl (lv_at hl 0 rfl) ?_
      refine mw_get (v := .ref (mvA V 14)) hC hM 0 (Nat.le_of_ble_eq_true rfl) (eR_0 V) inW12 rfl 26 (by decide) q_1172 (fun _ h9 => h9) rfl dX12_taken_50 ?_
      refine lv_iload_n hC.1 hC.2.1 dX12_taken_53 rfl (lv_at hl 1 rfl) ?_
      obtain ⟨hg19, hf⟩ := o_g hf
      refine mw_iald hC hM 14 0 (Nat.le_of_ble_eq_true rfl) (eR_14 V) rfl hg19 dX12_taken_54 ?_
      refine lv_icmp_ne (tgt := 67) hC.1 hC.2.1 dX12_taken_55 (by decide) (fun hc21 => ?_) (fun hc21 => ?_)
      · have hf := o_f hc21 hf
        refine lv_bipush hC.1 hC.2.1 dX12_taken_67 cb_m13 ?_
        exact hret (Option.some.inj hf) hM dX12_taken_69
      · have hf := o_t hc21 hf
        refine lv_aload_n hC.1 hC.2.1 dX12_taken_58 rfl (lv_at hl 0 rfl) ?_
        refine mw_get (v := .ref (mvA V 15)) hC hM 0 (Nat.le_of_ble_eq_true rfl) (eR_0 V) inW12 rfl 27 (by decide) q_1173 (fun _ h9 => h9) rfl dX12_taken_59 ?_
        refine lv_iload_n hC.1 hC.2.1 dX12_taken_62 rfl (lv_at hl 1 rfl) ?_
        obtain ⟨hg20, hf⟩ := o_g hf
        refine mw_iald hC hM 15 0 (Nat.le_of_ble_eq_true rfl) (eR_15 V) rfl hg20 dX12_taken_63 ?_
        refine lv_goto (tgt := 69) hC.1 hC.2.1 dX12_taken_64 (by decide) ?_
        exact hret (Option.some.inj hf) hM dX12_taken_69
  refine lv_iload_n hC.1 hC.2.1 dX12_taken_0 rfl (lv_at hl 1 rfl) ?_
  refine mw_cSi (As := [.int p1]) (rest := []) hC hM (mcX12_isFour V l M p1 _ rfl) (mw_kS hC q_1669 q_1670 q_120 q_1671 ⟨rfl, rfl⟩ kS_X12_isFour ⟨Nat.le_of_ble_eq_true rfl, Nat.le_of_ble_eq_true rfl⟩) rfl rfl (Nat.le_of_ble_eq_true rfl) hl.1 dX12_taken_1 (fun H locs hM hb1 => ?_)
  refine lv_if_eq (tgt := 33) hC.1 hC.2.1 dX12_taken_4 (by decide) (fun hc6 => ?_) (fun hc6 => ?_)
  · have hf := o_t hc6 hf
    refine lv_iconst hC.1 hC.2.1 dX12_taken_33 ci_m1 ?_
    exact hret (Option.some.inj hf) hM dX12_taken_34
  · have hf := o_f hc6 hf
    refine lv_iload_n hC.1 hC.2.1 dX12_taken_7 rfl (lv_at hl 2 rfl) ?_
    refine lv_i2l (v := (Int32.toInt64 p2)) hC.1 hC.2.1 dX12_taken_8 rfl ?_
    refine lv_lconst (v := 0) hC.1 hC.2.1 dX12_taken_9 rfl ?_
    refine lv_ldc2 hC.1 hC.2.1 hC.2.2.2.1 (mw_w hC q_1256) dX12_taken_10 ?_
    refine mw_cSi (As := [.long (Int32.toInt64 p2), .long 0, .long 5]) (rest := []) hC hM (mcX12_in V l M (Int32.toInt64 p2) 0 5 _ rfl) (mw_kS hC q_1257 q_1258 q_120 q_1259 ⟨rfl, rfl⟩ kS_X12_in ⟨Nat.le_of_ble_eq_true rfl, Nat.le_of_ble_eq_true rfl⟩) rfl rfl (Nat.le_of_ble_eq_true rfl) hl.1 dX12_taken_13 (fun H locs hM hb2 => ?_)
    refine lv_if_ne (tgt := 35) hC.1 hC.2.1 dX12_taken_16 (by decide) (fun hc5 => ?_) (fun hc5 => ?_)
    · have hf := o_f hc5 hf
      exact hL35 _ _ _ _ _ hf hM (lv_sub hl [0, 1, 2] rfl)
    · have hf := o_t hc5 hf
      refine lv_iload_n hC.1 hC.2.1 dX12_taken_19 rfl (lv_at hl 2 rfl) ?_
      refine lv_i2l (v := (Int32.toInt64 p2)) hC.1 hC.2.1 dX12_taken_20 rfl ?_
      refine lv_ldc2 hC.1 hC.2.1 hC.2.2.2.1 (mw_w hC q_1709) dX12_taken_21 ?_
      refine lv_ldc2 hC.1 hC.2.1 hC.2.2.2.1 (mw_w hC q_1710) dX12_taken_24 ?_
      refine mw_cSi (As := [.long (Int32.toInt64 p2), .long 10, .long 14]) (rest := []) hC hM (mcX12_in V l M (Int32.toInt64 p2) 10 14 _ rfl) (mw_kS hC q_1257 q_1258 q_120 q_1259 ⟨rfl, rfl⟩ kS_X12_in ⟨Nat.le_of_ble_eq_true rfl, Nat.le_of_ble_eq_true rfl⟩) rfl rfl (Nat.le_of_ble_eq_true rfl) hl.1 dX12_taken_27 (fun H locs hM hb3 => ?_)
      refine lv_if_ne (tgt := 35) hC.1 hC.2.1 dX12_taken_30 (by decide) (fun hc4 => ?_) (fun hc4 => ?_)
      · have hf := o_f hc4 hf
        exact hL35 _ _ _ _ _ hf hM (lv_sub hl [0, 1, 2] rfl)
      · have hf := o_t hc4 hf
        refine lv_iconst hC.1 hC.2.1 dX12_taken_33 ci_m1 ?_
        exact hret (Option.some.inj hf) hM dX12_taken_34
set_option maxHeartbeats 4000000 in
set_option maxRecDepth 100000 in
theorem mcX12_runs (V : mV) (l : Launch) (M : mM) (p1 : Int32) (r : Int32) (M' : mM) (hf : fX12_runs M p1 = some (r, M')) : UR V l yX12_runs cX12_runs 2 ({ frames := 0, cells := 0, slots := 0, locals := 0 } : Room) [.ref (mvA V 0), .int p1] M M' := by
  unfold fX12_runs at hf
  refine mw_enterV RX12 rfl (by decide +kernel) (Nat.le_of_ble_eq_true rfl) (fun {p e s m args below meth c} ls A Q hC hret hM hl => ?_)
  have hl : lv_has ls 2 [(0, .ref (mvA V 0)), (1, .int p1)] := hl
  refine lv_aload_n hC.1 hC.2.1 dX12_runs_0 rfl (lv_at hl 0 rfl) ?_
  refine mw_get (v := .int (M 0 29)) hC hM 0 (Nat.le_of_ble_eq_true rfl) (eR_0 V) inW12 rfl 29 (by decide) q_1175 (fun _ h9 => h9) rfl dX12_runs_1 ?_
  refine lv_bipush hC.1 hC.2.1 dX12_runs_4 cb_30 ?_
  refine lv_icmp_ge (tgt := 29) hC.1 hC.2.1 dX12_runs_6 (by decide) (fun hc2 => ?_) (fun hc2 => ?_)
  · have hf := o_t hc2 hf
    exact hret (o_r2 hf hM) dX12_runs_29
  · have hf := o_f hc2 hf
    refine lv_aload_n hC.1 hC.2.1 dX12_runs_9 rfl (lv_at hl 0 rfl) ?_
    refine mw_get (v := .ref (mvA V 16)) hC hM 0 (Nat.le_of_ble_eq_true rfl) (eR_0 V) inW12 rfl 28 (by decide) q_1174 (fun _ h9 => h9) rfl dX12_runs_10 ?_
    refine lv_aload_n hC.1 hC.2.1 dX12_runs_13 rfl (lv_at hl 0 rfl) ?_
    refine mw_get (v := .int (M 0 29)) hC hM 0 (Nat.le_of_ble_eq_true rfl) (eR_0 V) inW12 rfl 29 (by decide) q_1175 (fun _ h9 => h9) rfl dX12_runs_14 ?_
    refine lv_iload_n hC.1 hC.2.1 dX12_runs_17 rfl (lv_at hl 1 rfl) ?_
    obtain ⟨hg1, hf⟩ := o_g hf
    refine mw_iast hC hM 16 0 (Nat.le_of_ble_eq_true rfl) (eR_16 V) rfl hg1 dX12_runs_18 (fun H locs hM => ?_)
    refine lv_aload_n hC.1 hC.2.1 dX12_runs_19 rfl (lv_at hl 0 rfl) ?_
    refine lv_dup hC.1 hC.2.1 dX12_runs_20 rfl ?_
    refine mw_get (v := .int ((wr M 16 (Int32.toNatClampNeg (M 0 29)) p1) 0 29)) hC hM 0 (Nat.le_of_ble_eq_true rfl) (eR_0 V) inW12 rfl 29 (by decide) q_1175 (fun _ h9 => h9) rfl dX12_runs_21 ?_
    refine lv_iconst hC.1 hC.2.1 dX12_runs_24 ci_1 ?_
    refine lv_iadd hC.1 hC.2.1 dX12_runs_25 ?_
    refine mw_put hC hM 0 (Nat.le_of_ble_eq_true rfl) (eR_0 V) inW12 tyX12 tyX12_ok nmX12 rfl 29 (by decide) q_1175 (fun _ h9 => h9) rfl rfl rfl (Nat.le_of_ble_eq_true rfl) rfl dX12_runs_26 (fun H locs hM => ?_)
    exact hret (o_r2 hf hM) dX12_runs_29
set_option maxHeartbeats 4000000 in
set_option maxRecDepth 100000 in
theorem mcX12_wishes (V : mV) (l : Launch) (M : mM) (p1 : Int32) (r : Int32) (M' : mM) (hf : fX12_wishes M p1 = some (r, M')) : IR V l yX12_wishes cX12_wishes 2 ({ frames := 1, cells := 0, slots := 0, locals := 21 } : Room) [.ref (mvA V 0), .int p1] M r M' := by
  unfold fX12_wishes at hf
  refine mw_enterI RX12 rfl (by decide +kernel) (Nat.le_of_ble_eq_true rfl) (fun {p e s m args below meth c} ls A Q hC hret hM hl => ?_)
  have hl : lv_has ls 2 [(0, .ref (mvA V 0)), (1, .int p1)] := hl
  refine lv_aload_n hC.1 hC.2.1 dX12_wishes_0 rfl (lv_at hl 0 rfl) ?_
  refine mw_get (v := .int (M 0 30)) hC hM 0 (Nat.le_of_ble_eq_true rfl) (eR_0 V) inW12 rfl 30 (by decide) q_1176 (fun _ h9 => h9) rfl dX12_wishes_1 ?_
  refine lv_iconst hC.1 hC.2.1 dX12_wishes_4 ci_1 ?_
  refine lv_icmp_ne (tgt := 29) hC.1 hC.2.1 dX12_wishes_5 (by decide) (fun hc17 => ?_) (fun hc17 => ?_)
  · have hf := o_f hc17 hf
    refine lv_aload_n hC.1 hC.2.1 dX12_wishes_29 rfl (lv_at hl 0 rfl) ?_
    refine mw_get (v := .int (M 0 30)) hC hM 0 (Nat.le_of_ble_eq_true rfl) (eR_0 V) inW12 rfl 30 (by decide) q_1176 (fun _ h9 => h9) rfl dX12_wishes_30 ?_
    refine lv_iconst hC.1 hC.2.1 dX12_wishes_33 ci_3 ?_
    refine lv_icmp_ne (tgt := 58) hC.1 hC.2.1 dX12_wishes_34 (by decide) (fun hc10 => ?_) (fun hc10 => ?_)
    · have hf := o_f hc10 hf
      refine lv_aload_n hC.1 hC.2.1 dX12_wishes_58 rfl (lv_at hl 0 rfl) ?_
      refine lv_bipush hC.1 hC.2.1 dX12_wishes_59 cb_10 ?_
      obtain ⟨r1, M3, hq2, hf⟩ := o_b2 hf
      refine mw_cVv (As := [.int 10]) (rest := []) hC hM (mcX12_runs V l M 10 r1 M3 hq2) (mw_kV hC q_1723 q_1725 q_98 q_120 q_1726 ⟨rfl, rfl⟩ kV_X12_runs ⟨Nat.le_of_ble_eq_true rfl, Nat.le_of_ble_eq_true rfl⟩) (Nat.le_of_ble_eq_true rfl) (eR_0 V) rfl rfl rfl (Nat.le_of_ble_eq_true rfl) hl.1 dX12_wishes_61 (fun H locs hM => ?_)
      refine lv_iload_n hC.1 hC.2.1 dX12_wishes_64 rfl (lv_at hl 1 rfl) ?_
      refine lv_aload_n hC.1 hC.2.1 dX12_wishes_65 rfl (lv_at hl 0 rfl) ?_
      refine mw_get (v := .int (M3 0 32)) hC hM 0 (Nat.le_of_ble_eq_true rfl) (eR_0 V) inW12 rfl 32 (by decide) q_1178 (fun _ h9 => h9) rfl dX12_wishes_66 ?_
      refine lv_iadd hC.1 hC.2.1 dX12_wishes_69 ?_
      exact hret (o_r1 hf) (o_r2 hf hM) dX12_wishes_70
    · have hf := o_t hc10 hf
      refine lv_aload_n hC.1 hC.2.1 dX12_wishes_37 rfl (lv_at hl 0 rfl) ?_
      refine lv_bipush hC.1 hC.2.1 dX12_wishes_38 cb_50 ?_
      obtain ⟨r4, M6, hq5, hf⟩ := o_b2 hf
      refine mw_cVv (As := [.int 50]) (rest := []) hC hM (mcX12_runs V l M 50 r4 M6 hq5) (mw_kV hC q_1723 q_1725 q_98 q_120 q_1726 ⟨rfl, rfl⟩ kV_X12_runs ⟨Nat.le_of_ble_eq_true rfl, Nat.le_of_ble_eq_true rfl⟩) (Nat.le_of_ble_eq_true rfl) (eR_0 V) rfl rfl rfl (Nat.le_of_ble_eq_true rfl) hl.1 dX12_wishes_40 (fun H locs hM => ?_)
      refine lv_aload_n hC.1 hC.2.1 dX12_wishes_43 rfl (lv_at hl 0 rfl) ?_
      refine lv_bipush hC.1 hC.2.1 dX12_wishes_44 cb_10 ?_
      obtain ⟨r7, M9, hq8, hf⟩ := o_b2 hf
      refine mw_cVv (As := [.int 10]) (rest := []) hC hM (mcX12_runs V l M6 10 r7 M9 hq8) (mw_kV hC q_1723 q_1725 q_98 q_120 q_1726 ⟨rfl, rfl⟩ kV_X12_runs ⟨Nat.le_of_ble_eq_true rfl, Nat.le_of_ble_eq_true rfl⟩) (Nat.le_of_ble_eq_true rfl) (eR_0 V) rfl rfl rfl (Nat.le_of_ble_eq_true rfl) hl.1 dX12_wishes_46 (fun H locs hM => ?_)
      refine lv_iload_n hC.1 hC.2.1 dX12_wishes_49 rfl (lv_at hl 1 rfl) ?_
      refine lv_aload_n hC.1 hC.2.1 dX12_wishes_50 rfl (lv_at hl 0 rfl) ?_
      refine mw_get (v := .int (M9 0 32)) hC hM 0 (Nat.le_of_ble_eq_true rfl) (eR_0 V) inW12 rfl 32 (by decide) q_1178 (fun _ h9 => h9) rfl dX12_wishes_51 ?_
      refine lv_iadd hC.1 hC.2.1 dX12_wishes_54 ?_
      refine lv_iconst hC.1 hC.2.1 dX12_wishes_55 ci_1 ?_
      refine lv_isub hC.1 hC.2.1 dX12_wishes_56 ?_
      exact hret (o_r1 hf) (o_r2 hf hM) dX12_wishes_57
  · have hf := o_t hc17 hf
    refine lv_aload_n hC.1 hC.2.1 dX12_wishes_8 rfl (lv_at hl 0 rfl) ?_
    refine lv_bipush hC.1 hC.2.1 dX12_wishes_9 cb_20 ?_
    obtain ⟨r11, M13, hq12, hf⟩ := o_b2 hf
    refine mw_cVv (As := [.int 20]) (rest := []) hC hM (mcX12_runs V l M 20 r11 M13 hq12) (mw_kV hC q_1723 q_1725 q_98 q_120 q_1726 ⟨rfl, rfl⟩ kV_X12_runs ⟨Nat.le_of_ble_eq_true rfl, Nat.le_of_ble_eq_true rfl⟩) (Nat.le_of_ble_eq_true rfl) (eR_0 V) rfl rfl rfl (Nat.le_of_ble_eq_true rfl) hl.1 dX12_wishes_11 (fun H locs hM => ?_)
    refine lv_aload_n hC.1 hC.2.1 dX12_wishes_14 rfl (lv_at hl 0 rfl) ?_
    refine lv_bipush hC.1 hC.2.1 dX12_wishes_15 cb_10 ?_
    obtain ⟨r14, M16, hq15, hf⟩ := o_b2 hf
    refine mw_cVv (As := [.int 10]) (rest := []) hC hM (mcX12_runs V l M13 10 r14 M16 hq15) (mw_kV hC q_1723 q_1725 q_98 q_120 q_1726 ⟨rfl, rfl⟩ kV_X12_runs ⟨Nat.le_of_ble_eq_true rfl, Nat.le_of_ble_eq_true rfl⟩) (Nat.le_of_ble_eq_true rfl) (eR_0 V) rfl rfl rfl (Nat.le_of_ble_eq_true rfl) hl.1 dX12_wishes_17 (fun H locs hM => ?_)
    refine lv_iconst hC.1 hC.2.1 dX12_wishes_20 ci_2 ?_
    refine lv_iload_n hC.1 hC.2.1 dX12_wishes_21 rfl (lv_at hl 1 rfl) ?_
    refine lv_aload_n hC.1 hC.2.1 dX12_wishes_22 rfl (lv_at hl 0 rfl) ?_
    refine mw_get (v := .int (M16 0 32)) hC hM 0 (Nat.le_of_ble_eq_true rfl) (eR_0 V) inW12 rfl 32 (by decide) q_1178 (fun _ h9 => h9) rfl dX12_wishes_23 ?_
    refine lv_iadd hC.1 hC.2.1 dX12_wishes_26 ?_
    refine lv_imul hC.1 hC.2.1 dX12_wishes_27 ?_
    exact hret (o_r1 hf) (o_r2 hf hM) dX12_wishes_28
set_option maxHeartbeats 4000000 in
set_option maxRecDepth 100000 in
theorem mcX12_plainSways (V : mV) (l : Launch) (M : mM) (p1 : Int32) (r : Int32) (M' : mM) (hf : fX12_plainSways M p1 = some (r, M')) : IR V l yX12_plainSways cX12_plainSways 2 ({ frames := 2, cells := 0, slots := 0, locals := 42 } : Room) [.ref (mvA V 0), .int p1] M r M' := by
  unfold fX12_plainSways at hf
  refine mw_enterI RX12 rfl (by decide +kernel) (Nat.le_of_ble_eq_true rfl) (fun {p e s m args below meth c} ls A Q hC hret hM hl => ?_)
  have hl : lv_has ls 2 [(0, .ref (mvA V 0)), (1, .int p1)] := hl
  refine lv_aload_n hC.1 hC.2.1 dX12_plainSways_0 rfl (lv_at hl 0 rfl) ?_
  refine lv_bipush hC.1 hC.2.1 dX12_plainSways_1 cb_11 ?_
  obtain ⟨r1, M3, hq2, hf⟩ := o_b2 hf
  refine mw_cVv (As := [.int 11]) (rest := []) hC hM (mcX12_runs V l M 11 r1 M3 hq2) (mw_kV hC q_1723 q_1725 q_98 q_120 q_1726 ⟨rfl, rfl⟩ kV_X12_runs ⟨Nat.le_of_ble_eq_true rfl, Nat.le_of_ble_eq_true rfl⟩) (Nat.le_of_ble_eq_true rfl) (eR_0 V) rfl rfl rfl (Nat.le_of_ble_eq_true rfl) hl.1 dX12_plainSways_3 (fun H locs hM => ?_)
  refine lv_aload_n hC.1 hC.2.1 dX12_plainSways_6 rfl (lv_at hl 0 rfl) ?_
  refine lv_iload_n hC.1 hC.2.1 dX12_plainSways_7 rfl (lv_at hl 1 rfl) ?_
  obtain ⟨r4, M6, hq5, hf⟩ := o_b2 hf
  refine mw_cVi (As := [.int p1]) (rest := []) hC hM (mcX12_wishes V l M3 p1 r4 M6 hq5) (mw_kV hC q_1719 q_1721 q_97 q_120 q_1722 ⟨rfl, rfl⟩ kV_X12_wishes ⟨Nat.le_of_ble_eq_true rfl, Nat.le_of_ble_eq_true rfl⟩) (Nat.le_of_ble_eq_true rfl) (eR_0 V) rfl rfl rfl (Nat.le_of_ble_eq_true rfl) hl.1 dX12_plainSways_8 (fun H locs hM _ => ?_)
  refine lv_aload_n hC.1 hC.2.1 dX12_plainSways_11 rfl (lv_at hl 0 rfl) ?_
  refine mw_get (v := .int (M6 0 31)) hC hM 0 (Nat.le_of_ble_eq_true rfl) (eR_0 V) inW12 rfl 31 (by decide) q_1177 (fun _ h9 => h9) rfl dX12_plainSways_12 ?_
  refine lv_isub hC.1 hC.2.1 dX12_plainSways_15 ?_
  exact hret (o_r1 hf) (o_r2 hf hM) dX12_plainSways_16
set_option maxHeartbeats 4000000 in
set_option maxRecDepth 100000 in
theorem mcX12_sways (V : mV) (l : Launch) (M : mM) (p1 : Int32) (r : Int32) (M' : mM) (hf : fX12_sways M p1 = some (r, M')) : IR V l yX12_sways cX12_sways 2 ({ frames := 3, cells := 0, slots := 0, locals := 63 } : Room) [.ref (mvA V 0), .int p1] M r M' := by
  unfold fX12_sways at hf
  refine mw_enterI RX12 rfl (by decide +kernel) (Nat.le_of_ble_eq_true rfl) (fun {p e s m args below meth c} ls A Q hC hret hM hl => ?_)
  have hl : lv_has ls 2 [(0, .ref (mvA V 0)), (1, .int p1)] := hl
  have hL16 : ∀ (M : mM) (x1 : Int32) (H : Heap) (locs : List Loc) (ls : Array Slot), fX12_sways_L16 M x1 = some (r, M') → PR V M A s H locs → lv_has ls 2 [(0, .ref (mvA V 0)), (1, .int x1)] → W p l e ({ frames := 3, cells := 0, slots := 0, locals := 63 } : Room) s m args below meth c H locs 0 0 Q (F0 m 16 ls []) := by
    intro M x1 H locs ls hf hM hl
    unfold fX12_sways_L16 at hf
    refine lv_aload_n hC.1 hC.2.1 dX12_sways_16 rfl (lv_at hl 0 rfl) ?_
    refine lv_bipush hC.1 hC.2.1 dX12_sways_17 cb_30 ?_
    obtain ⟨r13, M15, hq14, hf⟩ := o_b2 hf
    refine mw_cVv (As := [.int 30]) (rest := []) hC hM (mcX12_runs V l M 30 r13 M15 hq14) (mw_kV hC q_1723 q_1725 q_98 q_120 q_1726 ⟨rfl, rfl⟩ kV_X12_runs ⟨Nat.le_of_ble_eq_true rfl, Nat.le_of_ble_eq_true rfl⟩) (Nat.le_of_ble_eq_true rfl) (eR_0 V) rfl rfl rfl (Nat.le_of_ble_eq_true rfl) hl.1 dX12_sways_19 (fun H locs hM => ?_)
    refine lv_aload_n hC.1 hC.2.1 dX12_sways_22 rfl (lv_at hl 0 rfl) ?_
    refine lv_iload_n hC.1 hC.2.1 dX12_sways_23 rfl (lv_at hl 1 rfl) ?_
    obtain ⟨r16, M18, hq17, hf⟩ := o_b2 hf
    refine mw_cVi (As := [.int x1]) (rest := []) hC hM (mcX12_plainSways V l M15 x1 r16 M18 hq17) (mw_kV hC q_1731 q_1733 q_100 q_120 q_1734 ⟨rfl, rfl⟩ kV_X12_plainSways ⟨Nat.le_of_ble_eq_true rfl, Nat.le_of_ble_eq_true rfl⟩) (Nat.le_of_ble_eq_true rfl) (eR_0 V) rfl rfl rfl (Nat.le_of_ble_eq_true rfl) hl.1 dX12_sways_24 (fun H locs hM _ => ?_)
    refine lv_aload_n hC.1 hC.2.1 dX12_sways_27 rfl (lv_at hl 0 rfl) ?_
    refine mw_get (v := .int (M18 0 31)) hC hM 0 (Nat.le_of_ble_eq_true rfl) (eR_0 V) inW12 rfl 31 (by decide) q_1177 (fun _ h9 => h9) rfl dX12_sways_28 ?_
    refine lv_ixor hC.1 hC.2.1 dX12_sways_31 ?_
    exact hret (o_r1 hf) (o_r2 hf hM) dX12_sways_32
  refine lv_aload_n hC.1 hC.2.1 dX12_sways_0 rfl (lv_at hl 0 rfl) ?_
  refine mw_get (v := .int (M 0 30)) hC hM 0 (Nat.le_of_ble_eq_true rfl) (eR_0 V) inW12 rfl 30 (by decide) q_1176 (fun _ h9 => h9) rfl dX12_sways_1 ?_
  refine lv_iconst hC.1 hC.2.1 dX12_sways_4 ci_2 ?_
  refine lv_icmp_eq (tgt := 16) hC.1 hC.2.1 dX12_sways_5 (by decide) (fun hc12 => ?_) (fun hc12 => ?_)
  · have hf := o_t hc12 hf
    exact hL16 _ _ _ _ _ hf hM (lv_sub hl [0, 1] rfl)
  · have hf := o_f hc12 hf
    refine lv_aload_n hC.1 hC.2.1 dX12_sways_8 rfl (lv_at hl 0 rfl) ?_
    refine mw_get (v := .int (M 0 30)) hC hM 0 (Nat.le_of_ble_eq_true rfl) (eR_0 V) inW12 rfl 30 (by decide) q_1176 (fun _ h9 => h9) rfl dX12_sways_9 ?_
    refine lv_iconst hC.1 hC.2.1 dX12_sways_12 ci_3 ?_
    refine lv_icmp_ne (tgt := 33) hC.1 hC.2.1 dX12_sways_13 (by decide) (fun hc11 => ?_) (fun hc11 => ?_)
    · have hf := o_f hc11 hf
      refine lv_aload_n hC.1 hC.2.1 dX12_sways_33 rfl (lv_at hl 0 rfl) ?_
      refine mw_get (v := .int (M 0 30)) hC hM 0 (Nat.le_of_ble_eq_true rfl) (eR_0 V) inW12 rfl 30 (by decide) q_1176 (fun _ h9 => h9) rfl dX12_sways_34 ?_
      refine lv_iconst hC.1 hC.2.1 dX12_sways_37 ci_5 ?_
      refine lv_icmp_ne (tgt := 54) hC.1 hC.2.1 dX12_sways_38 (by decide) (fun hc10 => ?_) (fun hc10 => ?_)
      · have hf := o_f hc10 hf
        refine lv_aload_n hC.1 hC.2.1 dX12_sways_54 rfl (lv_at hl 0 rfl) ?_
        refine lv_iload_n hC.1 hC.2.1 dX12_sways_55 rfl (lv_at hl 1 rfl) ?_
        obtain ⟨r1, M3, hq2, hf⟩ := o_b2 hf
        refine mw_cVi (As := [.int p1]) (rest := []) hC hM (mcX12_plainSways V l M p1 r1 M3 hq2) (mw_kV hC q_1731 q_1733 q_100 q_120 q_1734 ⟨rfl, rfl⟩ kV_X12_plainSways ⟨Nat.le_of_ble_eq_true rfl, Nat.le_of_ble_eq_true rfl⟩) (Nat.le_of_ble_eq_true rfl) (eR_0 V) rfl rfl rfl (Nat.le_of_ble_eq_true rfl) hl.1 dX12_sways_56 (fun H locs hM _ => ?_)
        exact hret (o_r1 hf) (o_r2 hf hM) dX12_sways_59
      · have hf := o_t hc10 hf
        refine lv_aload_n hC.1 hC.2.1 dX12_sways_41 rfl (lv_at hl 0 rfl) ?_
        refine lv_bipush hC.1 hC.2.1 dX12_sways_42 cb_60 ?_
        obtain ⟨r4, M6, hq5, hf⟩ := o_b2 hf
        refine mw_cVv (As := [.int 60]) (rest := []) hC hM (mcX12_runs V l M 60 r4 M6 hq5) (mw_kV hC q_1723 q_1725 q_98 q_120 q_1726 ⟨rfl, rfl⟩ kV_X12_runs ⟨Nat.le_of_ble_eq_true rfl, Nat.le_of_ble_eq_true rfl⟩) (Nat.le_of_ble_eq_true rfl) (eR_0 V) rfl rfl rfl (Nat.le_of_ble_eq_true rfl) hl.1 dX12_sways_44 (fun H locs hM => ?_)
        refine lv_aload_n hC.1 hC.2.1 dX12_sways_47 rfl (lv_at hl 0 rfl) ?_
        refine lv_iload_n hC.1 hC.2.1 dX12_sways_48 rfl (lv_at hl 1 rfl) ?_
        obtain ⟨r7, M9, hq8, hf⟩ := o_b2 hf
        refine mw_cVi (As := [.int p1]) (rest := []) hC hM (mcX12_plainSways V l M6 p1 r7 M9 hq8) (mw_kV hC q_1731 q_1733 q_100 q_120 q_1734 ⟨rfl, rfl⟩ kV_X12_plainSways ⟨Nat.le_of_ble_eq_true rfl, Nat.le_of_ble_eq_true rfl⟩) (Nat.le_of_ble_eq_true rfl) (eR_0 V) rfl rfl rfl (Nat.le_of_ble_eq_true rfl) hl.1 dX12_sways_49 (fun H locs hM _ => ?_)
        refine lv_ineg hC.1 hC.2.1 dX12_sways_52 ?_
        exact hret (o_r1 hf) (o_r2 hf hM) dX12_sways_53
    · have hf := o_t hc11 hf
      exact hL16 _ _ _ _ _ hf hM (lv_sub hl [0, 1] rfl)
set_option maxHeartbeats 4000000 in
set_option maxRecDepth 100000 in
theorem mcX12_plainTells (V : mV) (l : Launch) (M : mM) (p1 : Int32) (r : Int32) (M' : mM) (hf : fX12_plainTells M p1 = some (r, M')) : IR V l yX12_plainTells cX12_plainTells 2 ({ frames := 4, cells := 0, slots := 0, locals := 84 } : Room) [.ref (mvA V 0), .int p1] M r M' := by
  unfold fX12_plainTells at hf
  refine mw_enterI RX12 rfl (by decide +kernel) (Nat.le_of_ble_eq_true rfl) (fun {p e s m args below meth c} ls A Q hC hret hM hl => ?_)
  have hl : lv_has ls 2 [(0, .ref (mvA V 0)), (1, .int p1)] := hl
  refine lv_aload_n hC.1 hC.2.1 dX12_plainTells_0 rfl (lv_at hl 0 rfl) ?_
  refine lv_bipush hC.1 hC.2.1 dX12_plainTells_1 cb_13 ?_
  obtain ⟨r1, M3, hq2, hf⟩ := o_b2 hf
  refine mw_cVv (As := [.int 13]) (rest := []) hC hM (mcX12_runs V l M 13 r1 M3 hq2) (mw_kV hC q_1723 q_1725 q_98 q_120 q_1726 ⟨rfl, rfl⟩ kV_X12_runs ⟨Nat.le_of_ble_eq_true rfl, Nat.le_of_ble_eq_true rfl⟩) (Nat.le_of_ble_eq_true rfl) (eR_0 V) rfl rfl rfl (Nat.le_of_ble_eq_true rfl) hl.1 dX12_plainTells_3 (fun H locs hM => ?_)
  refine lv_aload_n hC.1 hC.2.1 dX12_plainTells_6 rfl (lv_at hl 0 rfl) ?_
  refine lv_iload_n hC.1 hC.2.1 dX12_plainTells_7 rfl (lv_at hl 1 rfl) ?_
  obtain ⟨r4, M6, hq5, hf⟩ := o_b2 hf
  refine mw_cVi (As := [.int p1]) (rest := []) hC hM (mcX12_sways V l M3 p1 r4 M6 hq5) (mw_kV hC q_1727 q_1729 q_99 q_120 q_1730 ⟨rfl, rfl⟩ kV_X12_sways ⟨Nat.le_of_ble_eq_true rfl, Nat.le_of_ble_eq_true rfl⟩) (Nat.le_of_ble_eq_true rfl) (eR_0 V) rfl rfl rfl (Nat.le_of_ble_eq_true rfl) hl.1 dX12_plainTells_8 (fun H locs hM _ => ?_)
  refine lv_aload_n hC.1 hC.2.1 dX12_plainTells_11 rfl (lv_at hl 0 rfl) ?_
  refine mw_get (v := .int (M6 0 32)) hC hM 0 (Nat.le_of_ble_eq_true rfl) (eR_0 V) inW12 rfl 32 (by decide) q_1178 (fun _ h9 => h9) rfl dX12_plainTells_12 ?_
  refine lv_ixor hC.1 hC.2.1 dX12_plainTells_15 ?_
  exact hret (o_r1 hf) (o_r2 hf hM) dX12_plainTells_16
set_option maxHeartbeats 4000000 in
set_option maxRecDepth 100000 in
theorem mcX12_plainShares (V : mV) (l : Launch) (M : mM) (p1 : Int32) (r : Int32) (M' : mM) (hf : fX12_plainShares M p1 = some (r, M')) : IR V l yX12_plainShares cX12_plainShares 2 ({ frames := 1, cells := 0, slots := 0, locals := 21 } : Room) [.ref (mvA V 0), .int p1] M r M' := by
  unfold fX12_plainShares at hf
  refine mw_enterI RX12 rfl (by decide +kernel) (Nat.le_of_ble_eq_true rfl) (fun {p e s m args below meth c} ls A Q hC hret hM hl => ?_)
  have hl : lv_has ls 2 [(0, .ref (mvA V 0)), (1, .int p1)] := hl
  have hL30 : ∀ (M : mM) (x1 : Int32) (t1 : Int32) (H : Heap) (locs : List Loc) (ls : Array Slot), fX12_plainShares_L30 M x1 t1 = some (r, M') → PR V M A s H locs → lv_has ls 2 [(0, .ref (mvA V 0)), (1, .int x1)] → W p l e ({ frames := 1, cells := 0, slots := 0, locals := 21 } : Room) s m args below meth c H locs 0 0 Q (F0 m 30 ls [.int t1, .ref (mvA V 0)]) := by
    intro M x1 t1 H locs ls hf hM hl
    unfold fX12_plainShares_L30 at hf
    obtain ⟨hg6, hf⟩ := o_g hf
    refine mw_put hC hM 0 (Nat.le_of_ble_eq_true rfl) (eR_0 V) inW12 tyX12 tyX12_ok nmX12 rfl 33 (by decide) q_1179 (fun _ h9 => h9) rfl (nar_b (isB_or hg6)) (fit_b (isB_or hg6)) (Nat.le_of_ble_eq_true rfl) rfl dX12_plainShares_30 (fun H locs hM => ?_)
    refine lv_aload_n hC.1 hC.2.1 dX12_plainShares_33 rfl (lv_at hl 0 rfl) ?_
    refine mw_get (v := .int ((wr M 0 33 t1) 0 32)) hC hM 0 (Nat.le_of_ble_eq_true rfl) (eR_0 V) inW12 rfl 32 (by decide) q_1178 (fun _ h9 => h9) rfl dX12_plainShares_34 ?_
    refine lv_aload_n hC.1 hC.2.1 dX12_plainShares_37 rfl (lv_at hl 0 rfl) ?_
    refine mw_get (v := .int ((wr M 0 33 t1) 0 31)) hC hM 0 (Nat.le_of_ble_eq_true rfl) (eR_0 V) inW12 rfl 31 (by decide) q_1177 (fun _ h9 => h9) rfl dX12_plainShares_38 ?_
    refine lv_icmp_ne (tgt := 48) hC.1 hC.2.1 dX12_plainShares_41 (by decide) (fun hc8 => ?_) (fun hc8 => ?_)
    · have hf := o_f hc8 hf
      refine lv_iload_n hC.1 hC.2.1 dX12_plainShares_48 rfl (lv_at hl 1 rfl) ?_
      refine lv_aload_n hC.1 hC.2.1 dX12_plainShares_49 rfl (lv_at hl 0 rfl) ?_
      refine mw_get (v := .int ((wr M 0 33 t1) 0 32)) hC hM 0 (Nat.le_of_ble_eq_true rfl) (eR_0 V) inW12 rfl 32 (by decide) q_1178 (fun _ h9 => h9) rfl dX12_plainShares_50 ?_
      refine lv_aload_n hC.1 hC.2.1 dX12_plainShares_53 rfl (lv_at hl 0 rfl) ?_
      refine mw_get (v := .int ((wr M 0 33 t1) 0 31)) hC hM 0 (Nat.le_of_ble_eq_true rfl) (eR_0 V) inW12 rfl 31 (by decide) q_1177 (fun _ h9 => h9) rfl dX12_plainShares_54 ?_
      refine lv_isub hC.1 hC.2.1 dX12_plainShares_57 ?_
      obtain ⟨hg7, hf⟩ := o_g hf
      refine lv_idiv hC.1 hC.2.1 dX12_plainShares_58 (nz_ne hg7) ?_
      exact hret (o_r1 hf) (o_r2 hf hM) dX12_plainShares_59
    · have hf := o_t hc8 hf
      refine lv_iconst hC.1 hC.2.1 dX12_plainShares_44 ci_0 ?_
      refine lv_goto (tgt := 59) hC.1 hC.2.1 dX12_plainShares_45 (by decide) ?_
      exact hret (o_r1 hf) (o_r2 hf hM) dX12_plainShares_59
  have hL25 : ∀ (M : mM) (x1 : Int32) (H : Heap) (locs : List Loc) (ls : Array Slot), fX12_plainShares_L25 M x1 = some (r, M') → PR V M A s H locs → lv_has ls 2 [(0, .ref (mvA V 0)), (1, .int x1)] → W p l e ({ frames := 1, cells := 0, slots := 0, locals := 21 } : Room) s m args below meth c H locs 0 0 Q (F0 m 25 ls [.ref (mvA V 0)]) := by
    intro M x1 H locs ls hf hM hl
    unfold fX12_plainShares_L25 at hf
    refine lv_iconst hC.1 hC.2.1 dX12_plainShares_25 ci_1 ?_
    refine lv_goto (tgt := 30) hC.1 hC.2.1 dX12_plainShares_26 (by decide) ?_
    exact hL30 _ _ _ _ _ _ hf hM (lv_sub hl [0, 1] rfl)
  refine lv_aload_n hC.1 hC.2.1 dX12_plainShares_0 rfl (lv_at hl 0 rfl) ?_
  refine lv_bipush hC.1 hC.2.1 dX12_plainShares_1 cb_12 ?_
  obtain ⟨r1, M3, hq2, hf⟩ := o_b2 hf
  refine mw_cVv (As := [.int 12]) (rest := []) hC hM (mcX12_runs V l M 12 r1 M3 hq2) (mw_kV hC q_1723 q_1725 q_98 q_120 q_1726 ⟨rfl, rfl⟩ kV_X12_runs ⟨Nat.le_of_ble_eq_true rfl, Nat.le_of_ble_eq_true rfl⟩) (Nat.le_of_ble_eq_true rfl) (eR_0 V) rfl rfl rfl (Nat.le_of_ble_eq_true rfl) hl.1 dX12_plainShares_3 (fun H locs hM => ?_)
  refine lv_aload_n hC.1 hC.2.1 dX12_plainShares_6 rfl (lv_at hl 0 rfl) ?_
  refine lv_aload_n hC.1 hC.2.1 dX12_plainShares_7 rfl (lv_at hl 0 rfl) ?_
  refine mw_get (v := .int (M3 0 33)) hC hM 0 (Nat.le_of_ble_eq_true rfl) (eR_0 V) inW12 rfl 33 (by decide) q_1179 (fun _ h9 => h9) rfl dX12_plainShares_8 ?_
  refine lv_if_ne (tgt := 25) hC.1 hC.2.1 dX12_plainShares_11 (by decide) (fun hc5 => ?_) (fun hc5 => ?_)
  · have hf := o_f hc5 hf
    exact hL25 _ _ _ _ _ hf hM (lv_sub hl [0, 1] rfl)
  · have hf := o_t hc5 hf
    refine lv_aload_n hC.1 hC.2.1 dX12_plainShares_14 rfl (lv_at hl 0 rfl) ?_
    refine mw_get (v := .int (M3 0 32)) hC hM 0 (Nat.le_of_ble_eq_true rfl) (eR_0 V) inW12 rfl 32 (by decide) q_1178 (fun _ h9 => h9) rfl dX12_plainShares_15 ?_
    refine lv_aload_n hC.1 hC.2.1 dX12_plainShares_18 rfl (lv_at hl 0 rfl) ?_
    refine mw_get (v := .int (M3 0 31)) hC hM 0 (Nat.le_of_ble_eq_true rfl) (eR_0 V) inW12 rfl 31 (by decide) q_1177 (fun _ h9 => h9) rfl dX12_plainShares_19 ?_
    refine lv_icmp_ne (tgt := 29) hC.1 hC.2.1 dX12_plainShares_22 (by decide) (fun hc4 => ?_) (fun hc4 => ?_)
    · have hf := o_f hc4 hf
      refine lv_iconst hC.1 hC.2.1 dX12_plainShares_29 ci_0 ?_
      exact hL30 _ _ _ _ _ _ hf hM (lv_sub hl [0, 1] rfl)
    · have hf := o_t hc4 hf
      exact hL25 _ _ _ _ _ hf hM (lv_sub hl [0, 1] rfl)
set_option maxHeartbeats 4000000 in
set_option maxRecDepth 100000 in
theorem mcX12_bakerShares (V : mV) (l : Launch) (M : mM) (p1 : Int32) (r : Int32) (M' : mM) (hf : fX12_bakerShares M p1 = some (r, M')) : IR V l yX12_bakerShares cX12_bakerShares 2 ({ frames := 2, cells := 0, slots := 0, locals := 42 } : Room) [.ref (mvA V 0), .int p1] M r M' := by
  unfold fX12_bakerShares at hf
  refine mw_enterI RX12 rfl (by decide +kernel) (Nat.le_of_ble_eq_true rfl) (fun {p e s m args below meth c} ls A Q hC hret hM hl => ?_)
  have hl : lv_has ls 2 [(0, .ref (mvA V 0)), (1, .int p1)] := hl
  refine lv_aload_n hC.1 hC.2.1 dX12_bakerShares_0 rfl (lv_at hl 0 rfl) ?_
  refine lv_bipush hC.1 hC.2.1 dX12_bakerShares_1 cb_40 ?_
  obtain ⟨r1, M3, hq2, hf⟩ := o_b2 hf
  refine mw_cVv (As := [.int 40]) (rest := []) hC hM (mcX12_runs V l M 40 r1 M3 hq2) (mw_kV hC q_1723 q_1725 q_98 q_120 q_1726 ⟨rfl, rfl⟩ kV_X12_runs ⟨Nat.le_of_ble_eq_true rfl, Nat.le_of_ble_eq_true rfl⟩) (Nat.le_of_ble_eq_true rfl) (eR_0 V) rfl rfl rfl (Nat.le_of_ble_eq_true rfl) hl.1 dX12_bakerShares_3 (fun H locs hM => ?_)
  refine lv_aload_n hC.1 hC.2.1 dX12_bakerShares_6 rfl (lv_at hl 0 rfl) ?_
  refine lv_iload_n hC.1 hC.2.1 dX12_bakerShares_7 rfl (lv_at hl 1 rfl) ?_
  refine lv_iconst hC.1 hC.2.1 dX12_bakerShares_8 ci_3 ?_
  refine lv_isub hC.1 hC.2.1 dX12_bakerShares_9 ?_
  obtain ⟨r4, M6, hq5, hf⟩ := o_b2 hf
  refine mw_cVi (As := [.int (p1 - 3)]) (rest := []) hC hM (mcX12_plainShares V l M3 (p1 - 3) r4 M6 hq5) (mw_kV hC q_1743 q_1745 q_103 q_120 q_1746 ⟨rfl, rfl⟩ kV_X12_plainShares ⟨Nat.le_of_ble_eq_true rfl, Nat.le_of_ble_eq_true rfl⟩) (Nat.le_of_ble_eq_true rfl) (eR_0 V) rfl rfl rfl (Nat.le_of_ble_eq_true rfl) hl.1 dX12_bakerShares_10 (fun H locs hM _ => ?_)
  exact hret (o_r1 hf) (o_r2 hf hM) dX12_bakerShares_13
set_option maxHeartbeats 4000000 in
set_option maxRecDepth 100000 in
theorem mcX12_shares (V : mV) (l : Launch) (M : mM) (p1 : Int32) (r : Int32) (M' : mM) (hf : fX12_shares M p1 = some (r, M')) : IR V l yX12_shares cX12_shares 3 ({ frames := 3, cells := 0, slots := 0, locals := 63 } : Room) [.ref (mvA V 0), .int p1] M r M' := by
  unfold fX12_shares at hf
  refine mw_enterI RX12 rfl (by decide +kernel) (Nat.le_of_ble_eq_true rfl) (fun {p e s m args below meth c} ls A Q hC hret hM hl => ?_)
  have hl : lv_has ls 3 [(0, .ref (mvA V 0)), (1, .int p1)] := hl
  refine lv_aload_n hC.1 hC.2.1 dX12_shares_0 rfl (lv_at hl 0 rfl) ?_
  refine mw_get (v := .int (M 0 30)) hC hM 0 (Nat.le_of_ble_eq_true rfl) (eR_0 V) inW12 rfl 30 (by decide) q_1176 (fun _ h9 => h9) rfl dX12_shares_1 ?_
  refine lv_iconst hC.1 hC.2.1 dX12_shares_4 ci_5 ?_
  refine lv_icmp_ne (tgt := 42) hC.1 hC.2.1 dX12_shares_5 (by decide) (fun hc18 => ?_) (fun hc18 => ?_)
  · have hf := o_f hc18 hf
    refine lv_aload_n hC.1 hC.2.1 dX12_shares_42 rfl (lv_at hl 0 rfl) ?_
    refine mw_get (v := .int (M 0 30)) hC hM 0 (Nat.le_of_ble_eq_true rfl) (eR_0 V) inW12 rfl 30 (by decide) q_1176 (fun _ h9 => h9) rfl dX12_shares_43 ?_
    refine lv_iconst hC.1 hC.2.1 dX12_shares_46 ci_4 ?_
    refine lv_icmp_ne (tgt := 58) hC.1 hC.2.1 dX12_shares_47 (by decide) (fun hc7 => ?_) (fun hc7 => ?_)
    · have hf := o_f hc7 hf
      refine lv_aload_n hC.1 hC.2.1 dX12_shares_58 rfl (lv_at hl 0 rfl) ?_
      refine lv_iload_n hC.1 hC.2.1 dX12_shares_59 rfl (lv_at hl 1 rfl) ?_
      obtain ⟨r1, M3, hq2, hf⟩ := o_b2 hf
      refine mw_cVi (As := [.int p1]) (rest := []) hC hM (mcX12_plainShares V l M p1 r1 M3 hq2) (mw_kV hC q_1743 q_1745 q_103 q_120 q_1746 ⟨rfl, rfl⟩ kV_X12_plainShares ⟨Nat.le_of_ble_eq_true rfl, Nat.le_of_ble_eq_true rfl⟩) (Nat.le_of_ble_eq_true rfl) (eR_0 V) rfl rfl rfl (Nat.le_of_ble_eq_true rfl) hl.1 dX12_shares_60 (fun H locs hM _ => ?_)
      exact hret (o_r1 hf) (o_r2 hf hM) dX12_shares_63
    · have hf := o_t hc7 hf
      refine lv_aload_n hC.1 hC.2.1 dX12_shares_50 rfl (lv_at hl 0 rfl) ?_
      refine lv_iload_n hC.1 hC.2.1 dX12_shares_51 rfl (lv_at hl 1 rfl) ?_
      obtain ⟨r4, M6, hq5, hf⟩ := o_b2 hf
      refine mw_cVi (As := [.int p1]) (rest := []) hC hM (mcX12_bakerShares V l M p1 r4 M6 hq5) (mw_kV hC q_1739 q_1741 q_102 q_120 q_1742 ⟨rfl, rfl⟩ kV_X12_bakerShares ⟨Nat.le_of_ble_eq_true rfl, Nat.le_of_ble_eq_true rfl⟩) (Nat.le_of_ble_eq_true rfl) (eR_0 V) rfl rfl rfl (Nat.le_of_ble_eq_true rfl) hl.1 dX12_shares_52 (fun H locs hM _ => ?_)
      refine lv_goto (tgt := 63) hC.1 hC.2.1 dX12_shares_55 (by decide) ?_
      exact hret (o_r1 hf) (o_r2 hf hM) dX12_shares_63
  · have hf := o_t hc18 hf
    refine lv_aload_n hC.1 hC.2.1 dX12_shares_8 rfl (lv_at hl 0 rfl) ?_
    refine lv_bipush hC.1 hC.2.1 dX12_shares_9 cb_61 ?_
    obtain ⟨r8, M10, hq9, hf⟩ := o_b2 hf
    refine mw_cVv (As := [.int 61]) (rest := []) hC hM (mcX12_runs V l M 61 r8 M10 hq9) (mw_kV hC q_1723 q_1725 q_98 q_120 q_1726 ⟨rfl, rfl⟩ kV_X12_runs ⟨Nat.le_of_ble_eq_true rfl, Nat.le_of_ble_eq_true rfl⟩) (Nat.le_of_ble_eq_true rfl) (eR_0 V) rfl rfl rfl (Nat.le_of_ble_eq_true rfl) hl.1 dX12_shares_11 (fun H locs hM => ?_)
    refine lv_aload_n hC.1 hC.2.1 dX12_shares_14 rfl (lv_at hl 0 rfl) ?_
    refine lv_iload_n hC.1 hC.2.1 dX12_shares_15 rfl (lv_at hl 1 rfl) ?_
    obtain ⟨r11, M13, hq12, hf⟩ := o_b2 hf
    refine mw_cVi (As := [.int p1]) (rest := []) hC hM (mcX12_bakerShares V l M10 p1 r11 M13 hq12) (mw_kV hC q_1739 q_1741 q_102 q_120 q_1742 ⟨rfl, rfl⟩ kV_X12_bakerShares ⟨Nat.le_of_ble_eq_true rfl, Nat.le_of_ble_eq_true rfl⟩) (Nat.le_of_ble_eq_true rfl) (eR_0 V) rfl rfl rfl (Nat.le_of_ble_eq_true rfl) hl.1 dX12_shares_16 (fun H locs hM _ => ?_)
    refine lv_istore_n (lv' := [(2, .int r11), (0, .ref (mvA V 0)), (1, .int p1)]) hC.1 hC.2.1 dX12_shares_19 rfl hl (Nat.le_of_ble_eq_true rfl) rfl (fun ls hl => ?_)
    refine lv_aload_n hC.1 hC.2.1 dX12_shares_20 rfl (lv_at hl 1 rfl) ?_
    refine mw_get (v := .int (M13 0 33)) hC hM 0 (Nat.le_of_ble_eq_true rfl) (eR_0 V) inW12 rfl 33 (by decide) q_1179 (fun _ h9 => h9) rfl dX12_shares_21 ?_
    refine lv_if_eq (tgt := 31) hC.1 hC.2.1 dX12_shares_24 (by decide) (fun hc17 => ?_) (fun hc17 => ?_)
    · have hf := o_t hc17 hf
      refine lv_iload_n hC.1 hC.2.1 dX12_shares_31 rfl (lv_at hl 0 rfl) ?_
      refine lv_aload_n hC.1 hC.2.1 dX12_shares_32 rfl (lv_at hl 1 rfl) ?_
      refine lv_aload_n hC.1 hC.2.1 dX12_shares_33 rfl (lv_at hl 1 rfl) ?_
      refine mw_get (v := .int (M13 0 31)) hC hM 0 (Nat.le_of_ble_eq_true rfl) (eR_0 V) inW12 rfl 31 (by decide) q_1177 (fun _ h9 => h9) rfl dX12_shares_34 ?_
      obtain ⟨r14, M16, hq15, hf⟩ := o_b2 hf
      refine mw_cVi (As := [.int (M13 0 31)]) (rest := [.int r11]) hC hM (mcX12_wishes V l M13 (M13 0 31) r14 M16 hq15) (mw_kV hC q_1719 q_1721 q_97 q_120 q_1722 ⟨rfl, rfl⟩ kV_X12_wishes ⟨Nat.le_of_ble_eq_true rfl, Nat.le_of_ble_eq_true rfl⟩) (Nat.le_of_ble_eq_true rfl) (eR_0 V) rfl rfl rfl (Nat.le_of_ble_eq_true rfl) hl.1 dX12_shares_37 (fun H locs hM _ => ?_)
      refine lv_isub hC.1 hC.2.1 dX12_shares_40 ?_
      exact hret (o_r1 hf) (o_r2 hf hM) dX12_shares_41
    · have hf := o_f hc17 hf
      refine lv_iconst hC.1 hC.2.1 dX12_shares_27 ci_0 ?_
      refine lv_goto (tgt := 41) hC.1 hC.2.1 dX12_shares_28 (by decide) ?_
      exact hret (o_r1 hf) (o_r2 hf hM) dX12_shares_41
set_option maxHeartbeats 4000000 in
set_option maxRecDepth 100000 in
theorem mcX12_tells (V : mV) (l : Launch) (M : mM) (p1 : Int32) (r : Int32) (M' : mM) (hf : fX12_tells M p1 = some (r, M')) : IR V l yX12_tells cX12_tells 3 ({ frames := 5, cells := 0, slots := 0, locals := 105 } : Room) [.ref (mvA V 0), .int p1] M r M' := by
  unfold fX12_tells at hf
  refine mw_enterI RX12 rfl (by decide +kernel) (Nat.le_of_ble_eq_true rfl) (fun {p e s m args below meth c} ls A Q hC hret hM hl => ?_)
  have hl : lv_has ls 3 [(0, .ref (mvA V 0)), (1, .int p1)] := hl
  refine lv_aload_n hC.1 hC.2.1 dX12_tells_0 rfl (lv_at hl 0 rfl) ?_
  refine mw_get (v := .int (M 0 30)) hC hM 0 (Nat.le_of_ble_eq_true rfl) (eR_0 V) inW12 rfl 30 (by decide) q_1176 (fun _ h9 => h9) rfl dX12_tells_1 ?_
  refine lv_iconst hC.1 hC.2.1 dX12_tells_4 ci_3 ?_
  refine lv_icmp_ne (tgt := 31) hC.1 hC.2.1 dX12_tells_5 (by decide) (fun hc13 => ?_) (fun hc13 => ?_)
  · have hf := o_f hc13 hf
    refine lv_aload_n hC.1 hC.2.1 dX12_tells_31 rfl (lv_at hl 0 rfl) ?_
    refine lv_iload_n hC.1 hC.2.1 dX12_tells_32 rfl (lv_at hl 1 rfl) ?_
    obtain ⟨r1, M3, hq2, hf⟩ := o_b2 hf
    refine mw_cVi (As := [.int p1]) (rest := []) hC hM (mcX12_plainTells V l M p1 r1 M3 hq2) (mw_kV hC q_1751 q_1753 q_105 q_120 q_1754 ⟨rfl, rfl⟩ kV_X12_plainTells ⟨Nat.le_of_ble_eq_true rfl, Nat.le_of_ble_eq_true rfl⟩) (Nat.le_of_ble_eq_true rfl) (eR_0 V) rfl rfl rfl (Nat.le_of_ble_eq_true rfl) hl.1 dX12_tells_33 (fun H locs hM _ => ?_)
    exact hret (o_r1 hf) (o_r2 hf hM) dX12_tells_36
  · have hf := o_t hc13 hf
    refine lv_aload_n hC.1 hC.2.1 dX12_tells_8 rfl (lv_at hl 0 rfl) ?_
    refine lv_bipush hC.1 hC.2.1 dX12_tells_9 cb_51 ?_
    obtain ⟨r4, M6, hq5, hf⟩ := o_b2 hf
    refine mw_cVv (As := [.int 51]) (rest := []) hC hM (mcX12_runs V l M 51 r4 M6 hq5) (mw_kV hC q_1723 q_1725 q_98 q_120 q_1726 ⟨rfl, rfl⟩ kV_X12_runs ⟨Nat.le_of_ble_eq_true rfl, Nat.le_of_ble_eq_true rfl⟩) (Nat.le_of_ble_eq_true rfl) (eR_0 V) rfl rfl rfl (Nat.le_of_ble_eq_true rfl) hl.1 dX12_tells_11 (fun H locs hM => ?_)
    refine lv_aload_n hC.1 hC.2.1 dX12_tells_14 rfl (lv_at hl 0 rfl) ?_
    refine lv_iload_n hC.1 hC.2.1 dX12_tells_15 rfl (lv_at hl 1 rfl) ?_
    obtain ⟨r7, M9, hq8, hf⟩ := o_b2 hf
    refine mw_cVi (As := [.int p1]) (rest := []) hC hM (mcX12_plainTells V l M6 p1 r7 M9 hq8) (mw_kV hC q_1751 q_1753 q_105 q_120 q_1754 ⟨rfl, rfl⟩ kV_X12_plainTells ⟨Nat.le_of_ble_eq_true rfl, Nat.le_of_ble_eq_true rfl⟩) (Nat.le_of_ble_eq_true rfl) (eR_0 V) rfl rfl rfl (Nat.le_of_ble_eq_true rfl) hl.1 dX12_tells_16 (fun H locs hM _ => ?_)
    refine lv_istore_n (lv' := [(2, .int r7), (0, .ref (mvA V 0)), (1, .int p1)]) hC.1 hC.2.1 dX12_tells_19 rfl hl (Nat.le_of_ble_eq_true rfl) rfl (fun ls hl => ?_)
    refine lv_iload_n hC.1 hC.2.1 dX12_tells_20 rfl (lv_at hl 0 rfl) ?_
    refine lv_aload_n hC.1 hC.2.1 dX12_tells_21 rfl (lv_at hl 1 rfl) ?_
    refine lv_aload_n hC.1 hC.2.1 dX12_tells_22 rfl (lv_at hl 1 rfl) ?_
    refine mw_get (v := .int (M9 0 32)) hC hM 0 (Nat.le_of_ble_eq_true rfl) (eR_0 V) inW12 rfl 32 (by decide) q_1178 (fun _ h9 => h9) rfl dX12_tells_23 ?_
    obtain ⟨r10, M12, hq11, hf⟩ := o_b2 hf
    refine mw_cVi (As := [.int (M9 0 32)]) (rest := [.int r7]) hC hM (mcX12_shares V l M9 (M9 0 32) r10 M12 hq11) (mw_kV hC q_1735 q_1737 q_101 q_120 q_1738 ⟨rfl, rfl⟩ kV_X12_shares ⟨Nat.le_of_ble_eq_true rfl, Nat.le_of_ble_eq_true rfl⟩) (Nat.le_of_ble_eq_true rfl) (eR_0 V) rfl rfl rfl (Nat.le_of_ble_eq_true rfl) hl.1 dX12_tells_26 (fun H locs hM _ => ?_)
    refine lv_iadd hC.1 hC.2.1 dX12_tells_29 ?_
    exact hret (o_r1 hf) (o_r2 hf hM) dX12_tells_30
set_option maxHeartbeats 4000000 in
set_option maxRecDepth 100000 in
theorem mcX12_act (V : mV) (l : Launch) (M : mM) (p1 : Int32) (p2 : Int32) (p3 : Int32) (r : Int32) (M' : mM) (hf : fX12_act M p1 p2 p3 = some (r, M')) : IR V l yX12_act cX12_act 5 ({ frames := 6, cells := 0, slots := 0, locals := 127 } : Room) [.ref (mvA V 0), .int p1, .int p2, .int p3] M r M' := by
  unfold fX12_act at hf
  refine mw_enterI RX12 rfl (by decide +kernel) (Nat.le_of_ble_eq_true rfl) (fun {p e s m args below meth c} ls A Q hC hret hM hl => ?_)
  have hl : lv_has ls 5 [(0, .ref (mvA V 0)), (1, .int p1), (2, .int p2), (3, .int p3)] := hl
  have hL113 : ∀ (M : mM) (t0 : Int32) (H : Heap) (locs : List Loc) (ls : Array Slot), fX12_act_L113 M t0 = some (r, M') → PR V M A s H locs → lv_has ls 5 [(0, .ref (mvA V 0))] → W p l e ({ frames := 6, cells := 0, slots := 0, locals := 127 } : Room) s m args below meth c H locs 0 0 Q (F0 m 113 ls [.int t0]) := by
    intro M t0 H locs ls hf hM hl
    unfold fX12_act_L113 at hf
    refine lv_istore (lv' := [(4, .int t0), (0, .ref (mvA V 0))]) hC.1 hC.2.1 dX12_act_113 hl (Nat.le_of_ble_eq_true rfl) rfl (fun ls hl => ?_)
    refine lv_aload_n hC.1 hC.2.1 dX12_act_115 rfl (lv_at hl 1 rfl) ?_
    refine mw_get (v := .int (M 0 33)) hC hM 0 (Nat.le_of_ble_eq_true rfl) (eR_0 V) inW12 rfl 33 (by decide) q_1179 (fun _ h9 => h9) rfl dX12_act_116 ?_
    refine lv_if_eq (tgt := 127) hC.1 hC.2.1 dX12_act_119 (by decide) (fun hc29 => ?_) (fun hc29 => ?_)
    · have hf := o_t hc29 hf
      refine lv_iload hC.1 hC.2.1 dX12_act_127 (lv_at hl 0 rfl) ?_
      exact hret (o_r1 hf) (o_r2 hf hM) dX12_act_129
    · have hf := o_f hc29 hf
      refine lv_bipush hC.1 hC.2.1 dX12_act_122 cb_m15 ?_
      refine lv_goto (tgt := 129) hC.1 hC.2.1 dX12_act_124 (by decide) ?_
      exact hret (o_r1 hf) (o_r2 hf hM) dX12_act_129
  refine lv_aload_n hC.1 hC.2.1 dX12_act_0 rfl (lv_at hl 0 rfl) ?_
  refine lv_iconst hC.1 hC.2.1 dX12_act_1 ci_0 ?_
  refine mw_put hC hM 0 (Nat.le_of_ble_eq_true rfl) (eR_0 V) inW12 tyX12 tyX12_ok nmX12 rfl 29 (by decide) q_1175 (fun _ h9 => h9) rfl rfl rfl (Nat.le_of_ble_eq_true rfl) rfl dX12_act_2 (fun H locs hM => ?_)
  refine lv_iload_n hC.1 hC.2.1 dX12_act_5 rfl (lv_at hl 1 rfl) ?_
  refine mw_cSi (As := [.int p1]) (rest := []) hC hM (mcX12_isFour V l (wr M 0 29 0) p1 _ rfl) (mw_kS hC q_1669 q_1670 q_120 q_1671 ⟨rfl, rfl⟩ kS_X12_isFour ⟨Nat.le_of_ble_eq_true rfl, Nat.le_of_ble_eq_true rfl⟩) rfl rfl (Nat.le_of_ble_eq_true rfl) hl.1 dX12_act_6 (fun H locs hM hb1 => ?_)
  refine lv_if_eq (tgt := 27) hC.1 hC.2.1 dX12_act_9 (by decide) (fun hc28 => ?_) (fun hc28 => ?_)
  · have hf := o_t hc28 hf
    refine lv_iconst hC.1 hC.2.1 dX12_act_27 ci_0 ?_
    exact hret (o_r1 hf) (o_r2 hf hM) dX12_act_28
  · have hf := o_f hc28 hf
    refine lv_iload_n hC.1 hC.2.1 dX12_act_12 rfl (lv_at hl 2 rfl) ?_
    refine mw_cSi (As := [.int p2]) (rest := []) hC hM (mcX12_isFour V l (wr M 0 29 0) p2 _ rfl) (mw_kS hC q_1669 q_1670 q_120 q_1671 ⟨rfl, rfl⟩ kS_X12_isFour ⟨Nat.le_of_ble_eq_true rfl, Nat.le_of_ble_eq_true rfl⟩) rfl rfl (Nat.le_of_ble_eq_true rfl) hl.1 dX12_act_13 (fun H locs hM hb2 => ?_)
    refine lv_if_eq (tgt := 27) hC.1 hC.2.1 dX12_act_16 (by decide) (fun hc27 => ?_) (fun hc27 => ?_)
    · have hf := o_t hc27 hf
      refine lv_iconst hC.1 hC.2.1 dX12_act_27 ci_0 ?_
      exact hret (o_r1 hf) (o_r2 hf hM) dX12_act_28
    · have hf := o_f hc27 hf
      refine lv_aload_n hC.1 hC.2.1 dX12_act_19 rfl (lv_at hl 0 rfl) ?_
      refine lv_iload_n hC.1 hC.2.1 dX12_act_20 rfl (lv_at hl 1 rfl) ?_
      obtain ⟨r3, hq4, hf⟩ := o_b hf
      refine mw_cVi (As := [.int p1]) (rest := []) hC hM (mcX12_isHeld V l (wr M 0 29 0) p1 r3 hq4) (mw_kV hC q_1711 q_1713 q_96 q_120 q_1714 ⟨rfl, rfl⟩ kV_X12_isHeld ⟨Nat.le_of_ble_eq_true rfl, Nat.le_of_ble_eq_true rfl⟩) (Nat.le_of_ble_eq_true rfl) (eR_0 V) rfl rfl rfl (Nat.le_of_ble_eq_true rfl) hl.1 dX12_act_21 (fun H locs hM hb5 => ?_)
      refine lv_if_ne (tgt := 29) hC.1 hC.2.1 dX12_act_24 (by decide) (fun hc26 => ?_) (fun hc26 => ?_)
      · have hf := o_f hc26 hf
        refine lv_aload_n hC.1 hC.2.1 dX12_act_29 rfl (lv_at hl 0 rfl) ?_
        refine lv_aload_n hC.1 hC.2.1 dX12_act_30 rfl (lv_at hl 0 rfl) ?_
        refine mw_get (v := .ref (mvA V 14)) hC hM 0 (Nat.le_of_ble_eq_true rfl) (eR_0 V) inW12 rfl 26 (by decide) q_1172 (fun _ h9 => h9) rfl dX12_act_31 ?_
        refine lv_iload_n hC.1 hC.2.1 dX12_act_34 rfl (lv_at hl 1 rfl) ?_
        obtain ⟨hg6, hf⟩ := o_g hf
        refine mw_iald hC hM 14 0 (Nat.le_of_ble_eq_true rfl) (eR_14 V) rfl hg6 dX12_act_35 ?_
        refine mw_put hC hM 0 (Nat.le_of_ble_eq_true rfl) (eR_0 V) inW12 tyX12 tyX12_ok nmX12 rfl 31 (by decide) q_1177 (fun _ h9 => h9) rfl rfl rfl (Nat.le_of_ble_eq_true rfl) rfl dX12_act_36 (fun H locs hM => ?_)
        refine lv_aload_n hC.1 hC.2.1 dX12_act_39 rfl (lv_at hl 0 rfl) ?_
        refine lv_aload_n hC.1 hC.2.1 dX12_act_40 rfl (lv_at hl 0 rfl) ?_
        refine lv_aload_n hC.1 hC.2.1 dX12_act_41 rfl (lv_at hl 0 rfl) ?_
        refine mw_get (v := .int ((wr (wr M 0 29 0) 0 31 ((wr M 0 29 0) 14 (Int32.toNatClampNeg p1))) 0 31)) hC hM 0 (Nat.le_of_ble_eq_true rfl) (eR_0 V) inW12 rfl 31 (by decide) q_1177 (fun _ h9 => h9) rfl dX12_act_42 ?_
        refine lv_iconst hC.1 hC.2.1 dX12_act_45 ci_0 ?_
        obtain ⟨r7, hq8, hf⟩ := o_b hf
        refine mw_cVi (As := [.int ((wr (wr M 0 29 0) 0 31 ((wr M 0 29 0) 14 (Int32.toNatClampNeg p1))) 0 31), .int 0]) (rest := [.ref (mvA V 0)]) hC hM (mcX12_its V l (wr (wr M 0 29 0) 0 31 ((wr M 0 29 0) 14 (Int32.toNatClampNeg p1))) ((wr (wr M 0 29 0) 0 31 ((wr M 0 29 0) 14 (Int32.toNatClampNeg p1))) 0 31) 0 r7 hq8) (mw_kV hC q_1282 q_1284 q_46 q_120 q_1285 ⟨rfl, rfl⟩ kV_X12_its ⟨Nat.le_of_ble_eq_true rfl, Nat.le_of_ble_eq_true rfl⟩) (Nat.le_of_ble_eq_true rfl) (eR_0 V) rfl rfl rfl (Nat.le_of_ble_eq_true rfl) hl.1 dX12_act_46 (fun H locs hM _ => ?_)
        refine mw_put hC hM 0 (Nat.le_of_ble_eq_true rfl) (eR_0 V) inW12 tyX12 tyX12_ok nmX12 rfl 30 (by decide) q_1176 (fun _ h9 => h9) rfl rfl rfl (Nat.le_of_ble_eq_true rfl) rfl dX12_act_49 (fun H locs hM => ?_)
        refine lv_aload_n hC.1 hC.2.1 dX12_act_52 rfl (lv_at hl 0 rfl) ?_
        refine lv_aload_n hC.1 hC.2.1 dX12_act_53 rfl (lv_at hl 0 rfl) ?_
        refine lv_aload_n hC.1 hC.2.1 dX12_act_54 rfl (lv_at hl 0 rfl) ?_
        refine mw_get (v := .int ((wr (wr (wr M 0 29 0) 0 31 ((wr M 0 29 0) 14 (Int32.toNatClampNeg p1))) 0 30 r7) 0 31)) hC hM 0 (Nat.le_of_ble_eq_true rfl) (eR_0 V) inW12 rfl 31 (by decide) q_1177 (fun _ h9 => h9) rfl dX12_act_55 ?_
        refine lv_iconst hC.1 hC.2.1 dX12_act_58 ci_1 ?_
        obtain ⟨r9, hq10, hf⟩ := o_b hf
        refine mw_cVi (As := [.int ((wr (wr (wr M 0 29 0) 0 31 ((wr M 0 29 0) 14 (Int32.toNatClampNeg p1))) 0 30 r7) 0 31), .int 1]) (rest := [.ref (mvA V 0)]) hC hM (mcX12_its V l (wr (wr (wr M 0 29 0) 0 31 ((wr M 0 29 0) 14 (Int32.toNatClampNeg p1))) 0 30 r7) ((wr (wr (wr M 0 29 0) 0 31 ((wr M 0 29 0) 14 (Int32.toNatClampNeg p1))) 0 30 r7) 0 31) 1 r9 hq10) (mw_kV hC q_1282 q_1284 q_46 q_120 q_1285 ⟨rfl, rfl⟩ kV_X12_its ⟨Nat.le_of_ble_eq_true rfl, Nat.le_of_ble_eq_true rfl⟩) (Nat.le_of_ble_eq_true rfl) (eR_0 V) rfl rfl rfl (Nat.le_of_ble_eq_true rfl) hl.1 dX12_act_59 (fun H locs hM _ => ?_)
        refine mw_put hC hM 0 (Nat.le_of_ble_eq_true rfl) (eR_0 V) inW12 tyX12 tyX12_ok nmX12 rfl 32 (by decide) q_1178 (fun _ h9 => h9) rfl rfl rfl (Nat.le_of_ble_eq_true rfl) rfl dX12_act_62 (fun H locs hM => ?_)
        refine lv_aload_n hC.1 hC.2.1 dX12_act_65 rfl (lv_at hl 0 rfl) ?_
        refine lv_iconst hC.1 hC.2.1 dX12_act_66 ci_0 ?_
        refine mw_put hC hM 0 (Nat.le_of_ble_eq_true rfl) (eR_0 V) inW12 tyX12 tyX12_ok nmX12 rfl 33 (by decide) q_1179 (fun _ h9 => h9) rfl (nar_b (Or.inl rfl)) (fit_b (Or.inl rfl)) (Nat.le_of_ble_eq_true rfl) rfl dX12_act_67 (fun H locs hM => ?_)
        refine lv_iload_n hC.1 hC.2.1 dX12_act_70 rfl (lv_at hl 2 rfl) ?_
        refine lv_if_ne (tgt := 82) hC.1 hC.2.1 dX12_act_71 (by decide) (fun hc25 => ?_) (fun hc25 => ?_)
        · have hf := o_f hc25 hf
          refine lv_iload_n hC.1 hC.2.1 dX12_act_82 rfl (lv_at hl 2 rfl) ?_
          refine lv_iconst hC.1 hC.2.1 dX12_act_83 ci_1 ?_
          refine lv_icmp_ne (tgt := 95) hC.1 hC.2.1 dX12_act_84 (by decide) (fun hc21 => ?_) (fun hc21 => ?_)
          · have hf := o_f hc21 hf
            refine lv_iload_n hC.1 hC.2.1 dX12_act_95 rfl (lv_at hl 2 rfl) ?_
            refine lv_iconst hC.1 hC.2.1 dX12_act_96 ci_2 ?_
            refine lv_icmp_ne (tgt := 108) hC.1 hC.2.1 dX12_act_97 (by decide) (fun hc17 => ?_) (fun hc17 => ?_)
            · have hf := o_f hc17 hf
              refine lv_aload_n hC.1 hC.2.1 dX12_act_108 rfl (lv_at hl 0 rfl) ?_
              refine lv_iload_n hC.1 hC.2.1 dX12_act_109 rfl (lv_at hl 3 rfl) ?_
              obtain ⟨r11, M13, hq12, hf⟩ := o_b2 hf
              refine mw_cVi (As := [.int p3]) (rest := []) hC hM (mcX12_tells V l (wr (wr (wr (wr (wr M 0 29 0) 0 31 ((wr M 0 29 0) 14 (Int32.toNatClampNeg p1))) 0 30 r7) 0 32 r9) 0 33 0) p3 r11 M13 hq12) (mw_kV hC q_1747 q_1749 q_104 q_120 q_1750 ⟨rfl, rfl⟩ kV_X12_tells ⟨Nat.le_of_ble_eq_true rfl, Nat.le_of_ble_eq_true rfl⟩) (Nat.le_of_ble_eq_true rfl) (eR_0 V) rfl rfl rfl (Nat.le_of_ble_eq_true rfl) hl.1 dX12_act_110 (fun H locs hM _ => ?_)
              exact hL113 _ _ _ _ _ hf hM (lv_sub hl [0] rfl)
            · have hf := o_t hc17 hf
              refine lv_aload_n hC.1 hC.2.1 dX12_act_100 rfl (lv_at hl 0 rfl) ?_
              refine lv_iload_n hC.1 hC.2.1 dX12_act_101 rfl (lv_at hl 3 rfl) ?_
              obtain ⟨r14, M16, hq15, hf⟩ := o_b2 hf
              refine mw_cVi (As := [.int p3]) (rest := []) hC hM (mcX12_shares V l (wr (wr (wr (wr (wr M 0 29 0) 0 31 ((wr M 0 29 0) 14 (Int32.toNatClampNeg p1))) 0 30 r7) 0 32 r9) 0 33 0) p3 r14 M16 hq15) (mw_kV hC q_1735 q_1737 q_101 q_120 q_1738 ⟨rfl, rfl⟩ kV_X12_shares ⟨Nat.le_of_ble_eq_true rfl, Nat.le_of_ble_eq_true rfl⟩) (Nat.le_of_ble_eq_true rfl) (eR_0 V) rfl rfl rfl (Nat.le_of_ble_eq_true rfl) hl.1 dX12_act_102 (fun H locs hM _ => ?_)
              refine lv_goto (tgt := 113) hC.1 hC.2.1 dX12_act_105 (by decide) ?_
              exact hL113 _ _ _ _ _ hf hM (lv_sub hl [0] rfl)
          · have hf := o_t hc21 hf
            refine lv_aload_n hC.1 hC.2.1 dX12_act_87 rfl (lv_at hl 0 rfl) ?_
            refine lv_iload_n hC.1 hC.2.1 dX12_act_88 rfl (lv_at hl 3 rfl) ?_
            obtain ⟨r18, M20, hq19, hf⟩ := o_b2 hf
            refine mw_cVi (As := [.int p3]) (rest := []) hC hM (mcX12_sways V l (wr (wr (wr (wr (wr M 0 29 0) 0 31 ((wr M 0 29 0) 14 (Int32.toNatClampNeg p1))) 0 30 r7) 0 32 r9) 0 33 0) p3 r18 M20 hq19) (mw_kV hC q_1727 q_1729 q_99 q_120 q_1730 ⟨rfl, rfl⟩ kV_X12_sways ⟨Nat.le_of_ble_eq_true rfl, Nat.le_of_ble_eq_true rfl⟩) (Nat.le_of_ble_eq_true rfl) (eR_0 V) rfl rfl rfl (Nat.le_of_ble_eq_true rfl) hl.1 dX12_act_89 (fun H locs hM _ => ?_)
            refine lv_goto (tgt := 113) hC.1 hC.2.1 dX12_act_92 (by decide) ?_
            exact hL113 _ _ _ _ _ hf hM (lv_sub hl [0] rfl)
        · have hf := o_t hc25 hf
          refine lv_aload_n hC.1 hC.2.1 dX12_act_74 rfl (lv_at hl 0 rfl) ?_
          refine lv_iload_n hC.1 hC.2.1 dX12_act_75 rfl (lv_at hl 3 rfl) ?_
          obtain ⟨r22, M24, hq23, hf⟩ := o_b2 hf
          refine mw_cVi (As := [.int p3]) (rest := []) hC hM (mcX12_wishes V l (wr (wr (wr (wr (wr M 0 29 0) 0 31 ((wr M 0 29 0) 14 (Int32.toNatClampNeg p1))) 0 30 r7) 0 32 r9) 0 33 0) p3 r22 M24 hq23) (mw_kV hC q_1719 q_1721 q_97 q_120 q_1722 ⟨rfl, rfl⟩ kV_X12_wishes ⟨Nat.le_of_ble_eq_true rfl, Nat.le_of_ble_eq_true rfl⟩) (Nat.le_of_ble_eq_true rfl) (eR_0 V) rfl rfl rfl (Nat.le_of_ble_eq_true rfl) hl.1 dX12_act_76 (fun H locs hM _ => ?_)
          refine lv_goto (tgt := 113) hC.1 hC.2.1 dX12_act_79 (by decide) ?_
          exact hL113 _ _ _ _ _ hf hM (lv_sub hl [0] rfl)
      · have hf := o_t hc26 hf
        refine lv_iconst hC.1 hC.2.1 dX12_act_27 ci_0 ?_
        exact hret (o_r1 hf) (o_r2 hf hM) dX12_act_28
set_option maxHeartbeats 4000000 in
set_option maxRecDepth 100000 in
theorem mcX12_trace (V : mV) (l : Launch) (M : mM) (p1 : Int32) (r : Int32) (hf : fX12_trace M p1 = some r) : IR V l yX12_trace cX12_trace 2 ({ frames := 1, cells := 0, slots := 0, locals := 25 } : Room) [.ref (mvA V 0), .int p1] M r M := by
  unfold fX12_trace at hf
  refine mw_enterI RX12 rfl (by decide +kernel) (Nat.le_of_ble_eq_true rfl) (fun {p e s m args below meth c} ls A Q hC hret hM hl => ?_)
  have hl : lv_has ls 2 [(0, .ref (mvA V 0)), (1, .int p1)] := hl
  refine lv_iload_n hC.1 hC.2.1 dX12_trace_0 rfl (lv_at hl 1 rfl) ?_
  refine lv_i2l (v := (Int32.toInt64 p1)) hC.1 hC.2.1 dX12_trace_1 rfl ?_
  refine lv_lconst (v := 0) hC.1 hC.2.1 dX12_trace_2 rfl ?_
  refine lv_aload_n hC.1 hC.2.1 dX12_trace_3 rfl (lv_at hl 0 rfl) ?_
  refine mw_get (v := .int (M 0 29)) hC hM 0 (Nat.le_of_ble_eq_true rfl) (eR_0 V) inW12 rfl 29 (by decide) q_1175 (fun _ h9 => h9) rfl dX12_trace_4 ?_
  refine lv_iconst hC.1 hC.2.1 dX12_trace_7 ci_1 ?_
  refine lv_isub hC.1 hC.2.1 dX12_trace_8 ?_
  refine lv_i2l (v := (Int32.toInt64 ((M 0 29) - 1))) hC.1 hC.2.1 dX12_trace_9 rfl ?_
  refine mw_cSi (As := [.long (Int32.toInt64 p1), .long 0, .long (Int32.toInt64 ((M 0 29) - 1))]) (rest := []) hC hM (mcX12_in V l M (Int32.toInt64 p1) 0 (Int32.toInt64 ((M 0 29) - 1)) _ rfl) (mw_kS hC q_1257 q_1258 q_120 q_1259 ⟨rfl, rfl⟩ kS_X12_in ⟨Nat.le_of_ble_eq_true rfl, Nat.le_of_ble_eq_true rfl⟩) rfl rfl (Nat.le_of_ble_eq_true rfl) hl.1 dX12_trace_10 (fun H locs hM hb1 => ?_)
  refine lv_if_eq (tgt := 25) hC.1 hC.2.1 dX12_trace_13 (by decide) (fun hc3 => ?_) (fun hc3 => ?_)
  · have hf := o_t hc3 hf
    refine lv_bipush hC.1 hC.2.1 dX12_trace_25 cb_m3 ?_
    exact hret (Option.some.inj hf) hM dX12_trace_27
  · have hf := o_f hc3 hf
    refine lv_aload_n hC.1 hC.2.1 dX12_trace_16 rfl (lv_at hl 0 rfl) ?_
    refine mw_get (v := .ref (mvA V 16)) hC hM 0 (Nat.le_of_ble_eq_true rfl) (eR_0 V) inW12 rfl 28 (by decide) q_1174 (fun _ h9 => h9) rfl dX12_trace_17 ?_
    refine lv_iload_n hC.1 hC.2.1 dX12_trace_20 rfl (lv_at hl 1 rfl) ?_
    obtain ⟨hg2, hf⟩ := o_g hf
    refine mw_iald hC hM 16 0 (Nat.le_of_ble_eq_true rfl) (eR_16 V) rfl hg2 dX12_trace_21 ?_
    refine lv_goto (tgt := 27) hC.1 hC.2.1 dX12_trace_22 (by decide) ?_
    exact hret (Option.some.inj hf) hM dX12_trace_27
set_option maxHeartbeats 4000000 in
set_option maxRecDepth 100000 in
theorem mcX12_many (V : mV) (l : Launch) (M : mM) (p1 : Int32) (r : Int32) (hf : fX12_many M p1 = some r) : IR V l yX12_many cX12_many 2 ({ frames := 0, cells := 0, slots := 0, locals := 0 } : Room) [.ref (mvA V 0), .int p1] M r M := by
  unfold fX12_many at hf
  refine mw_enterI RX12 rfl (by decide +kernel) (Nat.le_of_ble_eq_true rfl) (fun {p e s m args below meth c} ls A Q hC hret hM hl => ?_)
  have hl : lv_has ls 2 [(0, .ref (mvA V 0)), (1, .int p1)] := hl
  refine lv_iload_n hC.1 hC.2.1 dX12_many_0 rfl (lv_at hl 1 rfl) ?_
  by_cases hc2 : p1 = 0
  · have hf := o_t hc2 hf
    refine lv_tableIn (off := 43) (tgt := 44) hC.1 hC.2.1 dX12_many_1 (by rw [hc2]; decide) (by rw [hc2]; decide) (by rw [hc2]; rfl) (by decide) ?_
    refine lv_aload_n hC.1 hC.2.1 dX12_many_44 rfl (lv_at hl 0 rfl) ?_
    refine mw_get (v := .ref (mvA V 1)) hC hM 0 (Nat.le_of_ble_eq_true rfl) (eR_0 V) inW12 rfl 0 (by decide) q_1146 (fun _ h9 => h9) rfl dX12_many_45 ?_
    refine lv_iconst hC.1 hC.2.1 dX12_many_48 ci_0 ?_
    obtain ⟨hg1, hf⟩ := o_g hf
    refine mw_iald hC hM 1 0 (Nat.le_of_ble_eq_true rfl) (eR_1 V) rfl hg1 dX12_many_49 ?_
    exact hret (Option.some.inj hf) hM dX12_many_50
  have hf := o_f hc2 hf
  by_cases hc4 : p1 = 1
  · have hf := o_t hc4 hf
    refine lv_tableIn (off := 50) (tgt := 51) hC.1 hC.2.1 dX12_many_1 (by rw [hc4]; decide) (by rw [hc4]; decide) (by rw [hc4]; rfl) (by decide) ?_
    refine lv_aload_n hC.1 hC.2.1 dX12_many_51 rfl (lv_at hl 0 rfl) ?_
    refine mw_get (v := .ref (mvA V 1)) hC hM 0 (Nat.le_of_ble_eq_true rfl) (eR_0 V) inW12 rfl 0 (by decide) q_1146 (fun _ h9 => h9) rfl dX12_many_52 ?_
    refine lv_bipush hC.1 hC.2.1 dX12_many_55 cb_7 ?_
    obtain ⟨hg3, hf⟩ := o_g hf
    refine mw_iald hC hM 1 0 (Nat.le_of_ble_eq_true rfl) (eR_1 V) rfl hg3 dX12_many_57 ?_
    exact hret (Option.some.inj hf) hM dX12_many_58
  have hf := o_f hc4 hf
  by_cases hc6 : p1 = 2
  · have hf := o_t hc6 hf
    refine lv_tableIn (off := 58) (tgt := 59) hC.1 hC.2.1 dX12_many_1 (by rw [hc6]; decide) (by rw [hc6]; decide) (by rw [hc6]; rfl) (by decide) ?_
    refine lv_aload_n hC.1 hC.2.1 dX12_many_59 rfl (lv_at hl 0 rfl) ?_
    refine mw_get (v := .ref (mvA V 1)) hC hM 0 (Nat.le_of_ble_eq_true rfl) (eR_0 V) inW12 rfl 0 (by decide) q_1146 (fun _ h9 => h9) rfl dX12_many_60 ?_
    refine lv_iconst hC.1 hC.2.1 dX12_many_63 ci_2 ?_
    obtain ⟨hg5, hf⟩ := o_g hf
    refine mw_iald hC hM 1 0 (Nat.le_of_ble_eq_true rfl) (eR_1 V) rfl hg5 dX12_many_64 ?_
    exact hret (Option.some.inj hf) hM dX12_many_65
  have hf := o_f hc6 hf
  by_cases hc8 : p1 = 3
  · have hf := o_t hc8 hf
    refine lv_tableIn (off := 65) (tgt := 66) hC.1 hC.2.1 dX12_many_1 (by rw [hc8]; decide) (by rw [hc8]; decide) (by rw [hc8]; rfl) (by decide) ?_
    refine lv_aload_n hC.1 hC.2.1 dX12_many_66 rfl (lv_at hl 0 rfl) ?_
    refine mw_get (v := .ref (mvA V 1)) hC hM 0 (Nat.le_of_ble_eq_true rfl) (eR_0 V) inW12 rfl 0 (by decide) q_1146 (fun _ h9 => h9) rfl dX12_many_67 ?_
    refine lv_bipush hC.1 hC.2.1 dX12_many_70 cb_6 ?_
    obtain ⟨hg7, hf⟩ := o_g hf
    refine mw_iald hC hM 1 0 (Nat.le_of_ble_eq_true rfl) (eR_1 V) rfl hg7 dX12_many_72 ?_
    exact hret (Option.some.inj hf) hM dX12_many_73
  have hf := o_f hc8 hf
  by_cases hc9 : p1 = 4
  · have hf := o_t hc9 hf
    refine lv_tableIn (off := 73) (tgt := 74) hC.1 hC.2.1 dX12_many_1 (by rw [hc9]; decide) (by rw [hc9]; decide) (by rw [hc9]; rfl) (by decide) ?_
    refine lv_aload_n hC.1 hC.2.1 dX12_many_74 rfl (lv_at hl 0 rfl) ?_
    refine mw_get (v := .int (M 0 20)) hC hM 0 (Nat.le_of_ble_eq_true rfl) (eR_0 V) inW12 rfl 20 (by decide) q_1166 (fun _ h9 => h9) rfl dX12_many_75 ?_
    exact hret (Option.some.inj hf) hM dX12_many_78
  have hf := o_f hc9 hf
  by_cases hc10 : p1 = 5
  · have hf := o_t hc10 hf
    refine lv_tableIn (off := 78) (tgt := 79) hC.1 hC.2.1 dX12_many_1 (by rw [hc10]; decide) (by rw [hc10]; decide) (by rw [hc10]; rfl) (by decide) ?_
    refine lv_aload_n hC.1 hC.2.1 dX12_many_79 rfl (lv_at hl 0 rfl) ?_
    refine mw_get (v := .int (M 0 5)) hC hM 0 (Nat.le_of_ble_eq_true rfl) (eR_0 V) inW12 rfl 5 (by decide) q_1151 (fun _ h9 => h9) rfl dX12_many_80 ?_
    exact hret (Option.some.inj hf) hM dX12_many_83
  have hf := o_f hc10 hf
  by_cases hc11 : p1 = 6
  · have hf := o_t hc11 hf
    refine lv_tableIn (off := 83) (tgt := 84) hC.1 hC.2.1 dX12_many_1 (by rw [hc11]; decide) (by rw [hc11]; decide) (by rw [hc11]; rfl) (by decide) ?_
    refine lv_aload_n hC.1 hC.2.1 dX12_many_84 rfl (lv_at hl 0 rfl) ?_
    refine mw_get (v := .int (M 0 29)) hC hM 0 (Nat.le_of_ble_eq_true rfl) (eR_0 V) inW12 rfl 29 (by decide) q_1175 (fun _ h9 => h9) rfl dX12_many_85 ?_
    exact hret (Option.some.inj hf) hM dX12_many_88
  have hf := o_f hc11 hf
  have hc2 := sw_ne (k := 0) (v := 0) rfl hc2
  have hc4 := sw_ne (k := 1) (v := 1) rfl hc4
  have hc6 := sw_ne (k := 2) (v := 2) rfl hc6
  have hc8 := sw_ne (k := 3) (v := 3) rfl hc8
  have hc9 := sw_ne (k := 4) (v := 4) rfl hc9
  have hc10 := sw_ne (k := 5) (v := 5) rfl hc10
  have hc11 := sw_ne (k := 6) (v := 6) rfl hc11
  refine lv_tableOut (tgt := 89) hC.1 hC.2.1 dX12_many_1 (by omega) (by decide) ?_
  refine lv_iconst hC.1 hC.2.1 dX12_many_89 ci_m1 ?_
  exact hret (Option.some.inj hf) hM dX12_many_90
set_option maxHeartbeats 4000000 in
set_option maxRecDepth 100000 in
theorem mcX12_become_q1_q2 (V : mV) (l : Launch) (M : mM) (r : Int32) (M' : mM) (hf : fX12_become_q1_q2 M = some (r, M')) : UR V l yX12_become cX12_become 3 ({ frames := 0, cells := 0, slots := 0, locals := 0 } : Room) [.ref (mvA V 1), .ref (mvA V 2)] M M' := by
  unfold fX12_become_q1_q2 at hf
  refine mw_enterV RX12 rfl (by decide +kernel) (Nat.le_of_ble_eq_true rfl) (fun {p e s m args below meth c} ls A Q hC hret hM hl => ?_)
  have hl : lv_has ls 3 [(0, .ref (mvA V 1)), (1, .ref (mvA V 2))] := hl
  have hL2 : ∀ (n : Nat) (M : mM) (x2 : Int32) (H : Heap) (locs : List Loc) (ls : Array Slot), fX12_become_q1_q2_L2 n M x2 = some (r, M') → PR V M A s H locs → lv_has ls 3 [(0, .ref (mvA V 1)), (1, .ref (mvA V 2)), (2, .int x2)] → W p l e ({ frames := 0, cells := 0, slots := 0, locals := 0 } : Room) s m args below meth c H locs 0 0 Q (F0 m 2 ls []) := by
    intro n2
    induction n2 with
    | zero => intro M x2 H locs ls hf; cases hf
    | succ n2 ih2 =>
      intro M x2 H locs ls hf hM hl
      have hf : fX12_become_q1_q2_L2_b (fX12_become_q1_q2_L2 n2) M x2 = some (r, M') := hf
      unfold fX12_become_q1_q2_L2_b at hf
      refine lv_iload_n hC.1 hC.2.1 dX12_become_2 rfl (lv_at hl 2 rfl) ?_
      refine lv_sipush hC.1 hC.2.1 dX12_become_3 cs_295 ?_
      refine lv_icmp_ge (tgt := 21) hC.1 hC.2.1 dX12_become_6 (by decide) (fun hc3 => ?_) (fun hc3 => ?_)
      · have hf := o_t hc3 hf
        exact hret (o_r2 hf hM) dX12_become_21
      · have hf := o_f hc3 hf
        refine lv_aload_n hC.1 hC.2.1 dX12_become_9 rfl (lv_at hl 1 rfl) ?_
        refine lv_iload_n hC.1 hC.2.1 dX12_become_10 rfl (lv_at hl 2 rfl) ?_
        refine lv_aload_n hC.1 hC.2.1 dX12_become_11 rfl (lv_at hl 0 rfl) ?_
        refine lv_iload_n hC.1 hC.2.1 dX12_become_12 rfl (lv_at hl 2 rfl) ?_
        obtain ⟨hg1, hf⟩ := o_g hf
        refine mw_iald hC hM 1 0 (Nat.le_of_ble_eq_true rfl) (eR_1 V) rfl hg1 dX12_become_13 ?_
        obtain ⟨hg2, hf⟩ := o_g hf
        refine mw_iast hC hM 2 0 (Nat.le_of_ble_eq_true rfl) (eR_2 V) rfl hg2 dX12_become_14 (fun H locs hM => ?_)
        refine lv_iinc (k := 2) (lv' := [(2, .int (x2 + 1)), (0, .ref (mvA V 1)), (1, .ref (mvA V 2))]) hC.1 hC.2.1 dX12_become_15 hl rfl (inc_1 _) (Nat.le_of_ble_eq_true rfl) rfl (fun ls hl => ?_)
        refine lv_goto (tgt := 2) hC.1 hC.2.1 dX12_become_18 (by decide) ?_
        exact ih2 _ _ _ _ _ hf hM (lv_sub hl [1, 2, 0] rfl)
  refine lv_iconst hC.1 hC.2.1 dX12_become_0 ci_0 ?_
  refine lv_istore_n (lv' := [(2, .int 0), (0, .ref (mvA V 1)), (1, .ref (mvA V 2))]) hC.1 hC.2.1 dX12_become_1 rfl hl (Nat.le_of_ble_eq_true rfl) rfl (fun ls hl => ?_)
  exact hL2 _ _ _ _ _ _ hf hM (lv_sub hl [1, 2, 0] rfl)
set_option maxHeartbeats 4000000 in
set_option maxRecDepth 100000 in
theorem mcX12_keep (V : mV) (l : Launch) (M : mM) (r : Int32) (M' : mM) (hf : fX12_keep M = some (r, M')) : IR V l yX12_keep cX12_keep 1 ({ frames := 1, cells := 0, slots := 0, locals := 22 } : Room) [.ref (mvA V 0)] M r M' := by
  unfold fX12_keep at hf
  refine mw_enterI RX12 rfl (by decide +kernel) (Nat.le_of_ble_eq_true rfl) (fun {p e s m args below meth c} ls A Q hC hret hM hl => ?_)
  have hl : lv_has ls 1 [(0, .ref (mvA V 0))] := hl
  refine lv_aload_n hC.1 hC.2.1 dX12_keep_0 rfl (lv_at hl 0 rfl) ?_
  refine mw_get (v := .ref (mvA V 1)) hC hM 0 (Nat.le_of_ble_eq_true rfl) (eR_0 V) inW12 rfl 0 (by decide) q_1146 (fun _ h9 => h9) rfl dX12_keep_1 ?_
  refine lv_aload_n hC.1 hC.2.1 dX12_keep_4 rfl (lv_at hl 0 rfl) ?_
  refine mw_get (v := .ref (mvA V 2)) hC hM 0 (Nat.le_of_ble_eq_true rfl) (eR_0 V) inW12 rfl 1 (by decide) q_1147 (fun _ h9 => h9) rfl dX12_keep_5 ?_
  obtain ⟨r1, M3, hq2, hf⟩ := o_b2 hf
  refine mw_cSv (As := [.ref (mvA V 1), .ref (mvA V 2)]) (rest := []) hC hM (mcX12_become_q1_q2 V l M r1 M3 hq2) (mw_kS hC q_1767 q_1768 q_120 q_1769 ⟨rfl, rfl⟩ kS_X12_become ⟨Nat.le_of_ble_eq_true rfl, Nat.le_of_ble_eq_true rfl⟩) rfl rfl (Nat.le_of_ble_eq_true rfl) hl.1 dX12_keep_8 (fun H locs hM => ?_)
  refine lv_aload_n hC.1 hC.2.1 dX12_keep_11 rfl (lv_at hl 0 rfl) ?_
  refine lv_iconst hC.1 hC.2.1 dX12_keep_12 ci_1 ?_
  refine mw_put hC hM 0 (Nat.le_of_ble_eq_true rfl) (eR_0 V) inW12 tyX12 tyX12_ok nmX12 rfl 2 (by decide) q_1148 (fun _ h9 => h9) rfl (nar_b (Or.inr rfl)) (fit_b (Or.inr rfl)) (Nat.le_of_ble_eq_true rfl) rfl dX12_keep_13 (fun H locs hM => ?_)
  refine lv_iconst hC.1 hC.2.1 dX12_keep_16 ci_1 ?_
  exact hret (o_r1 hf) (o_r2 hf hM) dX12_keep_17
set_option maxHeartbeats 4000000 in
set_option maxRecDepth 100000 in
theorem mcX12_become_q2_q1 (V : mV) (l : Launch) (M : mM) (r : Int32) (M' : mM) (hf : fX12_become_q2_q1 M = some (r, M')) : UR V l yX12_become cX12_become 3 ({ frames := 0, cells := 0, slots := 0, locals := 0 } : Room) [.ref (mvA V 2), .ref (mvA V 1)] M M' := by
  unfold fX12_become_q2_q1 at hf
  refine mw_enterV RX12 rfl (by decide +kernel) (Nat.le_of_ble_eq_true rfl) (fun {p e s m args below meth c} ls A Q hC hret hM hl => ?_)
  have hl : lv_has ls 3 [(0, .ref (mvA V 2)), (1, .ref (mvA V 1))] := hl
  have hL2 : ∀ (n : Nat) (M : mM) (x2 : Int32) (H : Heap) (locs : List Loc) (ls : Array Slot), fX12_become_q2_q1_L2 n M x2 = some (r, M') → PR V M A s H locs → lv_has ls 3 [(0, .ref (mvA V 2)), (1, .ref (mvA V 1)), (2, .int x2)] → W p l e ({ frames := 0, cells := 0, slots := 0, locals := 0 } : Room) s m args below meth c H locs 0 0 Q (F0 m 2 ls []) := by
    intro n2
    induction n2 with
    | zero => intro M x2 H locs ls hf; cases hf
    | succ n2 ih2 =>
      intro M x2 H locs ls hf hM hl
      have hf : fX12_become_q2_q1_L2_b (fX12_become_q2_q1_L2 n2) M x2 = some (r, M') := hf
      unfold fX12_become_q2_q1_L2_b at hf
      refine lv_iload_n hC.1 hC.2.1 dX12_become_2 rfl (lv_at hl 2 rfl) ?_
      refine lv_sipush hC.1 hC.2.1 dX12_become_3 cs_295 ?_
      refine lv_icmp_ge (tgt := 21) hC.1 hC.2.1 dX12_become_6 (by decide) (fun hc3 => ?_) (fun hc3 => ?_)
      · have hf := o_t hc3 hf
        exact hret (o_r2 hf hM) dX12_become_21
      · have hf := o_f hc3 hf
        refine lv_aload_n hC.1 hC.2.1 dX12_become_9 rfl (lv_at hl 1 rfl) ?_
        refine lv_iload_n hC.1 hC.2.1 dX12_become_10 rfl (lv_at hl 2 rfl) ?_
        refine lv_aload_n hC.1 hC.2.1 dX12_become_11 rfl (lv_at hl 0 rfl) ?_
        refine lv_iload_n hC.1 hC.2.1 dX12_become_12 rfl (lv_at hl 2 rfl) ?_
        obtain ⟨hg1, hf⟩ := o_g hf
        refine mw_iald hC hM 2 0 (Nat.le_of_ble_eq_true rfl) (eR_2 V) rfl hg1 dX12_become_13 ?_
        obtain ⟨hg2, hf⟩ := o_g hf
        refine mw_iast hC hM 1 0 (Nat.le_of_ble_eq_true rfl) (eR_1 V) rfl hg2 dX12_become_14 (fun H locs hM => ?_)
        refine lv_iinc (k := 2) (lv' := [(2, .int (x2 + 1)), (0, .ref (mvA V 2)), (1, .ref (mvA V 1))]) hC.1 hC.2.1 dX12_become_15 hl rfl (inc_1 _) (Nat.le_of_ble_eq_true rfl) rfl (fun ls hl => ?_)
        refine lv_goto (tgt := 2) hC.1 hC.2.1 dX12_become_18 (by decide) ?_
        exact ih2 _ _ _ _ _ hf hM (lv_sub hl [1, 2, 0] rfl)
  refine lv_iconst hC.1 hC.2.1 dX12_become_0 ci_0 ?_
  refine lv_istore_n (lv' := [(2, .int 0), (0, .ref (mvA V 2)), (1, .ref (mvA V 1))]) hC.1 hC.2.1 dX12_become_1 rfl hl (Nat.le_of_ble_eq_true rfl) rfl (fun ls hl => ?_)
  exact hL2 _ _ _ _ _ _ hf hM (lv_sub hl [1, 2, 0] rfl)
set_option maxHeartbeats 4000000 in
set_option maxRecDepth 100000 in
theorem mcX12_again (V : mV) (l : Launch) (M : mM) (r : Int32) (M' : mM) (hf : fX12_again M = some (r, M')) : IR V l yX12_again cX12_again 1 ({ frames := 1, cells := 0, slots := 0, locals := 22 } : Room) [.ref (mvA V 0)] M r M' := by
  unfold fX12_again at hf
  refine mw_enterI RX12 rfl (by decide +kernel) (Nat.le_of_ble_eq_true rfl) (fun {p e s m args below meth c} ls A Q hC hret hM hl => ?_)
  have hl : lv_has ls 1 [(0, .ref (mvA V 0))] := hl
  refine lv_aload_n hC.1 hC.2.1 dX12_again_0 rfl (lv_at hl 0 rfl) ?_
  refine mw_get (v := .int (M 0 2)) hC hM 0 (Nat.le_of_ble_eq_true rfl) (eR_0 V) inW12 rfl 2 (by decide) q_1148 (fun _ h9 => h9) rfl dX12_again_1 ?_
  refine lv_if_ne (tgt := 10) hC.1 hC.2.1 dX12_again_4 (by decide) (fun hc5 => ?_) (fun hc5 => ?_)
  · have hf := o_f hc5 hf
    refine lv_aload_n hC.1 hC.2.1 dX12_again_10 rfl (lv_at hl 0 rfl) ?_
    refine mw_get (v := .ref (mvA V 2)) hC hM 0 (Nat.le_of_ble_eq_true rfl) (eR_0 V) inW12 rfl 1 (by decide) q_1147 (fun _ h9 => h9) rfl dX12_again_11 ?_
    refine lv_aload_n hC.1 hC.2.1 dX12_again_14 rfl (lv_at hl 0 rfl) ?_
    refine mw_get (v := .ref (mvA V 1)) hC hM 0 (Nat.le_of_ble_eq_true rfl) (eR_0 V) inW12 rfl 0 (by decide) q_1146 (fun _ h9 => h9) rfl dX12_again_15 ?_
    obtain ⟨r1, M3, hq2, hf⟩ := o_b2 hf
    refine mw_cSv (As := [.ref (mvA V 2), .ref (mvA V 1)]) (rest := []) hC hM (mcX12_become_q2_q1 V l M r1 M3 hq2) (mw_kS hC q_1767 q_1768 q_120 q_1769 ⟨rfl, rfl⟩ kS_X12_become ⟨Nat.le_of_ble_eq_true rfl, Nat.le_of_ble_eq_true rfl⟩) rfl rfl (Nat.le_of_ble_eq_true rfl) hl.1 dX12_again_18 (fun H locs hM => ?_)
    refine lv_aload_n hC.1 hC.2.1 dX12_again_21 rfl (lv_at hl 0 rfl) ?_
    refine mw_get (v := .ref (mvA V 1)) hC hM 0 (Nat.le_of_ble_eq_true rfl) (eR_0 V) inW12 rfl 0 (by decide) q_1146 (fun _ h9 => h9) rfl dX12_again_22 ?_
    refine lv_iconst hC.1 hC.2.1 dX12_again_25 ci_0 ?_
    obtain ⟨hg4, hf⟩ := o_g hf
    refine mw_iald hC hM 1 0 (Nat.le_of_ble_eq_true rfl) (eR_1 V) rfl hg4 dX12_again_26 ?_
    exact hret (o_r1 hf) (o_r2 hf hM) dX12_again_27
  · have hf := o_t hc5 hf
    refine lv_bipush hC.1 hC.2.1 dX12_again_7 cb_m3 ?_
    exact hret (o_r1 hf) (o_r2 hf hM) dX12_again_9
