set_option maxHeartbeats 4000000 in
set_option maxRecDepth 100000 in
theorem mcX12_power (V : mV) (l : Launch) (M : mM) (p1 : Int32) (r : Int32) (M' : mM) (hf : fX12_power M p1 = some (r, M')) : IR V l yX12_power cX12_power 7 ({ frames := 6, cells := 0, slots := 0, locals := 139 } : Room) [.ref (mvA V 0), .int p1] M r M' := by
  unfold fX12_power at hf
  refine mw_enterI RX12 rfl (by decide +kernel) (Nat.le_of_ble_eq_true rfl) (fun {p e s m args below meth c} ls A Q hC hret hM hl => ?_)
  have hl : lv_has ls 7 [(0, .ref (mvA V 0)), (1, .int p1)] := hl
  have hL26 : ∀ (n : Nat) (M : mM) (x1 : Int32) (x2 : Int32) (x3 : Int32) (x4 : Int32) (H : Heap) (locs : List Loc) (ls : Array Slot), fX12_power_L26 n M x1 x2 x3 x4 = some (r, M') → PR V M A s H locs → lv_has ls 7 [(0, .ref (mvA V 0)), (1, .int x1), (2, .int x2), (3, .int x3), (4, .int x4)] → W p l e ({ frames := 6, cells := 0, slots := 0, locals := 139 } : Room) s m args below meth c H locs 0 0 Q (F0 m 26 ls []) := by
    intro n19
    induction n19 with
    | zero => intro M x1 x2 x3 x4 H locs ls hf; cases hf
    | succ n19 ih19 =>
      intro M x1 x2 x3 x4 H locs ls hf hM hl
      have hf : fX12_power_L26_b (fX12_power_L26 n19) M x1 x2 x3 x4 = some (r, M') := hf
      unfold fX12_power_L26_b at hf
      have hL130 : ∀ (M : mM) (x1 : Int32) (x2 : Int32) (x3 : Int32) (x4 : Int32) (t0 : Int32) (H : Heap) (locs : List Loc) (ls : Array Slot), fX12_power_L130 (fX12_power_L26 n19) M x1 x2 x3 x4 t0 = some (r, M') → PR V M A s H locs → lv_has ls 7 [(0, .ref (mvA V 0)), (1, .int x1), (2, .int x2), (3, .int x3), (4, .int x4)] → W p l e ({ frames := 6, cells := 0, slots := 0, locals := 139 } : Room) s m args below meth c H locs 0 0 Q (F0 m 130 ls [.int t0]) := by
        intro M x1 x2 x3 x4 t0 H locs ls hf hM hl
        unfold fX12_power_L130 at hf
        refine lv_istore (lv' := [(6, .int t0), (0, .ref (mvA V 0)), (1, .int x1), (2, .int x2), (3, .int x3), (4, .int x4)]) hC.1 hC.2.1 dX12_power_130 hl (Nat.le_of_ble_eq_true rfl) rfl (fun ls hl => ?_)
        refine lv_iload_n hC.1 hC.2.1 dX12_power_132 rfl (lv_at hl 4 rfl) ?_
        refine lv_iload hC.1 hC.2.1 dX12_power_133 (lv_at hl 5 rfl) ?_
        refine lv_iload_n hC.1 hC.2.1 dX12_power_135 rfl (lv_at hl 3 rfl) ?_
        refine lv_iconst hC.1 hC.2.1 dX12_power_136 ci_m1 ?_
        refine lv_ixor hC.1 hC.2.1 dX12_power_137 ?_
        refine lv_iand hC.1 hC.2.1 dX12_power_138 ?_
        refine lv_if_ne (tgt := 151) hC.1 hC.2.1 dX12_power_139 (by decide) (fun hc30 => ?_) (fun hc30 => ?_)
        · have hf := o_f hc30 hf
          refine lv_iconst hC.1 hC.2.1 dX12_power_151 ci_0 ?_
          refine lv_iadd hC.1 hC.2.1 dX12_power_152 ?_
          refine lv_istore_n (lv' := [(3, .int (x3 + 0)), (6, .int t0), (0, .ref (mvA V 0)), (1, .int x1), (2, .int x2), (4, .int x4)]) hC.1 hC.2.1 dX12_power_153 rfl hl (Nat.le_of_ble_eq_true rfl) rfl (fun ls hl => ?_)
          refine lv_iinc (k := 5) (lv' := [(4, .int (x4 + 1)), (3, .int (x3 + 0)), (6, .int t0), (0, .ref (mvA V 0)), (1, .int x1), (2, .int x2)]) hC.1 hC.2.1 dX12_power_154 hl rfl (inc_1 _) (Nat.le_of_ble_eq_true rfl) rfl (fun ls hl => ?_)
          refine lv_goto (tgt := 26) hC.1 hC.2.1 dX12_power_157 (by decide) ?_
          exact ih19 _ _ _ _ _ _ _ _ hf hM (lv_sub hl [3, 4, 5, 1, 0] rfl)
        · have hf := o_t hc30 hf
          refine lv_iload hC.1 hC.2.1 dX12_power_142 (lv_at hl 0 rfl) ?_
          refine lv_if_eq (tgt := 151) hC.1 hC.2.1 dX12_power_144 (by decide) (fun hc29 => ?_) (fun hc29 => ?_)
          · have hf := o_t hc29 hf
            refine lv_iconst hC.1 hC.2.1 dX12_power_151 ci_0 ?_
            refine lv_iadd hC.1 hC.2.1 dX12_power_152 ?_
            refine lv_istore_n (lv' := [(3, .int (x3 + 0)), (6, .int t0), (0, .ref (mvA V 0)), (1, .int x1), (2, .int x2), (4, .int x4)]) hC.1 hC.2.1 dX12_power_153 rfl hl (Nat.le_of_ble_eq_true rfl) rfl (fun ls hl => ?_)
            refine lv_iinc (k := 5) (lv' := [(4, .int (x4 + 1)), (3, .int (x3 + 0)), (6, .int t0), (0, .ref (mvA V 0)), (1, .int x1), (2, .int x2)]) hC.1 hC.2.1 dX12_power_154 hl rfl (inc_1 _) (Nat.le_of_ble_eq_true rfl) rfl (fun ls hl => ?_)
            refine lv_goto (tgt := 26) hC.1 hC.2.1 dX12_power_157 (by decide) ?_
            exact ih19 _ _ _ _ _ _ _ _ hf hM (lv_sub hl [3, 4, 5, 1, 0] rfl)
          · have hf := o_f hc29 hf
            refine lv_iconst hC.1 hC.2.1 dX12_power_147 ci_1 ?_
            refine lv_goto (tgt := 152) hC.1 hC.2.1 dX12_power_148 (by decide) ?_
            refine lv_iadd hC.1 hC.2.1 dX12_power_152 ?_
            refine lv_istore_n (lv' := [(3, .int (x3 + 1)), (6, .int t0), (0, .ref (mvA V 0)), (1, .int x1), (2, .int x2), (4, .int x4)]) hC.1 hC.2.1 dX12_power_153 rfl hl (Nat.le_of_ble_eq_true rfl) rfl (fun ls hl => ?_)
            refine lv_iinc (k := 5) (lv' := [(4, .int (x4 + 1)), (3, .int (x3 + 1)), (6, .int t0), (0, .ref (mvA V 0)), (1, .int x1), (2, .int x2)]) hC.1 hC.2.1 dX12_power_154 hl rfl (inc_1 _) (Nat.le_of_ble_eq_true rfl) rfl (fun ls hl => ?_)
            refine lv_goto (tgt := 26) hC.1 hC.2.1 dX12_power_157 (by decide) ?_
            exact ih19 _ _ _ _ _ _ _ _ hf hM (lv_sub hl [3, 4, 5, 1, 0] rfl)
      have hL48 : ∀ (n : Nat) (M : mM) (x1 : Int32) (x2 : Int32) (x3 : Int32) (x4 : Int32) (x5 : Int32) (x6 : Int32) (H : Heap) (locs : List Loc) (ls : Array Slot), fX12_power_L48 (fX12_power_L26 n19) n M x1 x2 x3 x4 x5 x6 = some (r, M') → PR V M A s H locs → lv_has ls 7 [(0, .ref (mvA V 0)), (1, .int x1), (2, .int x2), (3, .int x3), (4, .int x4), (5, .int x5), (6, .int x6)] → W p l e ({ frames := 6, cells := 0, slots := 0, locals := 139 } : Room) s m args below meth c H locs 0 0 Q (F0 m 48 ls []) := by
        intro n32
        induction n32 with
        | zero => intro M x1 x2 x3 x4 x5 x6 H locs ls hf; cases hf
        | succ n32 ih32 =>
          intro M x1 x2 x3 x4 x5 x6 H locs ls hf hM hl
          have hf : fX12_power_L48_b (fX12_power_L26 n19) (fX12_power_L48 (fX12_power_L26 n19) n32) M x1 x2 x3 x4 x5 x6 = some (r, M') := hf
          unfold fX12_power_L48_b at hf
          refine lv_iload hC.1 hC.2.1 dX12_power_48 (lv_at hl 6 rfl) ?_
          refine lv_aload_n hC.1 hC.2.1 dX12_power_50 rfl (lv_at hl 0 rfl) ?_
          refine mw_get (v := .ref (mvA V 1)) hC hM 0 (Nat.le_of_ble_eq_true rfl) (eR_0 V) inW12 rfl 0 (by decide) q_1146 (fun _ h9 => h9) rfl dX12_power_51 ?_
          refine lv_iconst hC.1 hC.2.1 dX12_power_54 ci_0 ?_
          obtain ⟨hg11, hf⟩ := o_g hf
          refine mw_iald hC hM 1 0 (Nat.le_of_ble_eq_true rfl) (eR_1 V) rfl hg11 dX12_power_55 ?_
          refine lv_icmp_ge (tgt := 98) hC.1 hC.2.1 dX12_power_56 (by decide) (fun hc28 => ?_) (fun hc28 => ?_)
          · have hf := o_t hc28 hf
            refine lv_aload_n hC.1 hC.2.1 dX12_power_98 rfl (lv_at hl 0 rfl) ?_
            refine lv_iload hC.1 hC.2.1 dX12_power_99 (lv_at hl 5 rfl) ?_
            obtain ⟨r12, hq13, hf⟩ := o_b hf
            refine mw_cVi (As := [.int x5]) (rest := []) hC hM (mcX12_moveBy V l M x5 r12 hq13) (mw_kV hC q_1472 q_1474 q_74 q_120 q_1475 ⟨rfl, rfl⟩ kV_X12_moveBy ⟨Nat.le_of_ble_eq_true rfl, Nat.le_of_ble_eq_true rfl⟩) (Nat.le_of_ble_eq_true rfl) (eR_0 V) rfl rfl rfl (Nat.le_of_ble_eq_true rfl) hl.1 dX12_power_101 (fun H locs hM _ => ?_)
            refine lv_aload_n hC.1 hC.2.1 dX12_power_104 rfl (lv_at hl 0 rfl) ?_
            refine lv_iload hC.1 hC.2.1 dX12_power_105 (lv_at hl 5 rfl) ?_
            refine lv_aload_n hC.1 hC.2.1 dX12_power_107 rfl (lv_at hl 0 rfl) ?_
            refine lv_iload_n hC.1 hC.2.1 dX12_power_108 rfl (lv_at hl 1 rfl) ?_
            obtain ⟨r14, hq15, hf⟩ := o_b hf
            refine mw_cVi (As := [.int x1]) (rest := [.int x5, .ref (mvA V 0), .int r12]) hC hM (mcX12_voteOf V l M x1 r14 hq15) (mw_kV hC q_1286 q_1288 q_47 q_120 q_1289 ⟨rfl, rfl⟩ kV_X12_voteOf ⟨Nat.le_of_ble_eq_true rfl, Nat.le_of_ble_eq_true rfl⟩) (Nat.le_of_ble_eq_true rfl) (eR_0 V) rfl rfl rfl (Nat.le_of_ble_eq_true rfl) hl.1 dX12_power_109 (fun H locs hM _ => ?_)
            refine lv_aload_n hC.1 hC.2.1 dX12_power_112 rfl (lv_at hl 0 rfl) ?_
            refine lv_iload_n hC.1 hC.2.1 dX12_power_113 rfl (lv_at hl 1 rfl) ?_
            obtain ⟨r16, M18, hq17, hf⟩ := o_b2 hf
            refine mw_cVi (As := [.int x1]) (rest := [.int r14, .int x5, .ref (mvA V 0), .int r12]) hC hM (mcX12_powerOf V l M x1 r16 M18 hq17) (mw_kV hC q_1293 q_1295 q_48 q_120 q_1296 ⟨rfl, rfl⟩ kV_X12_powerOf ⟨Nat.le_of_ble_eq_true rfl, Nat.le_of_ble_eq_true rfl⟩) (Nat.le_of_ble_eq_true rfl) (eR_0 V) rfl rfl rfl (Nat.le_of_ble_eq_true rfl) hl.1 dX12_power_114 (fun H locs hM _ => ?_)
            refine lv_imul hC.1 hC.2.1 dX12_power_117 ?_
            refine lv_iadd hC.1 hC.2.1 dX12_power_118 ?_
            obtain ⟨r19, hq20, hf⟩ := o_b hf
            refine mw_cVi (As := [.int (x5 + (r14 * r16))]) (rest := [.int r12]) hC hM (mcX12_moveBy V l M18 (x5 + (r14 * r16)) r19 hq20) (mw_kV hC q_1472 q_1474 q_74 q_120 q_1475 ⟨rfl, rfl⟩ kV_X12_moveBy ⟨Nat.le_of_ble_eq_true rfl, Nat.le_of_ble_eq_true rfl⟩) (Nat.le_of_ble_eq_true rfl) (eR_0 V) rfl rfl rfl (Nat.le_of_ble_eq_true rfl) hl.1 dX12_power_119 (fun H locs hM _ => ?_)
            refine lv_icmp_eq (tgt := 129) hC.1 hC.2.1 dX12_power_122 (by decide) (fun hc21 => ?_) (fun hc21 => ?_)
            · have hf := o_t hc21 hf
              refine lv_iconst hC.1 hC.2.1 dX12_power_129 ci_0 ?_
              exact hL130 _ _ _ _ _ _ _ _ _ hf hM (lv_sub hl [0, 1, 2, 3, 4] rfl)
            · have hf := o_f hc21 hf
              refine lv_iconst hC.1 hC.2.1 dX12_power_125 ci_1 ?_
              refine lv_goto (tgt := 130) hC.1 hC.2.1 dX12_power_126 (by decide) ?_
              exact hL130 _ _ _ _ _ _ _ _ _ hf hM (lv_sub hl [0, 1, 2, 3, 4] rfl)
          · have hf := o_f hc28 hf
            refine lv_iload hC.1 hC.2.1 dX12_power_59 (lv_at hl 5 rfl) ?_
            refine lv_iload hC.1 hC.2.1 dX12_power_61 (lv_at hl 4 rfl) ?_
            refine lv_iload hC.1 hC.2.1 dX12_power_63 (lv_at hl 6 rfl) ?_
            refine lv_ishr hC.1 hC.2.1 dX12_power_65 ?_
            refine lv_iconst hC.1 hC.2.1 dX12_power_66 ci_1 ?_
            refine lv_iand hC.1 hC.2.1 dX12_power_67 ?_
            refine lv_iconst hC.1 hC.2.1 dX12_power_68 ci_1 ?_
            refine lv_icmp_ne (tgt := 88) hC.1 hC.2.1 dX12_power_69 (by decide) (fun hc27 => ?_) (fun hc27 => ?_)
            · have hf := o_f hc27 hf
              refine lv_iconst hC.1 hC.2.1 dX12_power_88 ci_0 ?_
              refine lv_iadd hC.1 hC.2.1 dX12_power_89 ?_
              refine lv_istore (lv' := [(5, .int (x5 + 0)), (0, .ref (mvA V 0)), (1, .int x1), (2, .int x2), (3, .int x3), (4, .int x4), (6, .int x6)]) hC.1 hC.2.1 dX12_power_90 hl (Nat.le_of_ble_eq_true rfl) rfl (fun ls hl => ?_)
              refine lv_iinc (k := 6) (lv' := [(6, .int (x6 + 1)), (5, .int (x5 + 0)), (0, .ref (mvA V 0)), (1, .int x1), (2, .int x2), (3, .int x3), (4, .int x4)]) hC.1 hC.2.1 dX12_power_92 hl rfl (inc_1 _) (Nat.le_of_ble_eq_true rfl) rfl (fun ls hl => ?_)
              refine lv_goto (tgt := 48) hC.1 hC.2.1 dX12_power_95 (by decide) ?_
              exact ih32 _ _ _ _ _ _ _ _ _ _ hf hM (lv_sub hl [2, 3, 4, 5, 6, 1, 0] rfl)
            · have hf := o_t hc27 hf
              refine lv_aload_n hC.1 hC.2.1 dX12_power_72 rfl (lv_at hl 0 rfl) ?_
              refine lv_iload hC.1 hC.2.1 dX12_power_73 (lv_at hl 6 rfl) ?_
              obtain ⟨r22, hq23, hf⟩ := o_b hf
              refine mw_cVi (As := [.int x6]) (rest := [.int x5]) hC hM (mcX12_voteOf V l M x6 r22 hq23) (mw_kV hC q_1286 q_1288 q_47 q_120 q_1289 ⟨rfl, rfl⟩ kV_X12_voteOf ⟨Nat.le_of_ble_eq_true rfl, Nat.le_of_ble_eq_true rfl⟩) (Nat.le_of_ble_eq_true rfl) (eR_0 V) rfl rfl rfl (Nat.le_of_ble_eq_true rfl) hl.1 dX12_power_75 (fun H locs hM _ => ?_)
              refine lv_aload_n hC.1 hC.2.1 dX12_power_78 rfl (lv_at hl 0 rfl) ?_
              refine lv_iload hC.1 hC.2.1 dX12_power_79 (lv_at hl 6 rfl) ?_
              obtain ⟨r24, M26, hq25, hf⟩ := o_b2 hf
              refine mw_cVi (As := [.int x6]) (rest := [.int r22, .int x5]) hC hM (mcX12_powerOf V l M x6 r24 M26 hq25) (mw_kV hC q_1293 q_1295 q_48 q_120 q_1296 ⟨rfl, rfl⟩ kV_X12_powerOf ⟨Nat.le_of_ble_eq_true rfl, Nat.le_of_ble_eq_true rfl⟩) (Nat.le_of_ble_eq_true rfl) (eR_0 V) rfl rfl rfl (Nat.le_of_ble_eq_true rfl) hl.1 dX12_power_81 (fun H locs hM _ => ?_)
              refine lv_imul hC.1 hC.2.1 dX12_power_84 ?_
              refine lv_goto (tgt := 89) hC.1 hC.2.1 dX12_power_85 (by decide) ?_
              refine lv_iadd hC.1 hC.2.1 dX12_power_89 ?_
              refine lv_istore (lv' := [(5, .int (x5 + (r22 * r24))), (0, .ref (mvA V 0)), (1, .int x1), (2, .int x2), (3, .int x3), (4, .int x4), (6, .int x6)]) hC.1 hC.2.1 dX12_power_90 hl (Nat.le_of_ble_eq_true rfl) rfl (fun ls hl => ?_)
              refine lv_iinc (k := 6) (lv' := [(6, .int (x6 + 1)), (5, .int (x5 + (r22 * r24))), (0, .ref (mvA V 0)), (1, .int x1), (2, .int x2), (3, .int x3), (4, .int x4)]) hC.1 hC.2.1 dX12_power_92 hl rfl (inc_1 _) (Nat.le_of_ble_eq_true rfl) rfl (fun ls hl => ?_)
              refine lv_goto (tgt := 48) hC.1 hC.2.1 dX12_power_95 (by decide) ?_
              exact ih32 _ _ _ _ _ _ _ _ _ _ hf hM (lv_sub hl [2, 3, 4, 5, 6, 1, 0] rfl)
      refine lv_iload hC.1 hC.2.1 dX12_power_26 (lv_at hl 4 rfl) ?_
      refine lv_iload_n hC.1 hC.2.1 dX12_power_28 rfl (lv_at hl 2 rfl) ?_
      refine lv_icmp_gt (tgt := 160) hC.1 hC.2.1 dX12_power_29 (by decide) (fun hc10 => ?_) (fun hc10 => ?_)
      · have hf := o_t hc10 hf
        refine lv_iload_n hC.1 hC.2.1 dX12_power_160 rfl (lv_at hl 3 rfl) ?_
        exact hret (o_r1 hf) (o_r2 hf hM) dX12_power_161
      · have hf := o_f hc10 hf
        refine lv_aload_n hC.1 hC.2.1 dX12_power_32 rfl (lv_at hl 0 rfl) ?_
        refine lv_iload_n hC.1 hC.2.1 dX12_power_33 rfl (lv_at hl 1 rfl) ?_
        refine lv_iconst hC.1 hC.2.1 dX12_power_34 ci_4 ?_
        obtain ⟨r7, hq8, hf⟩ := o_b hf
        refine mw_cVi (As := [.int x1, .int 4]) (rest := []) hC hM (mcX12_its V l M x1 4 r7 hq8) (mw_kV hC q_1282 q_1284 q_46 q_120 q_1285 ⟨rfl, rfl⟩ kV_X12_its ⟨Nat.le_of_ble_eq_true rfl, Nat.le_of_ble_eq_true rfl⟩) (Nat.le_of_ble_eq_true rfl) (eR_0 V) rfl rfl rfl (Nat.le_of_ble_eq_true rfl) hl.1 dX12_power_35 (fun H locs hM _ => ?_)
        refine lv_iconst hC.1 hC.2.1 dX12_power_38 ci_1 ?_
        refine lv_icmp_ne (tgt := 160) hC.1 hC.2.1 dX12_power_39 (by decide) (fun hc9 => ?_) (fun hc9 => ?_)
        · have hf := o_f hc9 hf
          refine lv_iload_n hC.1 hC.2.1 dX12_power_160 rfl (lv_at hl 3 rfl) ?_
          exact hret (o_r1 hf) (o_r2 hf hM) dX12_power_161
        · have hf := o_t hc9 hf
          refine lv_iconst hC.1 hC.2.1 dX12_power_42 ci_0 ?_
          refine lv_istore (lv' := [(5, .int 0), (0, .ref (mvA V 0)), (1, .int x1), (2, .int x2), (3, .int x3), (4, .int x4)]) hC.1 hC.2.1 dX12_power_43 hl (Nat.le_of_ble_eq_true rfl) rfl (fun ls hl => ?_)
          refine lv_iconst hC.1 hC.2.1 dX12_power_45 ci_0 ?_
          refine lv_istore (lv' := [(6, .int 0), (5, .int 0), (0, .ref (mvA V 0)), (1, .int x1), (2, .int x2), (3, .int x3), (4, .int x4)]) hC.1 hC.2.1 dX12_power_46 hl (Nat.le_of_ble_eq_true rfl) rfl (fun ls hl => ?_)
          exact hL48 _ _ _ _ _ _ _ _ _ _ _ hf hM (lv_sub hl [2, 3, 4, 5, 6, 1, 0] rfl)
  refine lv_aload_n hC.1 hC.2.1 dX12_power_0 rfl (lv_at hl 0 rfl) ?_
  refine lv_iload_n hC.1 hC.2.1 dX12_power_1 rfl (lv_at hl 1 rfl) ?_
  obtain ⟨r1, hq2, hf⟩ := o_b hf
  refine mw_cVi (As := [.int p1]) (rest := []) hC hM (mcX12_isVoter V l M p1 r1 hq2) (mw_kV hC q_1277 q_1279 q_45 q_120 q_1280 ⟨rfl, rfl⟩ kV_X12_isVoter ⟨Nat.le_of_ble_eq_true rfl, Nat.le_of_ble_eq_true rfl⟩) (Nat.le_of_ble_eq_true rfl) (eR_0 V) rfl rfl rfl (Nat.le_of_ble_eq_true rfl) hl.1 dX12_power_2 (fun H locs hM hb3 => ?_)
  refine lv_if_ne (tgt := 10) hC.1 hC.2.1 dX12_power_5 (by decide) (fun hc6 => ?_) (fun hc6 => ?_)
  · have hf := o_f hc6 hf
    refine lv_aload_n hC.1 hC.2.1 dX12_power_10 rfl (lv_at hl 0 rfl) ?_
    obtain ⟨r4, hq5, hf⟩ := o_b hf
    refine mw_cVi (As := []) (rest := []) hC hM (mcX12_awakeSet V l M r4 hq5) (mw_kV hC q_1348 q_1350 q_54 q_120 q_1351 ⟨rfl, rfl⟩ kV_X12_awakeSet ⟨Nat.le_of_ble_eq_true rfl, Nat.le_of_ble_eq_true rfl⟩) (Nat.le_of_ble_eq_true rfl) (eR_0 V) rfl rfl rfl (Nat.le_of_ble_eq_true rfl) hl.1 dX12_power_11 (fun H locs hM _ => ?_)
    refine lv_iconst hC.1 hC.2.1 dX12_power_14 ci_1 ?_
    refine lv_iload_n hC.1 hC.2.1 dX12_power_15 rfl (lv_at hl 1 rfl) ?_
    refine lv_ishl hC.1 hC.2.1 dX12_power_16 ?_
    refine lv_iconst hC.1 hC.2.1 dX12_power_17 ci_m1 ?_
    refine lv_ixor hC.1 hC.2.1 dX12_power_18 ?_
    refine lv_iand hC.1 hC.2.1 dX12_power_19 ?_
    refine lv_istore_n (lv' := [(2, .int (r4 &&& ((1 <<< (p1 &&& 31)) ^^^ (-1)))), (0, .ref (mvA V 0)), (1, .int p1)]) hC.1 hC.2.1 dX12_power_20 rfl hl (Nat.le_of_ble_eq_true rfl) rfl (fun ls hl => ?_)
    refine lv_iconst hC.1 hC.2.1 dX12_power_21 ci_0 ?_
    refine lv_istore_n (lv' := [(3, .int 0), (2, .int (r4 &&& ((1 <<< (p1 &&& 31)) ^^^ (-1)))), (0, .ref (mvA V 0)), (1, .int p1)]) hC.1 hC.2.1 dX12_power_22 rfl hl (Nat.le_of_ble_eq_true rfl) rfl (fun ls hl => ?_)
    refine lv_iconst hC.1 hC.2.1 dX12_power_23 ci_0 ?_
    refine lv_istore (lv' := [(4, .int 0), (3, .int 0), (2, .int (r4 &&& ((1 <<< (p1 &&& 31)) ^^^ (-1)))), (0, .ref (mvA V 0)), (1, .int p1)]) hC.1 hC.2.1 dX12_power_24 hl (Nat.le_of_ble_eq_true rfl) rfl (fun ls hl => ?_)
    exact hL26 _ _ _ _ _ _ _ _ _ hf hM (lv_sub hl [3, 4, 2, 1, 0] rfl)
  · have hf := o_t hc6 hf
    refine lv_iconst hC.1 hC.2.1 dX12_power_8 ci_m1 ?_
    exact hret (o_r1 hf) (o_r2 hf hM) dX12_power_9
set_option maxHeartbeats 4000000 in
set_option maxRecDepth 100000 in
theorem mcX12_does (V : mV) (l : Launch) (M : mM) (p1 : Int32) (r : Int32) (M' : mM) (hf : fX12_does M p1 = some (r, M')) : UR V l yX12_does cX12_does 2 ({ frames := 1, cells := 0, slots := 0, locals := 23 } : Room) [.ref (mvA V 0), .int p1] M M' := by
  unfold fX12_does at hf
  refine mw_enterV RX12 rfl (by decide +kernel) (Nat.le_of_ble_eq_true rfl) (fun {p e s m args below meth c} ls A Q hC hret hM hl => ?_)
  have hl : lv_has ls 2 [(0, .ref (mvA V 0)), (1, .int p1)] := hl
  refine lv_iload_n hC.1 hC.2.1 dX12_does_0 rfl (lv_at hl 1 rfl) ?_
  refine lv_if_le (tgt := 22) hC.1 hC.2.1 dX12_does_1 (by decide) (fun hc6 => ?_) (fun hc6 => ?_)
  · have hf := o_t hc6 hf
    exact hret (o_r2 hf hM) dX12_does_22
  · have hf := o_f hc6 hf
    refine lv_aload_n hC.1 hC.2.1 dX12_does_4 rfl (lv_at hl 0 rfl) ?_
    refine lv_iload_n hC.1 hC.2.1 dX12_does_5 rfl (lv_at hl 1 rfl) ?_
    refine lv_iconst hC.1 hC.2.1 dX12_does_6 ci_1 ?_
    refine lv_isub hC.1 hC.2.1 dX12_does_7 ?_
    refine lv_iconst hC.1 hC.2.1 dX12_does_8 ci_4 ?_
    refine lv_iconst hC.1 hC.2.1 dX12_does_9 ci_1 ?_
    refine lv_aload_n hC.1 hC.2.1 dX12_does_10 rfl (lv_at hl 0 rfl) ?_
    refine lv_iload_n hC.1 hC.2.1 dX12_does_11 rfl (lv_at hl 1 rfl) ?_
    refine lv_iconst hC.1 hC.2.1 dX12_does_12 ci_1 ?_
    refine lv_isub hC.1 hC.2.1 dX12_does_13 ?_
    refine lv_iconst hC.1 hC.2.1 dX12_does_14 ci_4 ?_
    obtain ⟨r1, hq2, hf⟩ := o_b hf
    refine mw_cVi (As := [.int (p1 - 1), .int 4]) (rest := [.int 1, .int 4, .int (p1 - 1), .ref (mvA V 0)]) hC hM (mcX12_its V l M (p1 - 1) 4 r1 hq2) (mw_kV hC q_1282 q_1284 q_46 q_120 q_1285 ⟨rfl, rfl⟩ kV_X12_its ⟨Nat.le_of_ble_eq_true rfl, Nat.le_of_ble_eq_true rfl⟩) (Nat.le_of_ble_eq_true rfl) (eR_0 V) rfl rfl rfl (Nat.le_of_ble_eq_true rfl) hl.1 dX12_does_15 (fun H locs hM _ => ?_)
    refine lv_isub hC.1 hC.2.1 dX12_does_18 ?_
    obtain ⟨r3, M5, hq4, hf⟩ := o_b2 hf
    refine mw_cVv (As := [.int (p1 - 1), .int 4, .int (1 - r1)]) (rest := []) hC hM (mcX12_sets V l M (p1 - 1) 4 (1 - r1) r3 M5 hq4) (mw_kV hC q_1269 q_1271 q_44 q_120 q_1272 ⟨rfl, rfl⟩ kV_X12_sets ⟨Nat.le_of_ble_eq_true rfl, Nat.le_of_ble_eq_true rfl⟩) (Nat.le_of_ble_eq_true rfl) (eR_0 V) rfl rfl rfl (Nat.le_of_ble_eq_true rfl) hl.1 dX12_does_19 (fun H locs hM => ?_)
    exact hret (o_r2 hf hM) dX12_does_22
set_option maxHeartbeats 4000000 in
set_option maxRecDepth 100000 in
theorem mcX12_finds (V : mV) (l : Launch) : ∀ (d : Nat) (M : mM) (p1 : Int32) (p2 : Int32) (p3 : Int32) (r : Int32) (M' : mM), fX12_finds d M p1 p2 p3 = some (r, M') → ZR V l yX12_finds cX12_finds 7 ({ frames := 7 + 1 * d, cells := 0, slots := 0, locals := 161 + 26 * d } : Room) [.ref (mvA V 0), .int p1, .int p2, .int p3] M r M' := by
  intro d
  induction d with
  | zero => intro M p1 p2 p3 r M' hf; cases hf
  | succ d ih =>
    intro M p1 p2 p3 r M' hf
    have hf : fX12_finds_b (fX12_finds d) M p1 p2 p3 = some (r, M') := hf
    unfold fX12_finds_b at hf
    refine mw_enterZ RX12 rfl (by decide +kernel) (Nat.le_of_ble_eq_true rfl) (fun {p e s m args below meth c} ls A Q hC hret hM hl => ?_)
    have hl : lv_has ls 7 [(0, .ref (mvA V 0)), (1, .int p1), (2, .int p2), (3, .int p3)] := hl
    have hL26 : ∀ (n : Nat) (M : mM) (x1 : Int32) (x2 : Int32) (x3 : Int32) (x4 : Int32) (x5 : Int32) (H : Heap) (locs : List Loc) (ls : Array Slot), fX12_finds_L26 (fX12_finds d) n M x1 x2 x3 x4 x5 = some (r, M') → PR V M A s H locs → lv_has ls 7 [(0, .ref (mvA V 0)), (1, .int x1), (2, .int x2), (3, .int x3), (4, .int x4), (5, .int x5)] → W p l e ({ frames := 7 + 1 * (d + 1), cells := 0, slots := 0, locals := 161 + 26 * (d + 1) } : Room) s m args below meth c H locs 0 0 Q (F0 m 26 ls []) := by
      intro n16
      induction n16 with
      | zero => intro M x1 x2 x3 x4 x5 H locs ls hf; cases hf
      | succ n16 ih16 =>
        intro M x1 x2 x3 x4 x5 H locs ls hf hM hl
        have hf : fX12_finds_L26_b (fX12_finds d) (fX12_finds_L26 (fX12_finds d) n16) M x1 x2 x3 x4 x5 = some (r, M') := hf
        unfold fX12_finds_L26_b at hf
        have hL93 : ∀ (M : mM) (x1 : Int32) (x2 : Int32) (x3 : Int32) (x4 : Int32) (x5 : Int32) (x6 : Int32) (t1 : Int32) (t2 : Int32) (H : Heap) (locs : List Loc) (ls : Array Slot), fX12_finds_L93 (fX12_finds d) (fX12_finds_L26 (fX12_finds d) n16) M x1 x2 x3 x4 x5 x6 t1 t2 = some (r, M') → PR V M A s H locs → lv_has ls 7 [(0, .ref (mvA V 0)), (1, .int x1), (2, .int x2), (3, .int x3), (4, .int x4), (5, .int x5), (6, .int x6)] → W p l e ({ frames := 7 + 1 * (d + 1), cells := 0, slots := 0, locals := 161 + 26 * (d + 1) } : Room) s m args below meth c H locs 0 0 Q (F0 m 93 ls [.int t2, .int t1, .ref (mvA V 7)]) := by
          intro M x1 x2 x3 x4 x5 x6 t1 t2 H locs ls hf hM hl
          unfold fX12_finds_L93 at hf
          obtain ⟨hg25, hf⟩ := o_g hf
          refine mw_iast hC hM 7 0 (Nat.le_of_ble_eq_true rfl) (eR_7 V) rfl hg25 dX12_finds_93 (fun H locs hM => ?_)
          refine lv_aload_n hC.1 hC.2.1 dX12_finds_94 rfl (lv_at hl 0 rfl) ?_
          refine lv_iload hC.1 hC.2.1 dX12_finds_95 (lv_at hl 6 rfl) ?_
          refine lv_ineg hC.1 hC.2.1 dX12_finds_97 ?_
          obtain ⟨r26, M28, hq27, hf⟩ := o_b2 hf
          refine mw_cVv (As := [.int (-x6)]) (rest := []) hC hM (mcX12_turns V l (wr M 7 (Int32.toNatClampNeg t1) t2) (-x6) r26 M28 hq27) (mw_kV hC q_1476 q_1478 q_75 q_120 q_1479 ⟨rfl, rfl⟩ kV_X12_turns ⟨by dsimp only; omega, by dsimp only; omega⟩) (Nat.le_of_ble_eq_true rfl) (eR_0 V) rfl rfl rfl (Nat.le_of_ble_eq_true rfl) hl.1 dX12_finds_98 (fun H locs hM => ?_)
          refine lv_aload_n hC.1 hC.2.1 dX12_finds_101 rfl (lv_at hl 0 rfl) ?_
          refine lv_iload hC.1 hC.2.1 dX12_finds_102 (lv_at hl 5 rfl) ?_
          obtain ⟨r29, M31, hq30, hf⟩ := o_b2 hf
          refine mw_cVv (As := [.int x5]) (rest := []) hC hM (mcX12_does V l M28 x5 r29 M31 hq30) (mw_kV hC q_1549 q_1551 q_83 q_120 q_1552 ⟨rfl, rfl⟩ kV_X12_does ⟨by dsimp only; omega, by dsimp only; omega⟩) (Nat.le_of_ble_eq_true rfl) (eR_0 V) rfl rfl rfl (Nat.le_of_ble_eq_true rfl) hl.1 dX12_finds_104 (fun H locs hM => ?_)
          refine lv_iinc (k := 5) (lv' := [(5, .int (x5 + 1)), (0, .ref (mvA V 0)), (1, .int x1), (2, .int x2), (3, .int x3), (4, .int x4), (6, .int x6)]) hC.1 hC.2.1 dX12_finds_107 hl rfl (inc_1 _) (Nat.le_of_ble_eq_true rfl) rfl (fun ls hl => ?_)
          refine lv_goto (tgt := 26) hC.1 hC.2.1 dX12_finds_110 (by decide) ?_
          exact ih16 _ _ _ _ _ _ _ _ _ hf hM (lv_sub hl [1, 2, 3, 4, 5, 0] rfl)
        refine lv_iload hC.1 hC.2.1 dX12_finds_26 (lv_at hl 5 rfl) ?_
        refine lv_aload_n hC.1 hC.2.1 dX12_finds_28 rfl (lv_at hl 0 rfl) ?_
        refine mw_get (v := .ref (mvA V 1)) hC hM 0 (Nat.le_of_ble_eq_true rfl) (eR_0 V) inW12 rfl 0 (by decide) q_1146 (fun _ h9 => h9) rfl dX12_finds_29 ?_
        refine lv_iconst hC.1 hC.2.1 dX12_finds_32 ci_0 ?_
        obtain ⟨hg4, hf⟩ := o_g hf
        refine mw_iald hC hM 1 0 (Nat.le_of_ble_eq_true rfl) (eR_1 V) rfl hg4 dX12_finds_33 ?_
        refine lv_icmp_gt (tgt := 113) hC.1 hC.2.1 dX12_finds_34 (by decide) (fun hc24 => ?_) (fun hc24 => ?_)
        · have hf := o_t hc24 hf
          refine lv_iload hC.1 hC.2.1 dX12_finds_113 (lv_at hl 4 rfl) ?_
          obtain ⟨hg5, hf⟩ := o_g hf
          exact hret (o_r1 hf) (isB_or hg5) (o_r2 hf hM) dX12_finds_115
        · have hf := o_f hc24 hf
          refine lv_iload hC.1 hC.2.1 dX12_finds_37 (lv_at hl 4 rfl) ?_
          refine lv_if_ne (tgt := 113) hC.1 hC.2.1 dX12_finds_39 (by decide) (fun hc23 => ?_) (fun hc23 => ?_)
          · have hf := o_f hc23 hf
            refine lv_iload hC.1 hC.2.1 dX12_finds_113 (lv_at hl 4 rfl) ?_
            obtain ⟨hg6, hf⟩ := o_g hf
            exact hret (o_r1 hf) (isB_or hg6) (o_r2 hf hM) dX12_finds_115
          · have hf := o_t hc23 hf
            refine lv_aload_n hC.1 hC.2.1 dX12_finds_42 rfl (lv_at hl 0 rfl) ?_
            refine lv_iload hC.1 hC.2.1 dX12_finds_43 (lv_at hl 5 rfl) ?_
            obtain ⟨r7, M9, hq8, hf⟩ := o_b2 hf
            refine mw_cVv (As := [.int x5]) (rest := []) hC hM (mcX12_does V l M x5 r7 M9 hq8) (mw_kV hC q_1549 q_1551 q_83 q_120 q_1552 ⟨rfl, rfl⟩ kV_X12_does ⟨by dsimp only; omega, by dsimp only; omega⟩) (Nat.le_of_ble_eq_true rfl) (eR_0 V) rfl rfl rfl (Nat.le_of_ble_eq_true rfl) hl.1 dX12_finds_45 (fun H locs hM => ?_)
            refine lv_aload_n hC.1 hC.2.1 dX12_finds_48 rfl (lv_at hl 0 rfl) ?_
            refine lv_aload_n hC.1 hC.2.1 dX12_finds_49 rfl (lv_at hl 0 rfl) ?_
            obtain ⟨r10, M12, hq11, hf⟩ := o_b2 hf
            refine mw_cVi (As := []) (rest := [.ref (mvA V 0)]) hC hM (mcX12_sumNow V l M9 r10 M12 hq11) (mw_kV hC q_1460 q_1462 q_72 q_120 q_1463 ⟨rfl, rfl⟩ kV_X12_sumNow ⟨by dsimp only; omega, by dsimp only; omega⟩) (Nat.le_of_ble_eq_true rfl) (eR_0 V) rfl rfl rfl (Nat.le_of_ble_eq_true rfl) hl.1 dX12_finds_50 (fun H locs hM _ => ?_)
            obtain ⟨r13, hq14, hf⟩ := o_b hf
            refine mw_cVi (As := [.int r10]) (rest := []) hC hM (mcX12_moveBy V l M12 r10 r13 hq14) (mw_kV hC q_1472 q_1474 q_74 q_120 q_1475 ⟨rfl, rfl⟩ kV_X12_moveBy ⟨by dsimp only; omega, by dsimp only; omega⟩) (Nat.le_of_ble_eq_true rfl) (eR_0 V) rfl rfl rfl (Nat.le_of_ble_eq_true rfl) hl.1 dX12_finds_53 (fun H locs hM _ => ?_)
            refine lv_istore (lv' := [(6, .int r13), (0, .ref (mvA V 0)), (1, .int x1), (2, .int x2), (3, .int x3), (4, .int x4), (5, .int x5)]) hC.1 hC.2.1 dX12_finds_56 hl (Nat.le_of_ble_eq_true rfl) rfl (fun ls hl => ?_)
            refine lv_aload_n hC.1 hC.2.1 dX12_finds_58 rfl (lv_at hl 1 rfl) ?_
            refine lv_iload hC.1 hC.2.1 dX12_finds_59 (lv_at hl 0 rfl) ?_
            obtain ⟨r15, M17, hq16, hf⟩ := o_b2 hf
            refine mw_cVv (As := [.int r13]) (rest := []) hC hM (mcX12_turns V l M12 r13 r15 M17 hq16) (mw_kV hC q_1476 q_1478 q_75 q_120 q_1479 ⟨rfl, rfl⟩ kV_X12_turns ⟨by dsimp only; omega, by dsimp only; omega⟩) (Nat.le_of_ble_eq_true rfl) (eR_0 V) rfl rfl rfl (Nat.le_of_ble_eq_true rfl) hl.1 dX12_finds_61 (fun H locs hM => ?_)
            refine lv_aload_n hC.1 hC.2.1 dX12_finds_64 rfl (lv_at hl 1 rfl) ?_
            refine lv_iload_n hC.1 hC.2.1 dX12_finds_65 rfl (lv_at hl 2 rfl) ?_
            refine lv_iconst hC.1 hC.2.1 dX12_finds_66 ci_1 ?_
            refine lv_isub hC.1 hC.2.1 dX12_finds_67 ?_
            refine lv_iload_n hC.1 hC.2.1 dX12_finds_68 rfl (lv_at hl 3 rfl) ?_
            refine lv_iload_n hC.1 hC.2.1 dX12_finds_69 rfl (lv_at hl 4 rfl) ?_
            obtain ⟨r18, M20, hq19, hf⟩ := o_b2 hf
            refine mw_cVi (As := [.int (x1 - 1), .int x2, .int x3]) (rest := []) hC hM (ih M17 (x1 - 1) x2 x3 r18 M20 hq19) (mw_kV hC q_1545 q_1547 q_82 q_120 q_1548 ⟨rfl, rfl⟩ kV_X12_finds ⟨by dsimp only; omega, by dsimp only; omega⟩) (Nat.le_of_ble_eq_true rfl) (eR_0 V) rfl rfl rfl (Nat.le_of_ble_eq_true rfl) hl.1 dX12_finds_70 (fun H locs hM hb21 => ?_)
            refine lv_istore (lv' := [(4, .int r18), (6, .int r13), (0, .ref (mvA V 0)), (1, .int x1), (2, .int x2), (3, .int x3), (5, .int x5)]) hC.1 hC.2.1 dX12_finds_73 hl (Nat.le_of_ble_eq_true rfl) rfl (fun ls hl => ?_)
            refine lv_aload_n hC.1 hC.2.1 dX12_finds_75 rfl (lv_at hl 2 rfl) ?_
            refine mw_get (v := .ref (mvA V 7)) hC hM 0 (Nat.le_of_ble_eq_true rfl) (eR_0 V) inW12 rfl 14 (by decide) q_1160 (fun _ h9 => h9) rfl dX12_finds_76 ?_
            refine lv_iload_n hC.1 hC.2.1 dX12_finds_79 rfl (lv_at hl 4 rfl) ?_
            refine lv_iload_n hC.1 hC.2.1 dX12_finds_80 rfl (lv_at hl 3 rfl) ?_
            refine lv_isub hC.1 hC.2.1 dX12_finds_81 ?_
            refine lv_iload hC.1 hC.2.1 dX12_finds_82 (lv_at hl 0 rfl) ?_
            refine lv_if_eq (tgt := 92) hC.1 hC.2.1 dX12_finds_84 (by decide) (fun hc22 => ?_) (fun hc22 => ?_)
            · have hf := o_t hc22 hf
              refine lv_iconst hC.1 hC.2.1 dX12_finds_92 ci_0 ?_
              exact hL93 _ _ _ _ _ _ _ _ _ _ _ _ hf hM (lv_sub hl [2, 3, 4, 5, 0, 6, 1] rfl)
            · have hf := o_f hc22 hf
              refine lv_iload hC.1 hC.2.1 dX12_finds_87 (lv_at hl 6 rfl) ?_
              refine lv_goto (tgt := 93) hC.1 hC.2.1 dX12_finds_89 (by decide) ?_
              exact hL93 _ _ _ _ _ _ _ _ _ _ _ _ hf hM (lv_sub hl [2, 3, 4, 5, 0, 6, 1] rfl)
    refine lv_iload_n hC.1 hC.2.1 dX12_finds_0 rfl (lv_at hl 1 rfl) ?_
    refine lv_if_ne (tgt := 20) hC.1 hC.2.1 dX12_finds_1 (by decide) (fun hc3 => ?_) (fun hc3 => ?_)
    · have hf := o_f hc3 hf
      refine lv_iconst hC.1 hC.2.1 dX12_finds_20 ci_0 ?_
      refine lv_istore (lv' := [(4, .int 0), (0, .ref (mvA V 0)), (1, .int p1), (2, .int p2), (3, .int p3)]) hC.1 hC.2.1 dX12_finds_21 hl (Nat.le_of_ble_eq_true rfl) rfl (fun ls hl => ?_)
      refine lv_iconst hC.1 hC.2.1 dX12_finds_23 ci_0 ?_
      refine lv_istore (lv' := [(5, .int 0), (4, .int 0), (0, .ref (mvA V 0)), (1, .int p1), (2, .int p2), (3, .int p3)]) hC.1 hC.2.1 dX12_finds_24 hl (Nat.le_of_ble_eq_true rfl) rfl (fun ls hl => ?_)
      exact hL26 _ _ _ _ _ _ _ _ _ _ hf hM (lv_sub hl [2, 3, 4, 5, 1, 0] rfl)
    · have hf := o_t hc3 hf
      refine lv_aload_n hC.1 hC.2.1 dX12_finds_4 rfl (lv_at hl 0 rfl) ?_
      refine mw_get (v := .ref (mvA V 1)) hC hM 0 (Nat.le_of_ble_eq_true rfl) (eR_0 V) inW12 rfl 0 (by decide) q_1146 (fun _ h9 => h9) rfl dX12_finds_5 ?_
      refine lv_iconst hC.1 hC.2.1 dX12_finds_8 ci_1 ?_
      obtain ⟨hg1, hf⟩ := o_g hf
      refine mw_iald hC hM 1 0 (Nat.le_of_ble_eq_true rfl) (eR_1 V) rfl hg1 dX12_finds_9 ?_
      refine lv_iload_n hC.1 hC.2.1 dX12_finds_10 rfl (lv_at hl 3 rfl) ?_
      refine lv_icmp_ne (tgt := 18) hC.1 hC.2.1 dX12_finds_11 (by decide) (fun hc2 => ?_) (fun hc2 => ?_)
      · have hf := o_f hc2 hf
        refine lv_iconst hC.1 hC.2.1 dX12_finds_18 ci_0 ?_
        exact hret (o_r1 hf) (Or.inl rfl) (o_r2 hf hM) dX12_finds_19
      · have hf := o_t hc2 hf
        refine lv_iconst hC.1 hC.2.1 dX12_finds_14 ci_1 ?_
        refine lv_goto (tgt := 19) hC.1 hC.2.1 dX12_finds_15 (by decide) ?_
        exact hret (o_r1 hf) (Or.inr rfl) (o_r2 hf hM) dX12_finds_19
set_option maxHeartbeats 4000000 in
set_option maxRecDepth 100000 in
theorem mcX12_fewestFor (V : mV) (l : Launch) (M : mM) (p1 : Int32) (p2 : Int32) (r : Int32) (M' : mM) (hf : fX12_fewestFor M p1 p2 = some (r, M')) : IR V l yX12_fewestFor cX12_fewestFor 4 ({ frames := 14, cells := 0, slots := 0, locals := 343 } : Room) [.ref (mvA V 0), .int p1, .int p2] M r M' := by
  unfold fX12_fewestFor at hf
  refine mw_enterI RX12 rfl (by decide +kernel) (Nat.le_of_ble_eq_true rfl) (fun {p e s m args below meth c} ls A Q hC hret hM hl => ?_)
  have hl : lv_has ls 4 [(0, .ref (mvA V 0)), (1, .int p1), (2, .int p2)] := hl
  have hL2 : ∀ (n : Nat) (M : mM) (x1 : Int32) (x2 : Int32) (x3 : Int32) (H : Heap) (locs : List Loc) (ls : Array Slot), fX12_fewestFor_L2 n M x1 x2 x3 = some (r, M') → PR V M A s H locs → lv_has ls 4 [(0, .ref (mvA V 0)), (1, .int x1), (2, .int x2), (3, .int x3)] → W p l e ({ frames := 14, cells := 0, slots := 0, locals := 343 } : Room) s m args below meth c H locs 0 0 Q (F0 m 2 ls []) := by
    intro n2
    induction n2 with
    | zero => intro M x1 x2 x3 H locs ls hf; cases hf
    | succ n2 ih2 =>
      intro M x1 x2 x3 H locs ls hf hM hl
      have hf : fX12_fewestFor_L2_b (fX12_fewestFor_L2 n2) M x1 x2 x3 = some (r, M') := hf
      unfold fX12_fewestFor_L2_b at hf
      refine lv_iload_n hC.1 hC.2.1 dX12_fewestFor_2 rfl (lv_at hl 3 rfl) ?_
      refine lv_iload_n hC.1 hC.2.1 dX12_fewestFor_3 rfl (lv_at hl 2 rfl) ?_
      refine lv_icmp_gt (tgt := 23) hC.1 hC.2.1 dX12_fewestFor_4 (by decide) (fun hc8 => ?_) (fun hc8 => ?_)
      · have hf := o_t hc8 hf
        refine lv_iload_n hC.1 hC.2.1 dX12_fewestFor_23 rfl (lv_at hl 3 rfl) ?_
        refine lv_iload_n hC.1 hC.2.1 dX12_fewestFor_24 rfl (lv_at hl 2 rfl) ?_
        refine lv_icmp_gt (tgt := 32) hC.1 hC.2.1 dX12_fewestFor_25 (by decide) (fun hc1 => ?_) (fun hc1 => ?_)
        · have hf := o_t hc1 hf
          refine lv_iconst hC.1 hC.2.1 dX12_fewestFor_32 ci_m1 ?_
          exact hret (o_r1 hf) (o_r2 hf hM) dX12_fewestFor_33
        · have hf := o_f hc1 hf
          refine lv_iload_n hC.1 hC.2.1 dX12_fewestFor_28 rfl (lv_at hl 3 rfl) ?_
          refine lv_goto (tgt := 33) hC.1 hC.2.1 dX12_fewestFor_29 (by decide) ?_
          exact hret (o_r1 hf) (o_r2 hf hM) dX12_fewestFor_33
      · have hf := o_f hc8 hf
        refine lv_aload_n hC.1 hC.2.1 dX12_fewestFor_7 rfl (lv_at hl 0 rfl) ?_
        refine lv_iload_n hC.1 hC.2.1 dX12_fewestFor_8 rfl (lv_at hl 3 rfl) ?_
        refine lv_iload_n hC.1 hC.2.1 dX12_fewestFor_9 rfl (lv_at hl 3 rfl) ?_
        refine lv_iload_n hC.1 hC.2.1 dX12_fewestFor_10 rfl (lv_at hl 1 rfl) ?_
        obtain ⟨r2, M4, hq3, hf⟩ := o_b2 hf
        refine mw_cVi (As := [.int x3, .int x3, .int x1]) (rest := []) hC hM (mcX12_finds V l 6 M x3 x3 x1 r2 M4 hq3) (mw_kV hC q_1545 q_1547 q_82 q_120 q_1548 ⟨rfl, rfl⟩ kV_X12_finds ⟨Nat.le_of_ble_eq_true rfl, Nat.le_of_ble_eq_true rfl⟩) (Nat.le_of_ble_eq_true rfl) (eR_0 V) rfl rfl rfl (Nat.le_of_ble_eq_true rfl) hl.1 dX12_fewestFor_11 (fun H locs hM hb5 => ?_)
        refine lv_if_ne (tgt := 23) hC.1 hC.2.1 dX12_fewestFor_14 (by decide) (fun hc7 => ?_) (fun hc7 => ?_)
        · have hf := o_f hc7 hf
          refine lv_iload_n hC.1 hC.2.1 dX12_fewestFor_23 rfl (lv_at hl 3 rfl) ?_
          refine lv_iload_n hC.1 hC.2.1 dX12_fewestFor_24 rfl (lv_at hl 2 rfl) ?_
          refine lv_icmp_gt (tgt := 32) hC.1 hC.2.1 dX12_fewestFor_25 (by decide) (fun hc6 => ?_) (fun hc6 => ?_)
          · have hf := o_t hc6 hf
            refine lv_iconst hC.1 hC.2.1 dX12_fewestFor_32 ci_m1 ?_
            exact hret (o_r1 hf) (o_r2 hf hM) dX12_fewestFor_33
          · have hf := o_f hc6 hf
            refine lv_iload_n hC.1 hC.2.1 dX12_fewestFor_28 rfl (lv_at hl 3 rfl) ?_
            refine lv_goto (tgt := 33) hC.1 hC.2.1 dX12_fewestFor_29 (by decide) ?_
            exact hret (o_r1 hf) (o_r2 hf hM) dX12_fewestFor_33
        · have hf := o_t hc7 hf
          refine lv_iinc (k := 3) (lv' := [(3, .int (x3 + 1)), (0, .ref (mvA V 0)), (1, .int x1), (2, .int x2)]) hC.1 hC.2.1 dX12_fewestFor_17 hl rfl (inc_1 _) (Nat.le_of_ble_eq_true rfl) rfl (fun ls hl => ?_)
          refine lv_goto (tgt := 2) hC.1 hC.2.1 dX12_fewestFor_20 (by decide) ?_
          exact ih2 _ _ _ _ _ _ _ hf hM (lv_sub hl [1, 2, 3, 0] rfl)
  refine lv_iconst hC.1 hC.2.1 dX12_fewestFor_0 ci_0 ?_
  refine lv_istore_n (lv' := [(3, .int 0), (0, .ref (mvA V 0)), (1, .int p1), (2, .int p2)]) hC.1 hC.2.1 dX12_fewestFor_1 rfl hl (Nat.le_of_ble_eq_true rfl) rfl (fun ls hl => ?_)
  exact hL2 _ _ _ _ _ _ _ _ hf hM (lv_sub hl [1, 2, 3, 0] rfl)
set_option maxHeartbeats 4000000 in
set_option maxRecDepth 100000 in
theorem mcX12_fewest (V : mV) (l : Launch) (M : mM) (p1 : Int32) (r : Int32) (M' : mM) (hf : fX12_fewest M p1 = some (r, M')) : IR V l yX12_fewest cX12_fewest 3 ({ frames := 15, cells := 0, slots := 0, locals := 366 } : Room) [.ref (mvA V 0), .int p1] M r M' := by
  unfold fX12_fewest at hf
  refine mw_enterI RX12 rfl (by decide +kernel) (Nat.le_of_ble_eq_true rfl) (fun {p e s m args below meth c} ls A Q hC hret hM hl => ?_)
  have hl : lv_has ls 3 [(0, .ref (mvA V 0)), (1, .int p1)] := hl
  refine lv_iload_n hC.1 hC.2.1 dX12_fewest_0 rfl (lv_at hl 1 rfl) ?_
  refine mw_cSi (As := [.int p1]) (rest := []) hC hM (mcX12_isHour V l M p1 _ rfl) (mw_kS hC q_1263 q_1264 q_120 q_1265 ⟨rfl, rfl⟩ kS_X12_isHour ⟨Nat.le_of_ble_eq_true rfl, Nat.le_of_ble_eq_true rfl⟩) rfl rfl (Nat.le_of_ble_eq_true rfl) hl.1 dX12_fewest_1 (fun H locs hM hb1 => ?_)
  refine lv_if_ne (tgt := 9) hC.1 hC.2.1 dX12_fewest_4 (by decide) (fun hc6 => ?_) (fun hc6 => ?_)
  · have hf := o_f hc6 hf
    refine lv_aload_n hC.1 hC.2.1 dX12_fewest_9 rfl (lv_at hl 0 rfl) ?_
    refine lv_iload_n hC.1 hC.2.1 dX12_fewest_10 rfl (lv_at hl 1 rfl) ?_
    refine lv_iconst hC.1 hC.2.1 dX12_fewest_11 ci_4 ?_
    obtain ⟨r2, M4, hq3, hf⟩ := o_b2 hf
    refine mw_cVi (As := [.int p1, .int 4]) (rest := []) hC hM (mcX12_fewestFor V l M p1 4 r2 M4 hq3) (mw_kV hC q_1541 q_1543 q_81 q_120 q_1544 ⟨rfl, rfl⟩ kV_X12_fewestFor ⟨Nat.le_of_ble_eq_true rfl, Nat.le_of_ble_eq_true rfl⟩) (Nat.le_of_ble_eq_true rfl) (eR_0 V) rfl rfl rfl (Nat.le_of_ble_eq_true rfl) hl.1 dX12_fewest_12 (fun H locs hM _ => ?_)
    refine lv_istore_n (lv' := [(2, .int r2), (0, .ref (mvA V 0)), (1, .int p1)]) hC.1 hC.2.1 dX12_fewest_15 rfl hl (Nat.le_of_ble_eq_true rfl) rfl (fun ls hl => ?_)
    refine lv_iload_n hC.1 hC.2.1 dX12_fewest_16 rfl (lv_at hl 0 rfl) ?_
    refine lv_if_ge (tgt := 25) hC.1 hC.2.1 dX12_fewest_17 (by decide) (fun hc5 => ?_) (fun hc5 => ?_)
    · have hf := o_t hc5 hf
      refine lv_iload_n hC.1 hC.2.1 dX12_fewest_25 rfl (lv_at hl 0 rfl) ?_
      exact hret (o_r1 hf) (o_r2 hf hM) dX12_fewest_26
    · have hf := o_f hc5 hf
      refine lv_bipush hC.1 hC.2.1 dX12_fewest_20 cb_m3 ?_
      refine lv_goto (tgt := 26) hC.1 hC.2.1 dX12_fewest_22 (by decide) ?_
      exact hret (o_r1 hf) (o_r2 hf hM) dX12_fewest_26
  · have hf := o_t hc6 hf
    refine lv_iconst hC.1 hC.2.1 dX12_fewest_7 ci_m1 ?_
    exact hret (o_r1 hf) (o_r2 hf hM) dX12_fewest_8
set_option maxHeartbeats 4000000 in
set_option maxRecDepth 100000 in
theorem mcX12_ith (V : mV) (l : Launch) (M : mM) (p1 : Int32) (p2 : Int32) (r : Int32) (M' : mM) (hf : fX12_ith M p1 p2 = some (r, M')) : IR V l yX12_ith cX12_ith 3 ({ frames := 15, cells := 0, slots := 0, locals := 366 } : Room) [.ref (mvA V 0), .int p1, .int p2] M r M' := by
  unfold fX12_ith at hf
  refine mw_enterI RX12 rfl (by decide +kernel) (Nat.le_of_ble_eq_true rfl) (fun {p e s m args below meth c} ls A Q hC hret hM hl => ?_)
  have hl : lv_has ls 3 [(0, .ref (mvA V 0)), (1, .int p1), (2, .int p2)] := hl
  refine lv_iload_n hC.1 hC.2.1 dX12_ith_0 rfl (lv_at hl 1 rfl) ?_
  refine mw_cSi (As := [.int p1]) (rest := []) hC hM (mcX12_isHour V l M p1 _ rfl) (mw_kS hC q_1263 q_1264 q_120 q_1265 ⟨rfl, rfl⟩ kS_X12_isHour ⟨Nat.le_of_ble_eq_true rfl, Nat.le_of_ble_eq_true rfl⟩) rfl rfl (Nat.le_of_ble_eq_true rfl) hl.1 dX12_ith_1 (fun H locs hM hb1 => ?_)
  refine lv_if_eq (tgt := 19) hC.1 hC.2.1 dX12_ith_4 (by decide) (fun hc9 => ?_) (fun hc9 => ?_)
  · have hf := o_t hc9 hf
    refine lv_iconst hC.1 hC.2.1 dX12_ith_19 ci_m1 ?_
    exact hret (o_r1 hf) (o_r2 hf hM) dX12_ith_20
  · have hf := o_f hc9 hf
    refine lv_iload_n hC.1 hC.2.1 dX12_ith_7 rfl (lv_at hl 2 rfl) ?_
    refine lv_i2l (v := (Int32.toInt64 p2)) hC.1 hC.2.1 dX12_ith_8 rfl ?_
    refine lv_lconst (v := 0) hC.1 hC.2.1 dX12_ith_9 rfl ?_
    refine lv_ldc2 hC.1 hC.2.1 hC.2.2.2.1 (mw_w hC q_1557) dX12_ith_10 ?_
    refine mw_cSi (As := [.long (Int32.toInt64 p2), .long 0, .long 3]) (rest := []) hC hM (mcX12_in V l M (Int32.toInt64 p2) 0 3 _ rfl) (mw_kS hC q_1257 q_1258 q_120 q_1259 ⟨rfl, rfl⟩ kS_X12_in ⟨Nat.le_of_ble_eq_true rfl, Nat.le_of_ble_eq_true rfl⟩) rfl rfl (Nat.le_of_ble_eq_true rfl) hl.1 dX12_ith_13 (fun H locs hM hb2 => ?_)
    refine lv_if_ne (tgt := 21) hC.1 hC.2.1 dX12_ith_16 (by decide) (fun hc8 => ?_) (fun hc8 => ?_)
    · have hf := o_f hc8 hf
      refine lv_iload_n hC.1 hC.2.1 dX12_ith_21 rfl (lv_at hl 2 rfl) ?_
      refine lv_aload_n hC.1 hC.2.1 dX12_ith_22 rfl (lv_at hl 0 rfl) ?_
      refine lv_iload_n hC.1 hC.2.1 dX12_ith_23 rfl (lv_at hl 1 rfl) ?_
      refine lv_iconst hC.1 hC.2.1 dX12_ith_24 ci_4 ?_
      obtain ⟨r3, M5, hq4, hf⟩ := o_b2 hf
      refine mw_cVi (As := [.int p1, .int 4]) (rest := [.int p2]) hC hM (mcX12_fewestFor V l M p1 4 r3 M5 hq4) (mw_kV hC q_1541 q_1543 q_81 q_120 q_1544 ⟨rfl, rfl⟩ kV_X12_fewestFor ⟨Nat.le_of_ble_eq_true rfl, Nat.le_of_ble_eq_true rfl⟩) (Nat.le_of_ble_eq_true rfl) (eR_0 V) rfl rfl rfl (Nat.le_of_ble_eq_true rfl) hl.1 dX12_ith_25 (fun H locs hM _ => ?_)
      refine lv_icmp_ge (tgt := 40) hC.1 hC.2.1 dX12_ith_28 (by decide) (fun hc7 => ?_) (fun hc7 => ?_)
      · have hf := o_t hc7 hf
        refine lv_bipush hC.1 hC.2.1 dX12_ith_40 cb_m3 ?_
        exact hret (o_r1 hf) (o_r2 hf hM) dX12_ith_42
      · have hf := o_f hc7 hf
        refine lv_aload_n hC.1 hC.2.1 dX12_ith_31 rfl (lv_at hl 0 rfl) ?_
        refine mw_get (v := .ref (mvA V 7)) hC hM 0 (Nat.le_of_ble_eq_true rfl) (eR_0 V) inW12 rfl 14 (by decide) q_1160 (fun _ h9 => h9) rfl dX12_ith_32 ?_
        refine lv_iload_n hC.1 hC.2.1 dX12_ith_35 rfl (lv_at hl 2 rfl) ?_
        obtain ⟨hg6, hf⟩ := o_g hf
        refine mw_iald hC hM 7 0 (Nat.le_of_ble_eq_true rfl) (eR_7 V) rfl hg6 dX12_ith_36 ?_
        refine lv_goto (tgt := 42) hC.1 hC.2.1 dX12_ith_37 (by decide) ?_
        exact hret (o_r1 hf) (o_r2 hf hM) dX12_ith_42
    · have hf := o_t hc8 hf
      refine lv_iconst hC.1 hC.2.1 dX12_ith_19 ci_m1 ?_
      exact hret (o_r1 hf) (o_r2 hf hM) dX12_ith_20
set_option maxHeartbeats 4000000 in
set_option maxRecDepth 100000 in
theorem mcX12_forgets (V : mV) (l : Launch) (M : mM) (r : Int32) (M' : mM) (hf : fX12_forgets M = some (r, M')) : UR V l yX12_forgets cX12_forgets 2 ({ frames := 0, cells := 0, slots := 0, locals := 0 } : Room) [.ref (mvA V 0)] M M' := by
  unfold fX12_forgets at hf
  refine mw_enterV RX12 rfl (by decide +kernel) (Nat.le_of_ble_eq_true rfl) (fun {p e s m args below meth c} ls A Q hC hret hM hl => ?_)
  have hl : lv_has ls 2 [(0, .ref (mvA V 0))] := hl
  have hL2 : ∀ (n : Nat) (M : mM) (x1 : Int32) (H : Heap) (locs : List Loc) (ls : Array Slot), fX12_forgets_L2 n M x1 = some (r, M') → PR V M A s H locs → lv_has ls 2 [(0, .ref (mvA V 0)), (1, .int x1)] → W p l e ({ frames := 0, cells := 0, slots := 0, locals := 0 } : Room) s m args below meth c H locs 0 0 Q (F0 m 2 ls []) := by
    intro n2
    induction n2 with
    | zero => intro M x1 H locs ls hf; cases hf
    | succ n2 ih2 =>
      intro M x1 H locs ls hf hM hl
      have hf : fX12_forgets_L2_b (fX12_forgets_L2 n2) M x1 = some (r, M') := hf
      unfold fX12_forgets_L2_b at hf
      refine lv_iload_n hC.1 hC.2.1 dX12_forgets_2 rfl (lv_at hl 1 rfl) ?_
      refine lv_bipush hC.1 hC.2.1 dX12_forgets_3 cb_24 ?_
      refine lv_icmp_ge (tgt := 21) hC.1 hC.2.1 dX12_forgets_5 (by decide) (fun hc2 => ?_) (fun hc2 => ?_)
      · have hf := o_t hc2 hf
        exact hret (o_r2 hf hM) dX12_forgets_21
      · have hf := o_f hc2 hf
        refine lv_aload_n hC.1 hC.2.1 dX12_forgets_8 rfl (lv_at hl 0 rfl) ?_
        refine mw_get (v := .ref (mvA V 8)) hC hM 0 (Nat.le_of_ble_eq_true rfl) (eR_0 V) inW12 rfl 15 (by decide) q_1161 (fun _ h9 => h9) rfl dX12_forgets_9 ?_
        refine lv_iload_n hC.1 hC.2.1 dX12_forgets_12 rfl (lv_at hl 1 rfl) ?_
        refine lv_iconst hC.1 hC.2.1 dX12_forgets_13 ci_0 ?_
        obtain ⟨hg1, hf⟩ := o_g hf
        refine mw_iast hC hM 8 0 (Nat.le_of_ble_eq_true rfl) (eR_8 V) rfl hg1 dX12_forgets_14 (fun H locs hM => ?_)
        refine lv_iinc (k := 1) (lv' := [(1, .int (x1 + 1)), (0, .ref (mvA V 0))]) hC.1 hC.2.1 dX12_forgets_15 hl rfl (inc_1 _) (Nat.le_of_ble_eq_true rfl) rfl (fun ls hl => ?_)
        refine lv_goto (tgt := 2) hC.1 hC.2.1 dX12_forgets_18 (by decide) ?_
        exact ih2 _ _ _ _ _ hf hM (lv_sub hl [1, 0] rfl)
  refine lv_iconst hC.1 hC.2.1 dX12_forgets_0 ci_0 ?_
  refine lv_istore_n (lv' := [(1, .int 0), (0, .ref (mvA V 0))]) hC.1 hC.2.1 dX12_forgets_1 rfl hl (Nat.le_of_ble_eq_true rfl) rfl (fun ls hl => ?_)
  exact hL2 _ _ _ _ _ _ hf hM (lv_sub hl [1, 0] rfl)
set_option maxHeartbeats 4000000 in
set_option maxRecDepth 100000 in
theorem mcX12_plans (V : mV) (l : Launch) : ∀ (d : Nat) (M : mM) (p1 : Int32) (r : Int32) (M' : mM), fX12_plans d M p1 = some (r, M') → UR V l yX12_plans cX12_plans 4 ({ frames := 7 + 1 * d, cells := 0, slots := 0, locals := 161 + 23 * d } : Room) [.ref (mvA V 0), .int p1] M M' := by
  intro d
  induction d with
  | zero => intro M p1 r M' hf; cases hf
  | succ d ih =>
    intro M p1 r M' hf
    have hf : fX12_plans_b (fX12_plans d) M p1 = some (r, M') := hf
    unfold fX12_plans_b at hf
    refine mw_enterV RX12 rfl (by decide +kernel) (Nat.le_of_ble_eq_true rfl) (fun {p e s m args below meth c} ls A Q hC hret hM hl => ?_)
    have hl : lv_has ls 4 [(0, .ref (mvA V 0)), (1, .int p1)] := hl
    have hL22 : ∀ (n : Nat) (M : mM) (x1 : Int32) (x2 : Int32) (H : Heap) (locs : List Loc) (ls : Array Slot), fX12_plans_L22 (fX12_plans d) n M x1 x2 = some (r, M') → PR V M A s H locs → lv_has ls 4 [(0, .ref (mvA V 0)), (1, .int x1), (2, .int x2)] → W p l e ({ frames := 7 + 1 * (d + 1), cells := 0, slots := 0, locals := 161 + 23 * (d + 1) } : Room) s m args below meth c H locs 0 0 Q (F0 m 22 ls []) := by
      intro n16
      induction n16 with
      | zero => intro M x1 x2 H locs ls hf; cases hf
      | succ n16 ih16 =>
        intro M x1 x2 H locs ls hf hM hl
        have hf : fX12_plans_L22_b (fX12_plans d) (fX12_plans_L22 (fX12_plans d) n16) M x1 x2 = some (r, M') := hf
        unfold fX12_plans_L22_b at hf
        refine lv_iload_n hC.1 hC.2.1 dX12_plans_22 rfl (lv_at hl 2 rfl) ?_
        refine lv_aload_n hC.1 hC.2.1 dX12_plans_23 rfl (lv_at hl 0 rfl) ?_
        refine mw_get (v := .ref (mvA V 1)) hC hM 0 (Nat.le_of_ble_eq_true rfl) (eR_0 V) inW12 rfl 0 (by decide) q_1146 (fun _ h9 => h9) rfl dX12_plans_24 ?_
        refine lv_iconst hC.1 hC.2.1 dX12_plans_27 ci_0 ?_
        obtain ⟨hg5, hf⟩ := o_g hf
        refine mw_iald hC hM 1 0 (Nat.le_of_ble_eq_true rfl) (eR_1 V) rfl hg5 dX12_plans_28 ?_
        refine lv_icmp_gt (tgt := 75) hC.1 hC.2.1 dX12_plans_29 (by decide) (fun hc26 => ?_) (fun hc26 => ?_)
        · have hf := o_t hc26 hf
          exact hret (o_r2 hf hM) dX12_plans_75
        · have hf := o_f hc26 hf
          refine lv_aload_n hC.1 hC.2.1 dX12_plans_32 rfl (lv_at hl 0 rfl) ?_
          refine lv_iload_n hC.1 hC.2.1 dX12_plans_33 rfl (lv_at hl 2 rfl) ?_
          obtain ⟨r6, M8, hq7, hf⟩ := o_b2 hf
          refine mw_cVv (As := [.int x2]) (rest := []) hC hM (mcX12_does V l M x2 r6 M8 hq7) (mw_kV hC q_1549 q_1551 q_83 q_120 q_1552 ⟨rfl, rfl⟩ kV_X12_does ⟨by dsimp only; omega, by dsimp only; omega⟩) (Nat.le_of_ble_eq_true rfl) (eR_0 V) rfl rfl rfl (Nat.le_of_ble_eq_true rfl) hl.1 dX12_plans_34 (fun H locs hM => ?_)
          refine lv_aload_n hC.1 hC.2.1 dX12_plans_37 rfl (lv_at hl 0 rfl) ?_
          refine lv_aload_n hC.1 hC.2.1 dX12_plans_38 rfl (lv_at hl 0 rfl) ?_
          obtain ⟨r9, M11, hq10, hf⟩ := o_b2 hf
          refine mw_cVi (As := []) (rest := [.ref (mvA V 0)]) hC hM (mcX12_sumNow V l M8 r9 M11 hq10) (mw_kV hC q_1460 q_1462 q_72 q_120 q_1463 ⟨rfl, rfl⟩ kV_X12_sumNow ⟨by dsimp only; omega, by dsimp only; omega⟩) (Nat.le_of_ble_eq_true rfl) (eR_0 V) rfl rfl rfl (Nat.le_of_ble_eq_true rfl) hl.1 dX12_plans_39 (fun H locs hM _ => ?_)
          obtain ⟨r12, hq13, hf⟩ := o_b hf
          refine mw_cVi (As := [.int r9]) (rest := []) hC hM (mcX12_moveBy V l M11 r9 r12 hq13) (mw_kV hC q_1472 q_1474 q_74 q_120 q_1475 ⟨rfl, rfl⟩ kV_X12_moveBy ⟨by dsimp only; omega, by dsimp only; omega⟩) (Nat.le_of_ble_eq_true rfl) (eR_0 V) rfl rfl rfl (Nat.le_of_ble_eq_true rfl) hl.1 dX12_plans_42 (fun H locs hM _ => ?_)
          refine lv_istore_n (lv' := [(3, .int r12), (0, .ref (mvA V 0)), (1, .int x1), (2, .int x2)]) hC.1 hC.2.1 dX12_plans_45 rfl hl (Nat.le_of_ble_eq_true rfl) rfl (fun ls hl => ?_)
          refine lv_aload_n hC.1 hC.2.1 dX12_plans_46 rfl (lv_at hl 1 rfl) ?_
          refine lv_iload_n hC.1 hC.2.1 dX12_plans_47 rfl (lv_at hl 0 rfl) ?_
          obtain ⟨r14, M16, hq15, hf⟩ := o_b2 hf
          refine mw_cVv (As := [.int r12]) (rest := []) hC hM (mcX12_turns V l M11 r12 r14 M16 hq15) (mw_kV hC q_1476 q_1478 q_75 q_120 q_1479 ⟨rfl, rfl⟩ kV_X12_turns ⟨by dsimp only; omega, by dsimp only; omega⟩) (Nat.le_of_ble_eq_true rfl) (eR_0 V) rfl rfl rfl (Nat.le_of_ble_eq_true rfl) hl.1 dX12_plans_48 (fun H locs hM => ?_)
          refine lv_aload_n hC.1 hC.2.1 dX12_plans_51 rfl (lv_at hl 1 rfl) ?_
          refine lv_iload_n hC.1 hC.2.1 dX12_plans_52 rfl (lv_at hl 2 rfl) ?_
          refine lv_iconst hC.1 hC.2.1 dX12_plans_53 ci_1 ?_
          refine lv_isub hC.1 hC.2.1 dX12_plans_54 ?_
          obtain ⟨r17, M19, hq18, hf⟩ := o_b2 hf
          refine mw_cVv (As := [.int (x1 - 1)]) (rest := []) hC hM (ih M16 (x1 - 1) r17 M19 hq18) (mw_kV hC q_1567 q_1569 q_85 q_120 q_1570 ⟨rfl, rfl⟩ kV_X12_plans ⟨by dsimp only; omega, by dsimp only; omega⟩) (Nat.le_of_ble_eq_true rfl) (eR_0 V) rfl rfl rfl (Nat.le_of_ble_eq_true rfl) hl.1 dX12_plans_55 (fun H locs hM => ?_)
          refine lv_aload_n hC.1 hC.2.1 dX12_plans_58 rfl (lv_at hl 1 rfl) ?_
          refine lv_iload_n hC.1 hC.2.1 dX12_plans_59 rfl (lv_at hl 0 rfl) ?_
          refine lv_ineg hC.1 hC.2.1 dX12_plans_60 ?_
          obtain ⟨r20, M22, hq21, hf⟩ := o_b2 hf
          refine mw_cVv (As := [.int (-r12)]) (rest := []) hC hM (mcX12_turns V l M19 (-r12) r20 M22 hq21) (mw_kV hC q_1476 q_1478 q_75 q_120 q_1479 ⟨rfl, rfl⟩ kV_X12_turns ⟨by dsimp only; omega, by dsimp only; omega⟩) (Nat.le_of_ble_eq_true rfl) (eR_0 V) rfl rfl rfl (Nat.le_of_ble_eq_true rfl) hl.1 dX12_plans_61 (fun H locs hM => ?_)
          refine lv_aload_n hC.1 hC.2.1 dX12_plans_64 rfl (lv_at hl 1 rfl) ?_
          refine lv_iload_n hC.1 hC.2.1 dX12_plans_65 rfl (lv_at hl 3 rfl) ?_
          obtain ⟨r23, M25, hq24, hf⟩ := o_b2 hf
          refine mw_cVv (As := [.int x2]) (rest := []) hC hM (mcX12_does V l M22 x2 r23 M25 hq24) (mw_kV hC q_1549 q_1551 q_83 q_120 q_1552 ⟨rfl, rfl⟩ kV_X12_does ⟨by dsimp only; omega, by dsimp only; omega⟩) (Nat.le_of_ble_eq_true rfl) (eR_0 V) rfl rfl rfl (Nat.le_of_ble_eq_true rfl) hl.1 dX12_plans_66 (fun H locs hM => ?_)
          refine lv_iinc (k := 3) (lv' := [(2, .int (x2 + 1)), (3, .int r12), (0, .ref (mvA V 0)), (1, .int x1)]) hC.1 hC.2.1 dX12_plans_69 hl rfl (inc_1 _) (Nat.le_of_ble_eq_true rfl) rfl (fun ls hl => ?_)
          refine lv_goto (tgt := 22) hC.1 hC.2.1 dX12_plans_72 (by decide) ?_
          exact ih16 _ _ _ _ _ _ hf hM (lv_sub hl [2, 3, 0] rfl)
    refine lv_iload_n hC.1 hC.2.1 dX12_plans_0 rfl (lv_at hl 1 rfl) ?_
    refine lv_if_ne (tgt := 20) hC.1 hC.2.1 dX12_plans_1 (by decide) (fun hc4 => ?_) (fun hc4 => ?_)
    · have hf := o_f hc4 hf
      refine lv_iconst hC.1 hC.2.1 dX12_plans_20 ci_0 ?_
      refine lv_istore_n (lv' := [(2, .int 0), (0, .ref (mvA V 0)), (1, .int p1)]) hC.1 hC.2.1 dX12_plans_21 rfl hl (Nat.le_of_ble_eq_true rfl) rfl (fun ls hl => ?_)
      exact hL22 _ _ _ _ _ _ _ hf hM (lv_sub hl [1, 2, 0] rfl)
    · have hf := o_t hc4 hf
      refine lv_aload_n hC.1 hC.2.1 dX12_plans_4 rfl (lv_at hl 0 rfl) ?_
      refine mw_get (v := .ref (mvA V 8)) hC hM 0 (Nat.le_of_ble_eq_true rfl) (eR_0 V) inW12 rfl 15 (by decide) q_1161 (fun _ h9 => h9) rfl dX12_plans_5 ?_
      refine lv_aload_n hC.1 hC.2.1 dX12_plans_8 rfl (lv_at hl 0 rfl) ?_
      refine mw_get (v := .ref (mvA V 1)) hC hM 0 (Nat.le_of_ble_eq_true rfl) (eR_0 V) inW12 rfl 0 (by decide) q_1146 (fun _ h9 => h9) rfl dX12_plans_9 ?_
      refine lv_iconst hC.1 hC.2.1 dX12_plans_12 ci_1 ?_
      obtain ⟨hg1, hf⟩ := o_g hf
      refine mw_iald hC hM 1 0 (Nat.le_of_ble_eq_true rfl) (eR_1 V) rfl hg1 dX12_plans_13 ?_
      refine lv_dup2_11 hC.1 hC.2.1 dX12_plans_14 rfl rfl ?_
      obtain ⟨hg2, hf⟩ := o_g hf
      refine mw_iald hC hM 8 0 (Nat.le_of_ble_eq_true rfl) (eR_8 V) rfl hg2 dX12_plans_15 ?_
      refine lv_iconst hC.1 hC.2.1 dX12_plans_16 ci_1 ?_
      refine lv_iadd hC.1 hC.2.1 dX12_plans_17 ?_
      obtain ⟨hg3, hf⟩ := o_g hf
      refine mw_iast hC hM 8 0 (Nat.le_of_ble_eq_true rfl) (eR_8 V) rfl hg3 dX12_plans_18 (fun H locs hM => ?_)
      exact hret (o_r2 hf hM) dX12_plans_19
set_option maxHeartbeats 4000000 in
set_option maxRecDepth 100000 in
theorem mcX12_ways (V : mV) (l : Launch) (M : mM) (p1 : Int32) (p2 : Int32) (r : Int32) (M' : mM) (hf : fX12_ways M p1 p2 = some (r, M')) : IR V l yX12_ways cX12_ways 3 ({ frames := 14, cells := 0, slots := 0, locals := 322 } : Room) [.ref (mvA V 0), .int p1, .int p2] M r M' := by
  unfold fX12_ways at hf
  refine mw_enterI RX12 rfl (by decide +kernel) (Nat.le_of_ble_eq_true rfl) (fun {p e s m args below meth c} ls A Q hC hret hM hl => ?_)
  have hl : lv_has ls 3 [(0, .ref (mvA V 0)), (1, .int p1), (2, .int p2)] := hl
  refine lv_iload_n hC.1 hC.2.1 dX12_ways_0 rfl (lv_at hl 1 rfl) ?_
  refine mw_cSi (As := [.int p1]) (rest := []) hC hM (mcX12_isHour V l M p1 _ rfl) (mw_kS hC q_1263 q_1264 q_120 q_1265 ⟨rfl, rfl⟩ kS_X12_isHour ⟨Nat.le_of_ble_eq_true rfl, Nat.le_of_ble_eq_true rfl⟩) rfl rfl (Nat.le_of_ble_eq_true rfl) hl.1 dX12_ways_1 (fun H locs hM hb1 => ?_)
  refine lv_if_eq (tgt := 19) hC.1 hC.2.1 dX12_ways_4 (by decide) (fun hc11 => ?_) (fun hc11 => ?_)
  · have hf := o_t hc11 hf
    refine lv_iconst hC.1 hC.2.1 dX12_ways_19 ci_m1 ?_
    exact hret (o_r1 hf) (o_r2 hf hM) dX12_ways_20
  · have hf := o_f hc11 hf
    refine lv_iload_n hC.1 hC.2.1 dX12_ways_7 rfl (lv_at hl 2 rfl) ?_
    refine lv_i2l (v := (Int32.toInt64 p2)) hC.1 hC.2.1 dX12_ways_8 rfl ?_
    refine lv_lconst (v := 0) hC.1 hC.2.1 dX12_ways_9 rfl ?_
    refine lv_ldc2 hC.1 hC.2.1 hC.2.2.2.1 (mw_w hC q_1562) dX12_ways_10 ?_
    refine mw_cSi (As := [.long (Int32.toInt64 p2), .long 0, .long 4]) (rest := []) hC hM (mcX12_in V l M (Int32.toInt64 p2) 0 4 _ rfl) (mw_kS hC q_1257 q_1258 q_120 q_1259 ⟨rfl, rfl⟩ kS_X12_in ⟨Nat.le_of_ble_eq_true rfl, Nat.le_of_ble_eq_true rfl⟩) rfl rfl (Nat.le_of_ble_eq_true rfl) hl.1 dX12_ways_13 (fun H locs hM hb2 => ?_)
    refine lv_if_ne (tgt := 21) hC.1 hC.2.1 dX12_ways_16 (by decide) (fun hc10 => ?_) (fun hc10 => ?_)
    · have hf := o_f hc10 hf
      refine lv_aload_n hC.1 hC.2.1 dX12_ways_21 rfl (lv_at hl 0 rfl) ?_
      obtain ⟨r3, M5, hq4, hf⟩ := o_b2 hf
      refine mw_cVv (As := []) (rest := []) hC hM (mcX12_forgets V l M r3 M5 hq4) (mw_kV hC q_1563 q_1565 q_84 q_120 q_1566 ⟨rfl, rfl⟩ kV_X12_forgets ⟨Nat.le_of_ble_eq_true rfl, Nat.le_of_ble_eq_true rfl⟩) (Nat.le_of_ble_eq_true rfl) (eR_0 V) rfl rfl rfl (Nat.le_of_ble_eq_true rfl) hl.1 dX12_ways_22 (fun H locs hM => ?_)
      refine lv_aload_n hC.1 hC.2.1 dX12_ways_25 rfl (lv_at hl 0 rfl) ?_
      refine lv_iload_n hC.1 hC.2.1 dX12_ways_26 rfl (lv_at hl 2 rfl) ?_
      obtain ⟨r6, M8, hq7, hf⟩ := o_b2 hf
      refine mw_cVv (As := [.int p2]) (rest := []) hC hM (mcX12_plans V l 6 M5 p2 r6 M8 hq7) (mw_kV hC q_1567 q_1569 q_85 q_120 q_1570 ⟨rfl, rfl⟩ kV_X12_plans ⟨Nat.le_of_ble_eq_true rfl, Nat.le_of_ble_eq_true rfl⟩) (Nat.le_of_ble_eq_true rfl) (eR_0 V) rfl rfl rfl (Nat.le_of_ble_eq_true rfl) hl.1 dX12_ways_27 (fun H locs hM => ?_)
      refine lv_aload_n hC.1 hC.2.1 dX12_ways_30 rfl (lv_at hl 0 rfl) ?_
      refine mw_get (v := .ref (mvA V 8)) hC hM 0 (Nat.le_of_ble_eq_true rfl) (eR_0 V) inW12 rfl 15 (by decide) q_1161 (fun _ h9 => h9) rfl dX12_ways_31 ?_
      refine lv_iload_n hC.1 hC.2.1 dX12_ways_34 rfl (lv_at hl 1 rfl) ?_
      obtain ⟨hg9, hf⟩ := o_g hf
      refine mw_iald hC hM 8 0 (Nat.le_of_ble_eq_true rfl) (eR_8 V) rfl hg9 dX12_ways_35 ?_
      exact hret (o_r1 hf) (o_r2 hf hM) dX12_ways_36
    · have hf := o_t hc10 hf
      refine lv_iconst hC.1 hC.2.1 dX12_ways_19 ci_m1 ?_
      exact hret (o_r1 hf) (o_r2 hf hM) dX12_ways_20
set_option maxHeartbeats 4000000 in
set_option maxRecDepth 100000 in
theorem mcX12_hours (V : mV) (l : Launch) (M : mM) (p1 : Int32) (r : Int32) (M' : mM) (hf : fX12_hours M p1 = some (r, M')) : IR V l yX12_hours cX12_hours 4 ({ frames := 14, cells := 0, slots := 0, locals := 322 } : Room) [.ref (mvA V 0), .int p1] M r M' := by
  unfold fX12_hours at hf
  refine mw_enterI RX12 rfl (by decide +kernel) (Nat.le_of_ble_eq_true rfl) (fun {p e s m args below meth c} ls A Q hC hret hM hl => ?_)
  have hl : lv_has ls 4 [(0, .ref (mvA V 0)), (1, .int p1)] := hl
  have hL27 : ∀ (n : Nat) (M : mM) (x2 : Int32) (x3 : Int32) (H : Heap) (locs : List Loc) (ls : Array Slot), fX12_hours_L27 n M x2 x3 = some (r, M') → PR V M A s H locs → lv_has ls 4 [(0, .ref (mvA V 0)), (2, .int x2), (3, .int x3)] → W p l e ({ frames := 14, cells := 0, slots := 0, locals := 322 } : Room) s m args below meth c H locs 0 0 Q (F0 m 27 ls []) := by
    intro n17
    induction n17 with
    | zero => intro M x2 x3 H locs ls hf; cases hf
    | succ n17 ih17 =>
      intro M x2 x3 H locs ls hf hM hl
      have hf : fX12_hours_L27_b (fX12_hours_L27 n17) M x2 x3 = some (r, M') := hf
      unfold fX12_hours_L27_b at hf
      refine lv_iload_n hC.1 hC.2.1 dX12_hours_27 rfl (lv_at hl 2 rfl) ?_
      refine lv_bipush hC.1 hC.2.1 dX12_hours_28 cb_24 ?_
      refine lv_icmp_ge (tgt := 58) hC.1 hC.2.1 dX12_hours_30 (by decide) (fun hc11 => ?_) (fun hc11 => ?_)
      · have hf := o_t hc11 hf
        refine lv_iload_n hC.1 hC.2.1 dX12_hours_58 rfl (lv_at hl 1 rfl) ?_
        exact hret (o_r1 hf) (o_r2 hf hM) dX12_hours_59
      · have hf := o_f hc11 hf
        refine lv_iload_n hC.1 hC.2.1 dX12_hours_33 rfl (lv_at hl 1 rfl) ?_
        refine lv_aload_n hC.1 hC.2.1 dX12_hours_34 rfl (lv_at hl 0 rfl) ?_
        refine mw_get (v := .ref (mvA V 8)) hC hM 0 (Nat.le_of_ble_eq_true rfl) (eR_0 V) inW12 rfl 15 (by decide) q_1161 (fun _ h9 => h9) rfl dX12_hours_35 ?_
        refine lv_iload_n hC.1 hC.2.1 dX12_hours_38 rfl (lv_at hl 2 rfl) ?_
        obtain ⟨hg9, hf⟩ := o_g hf
        refine mw_iald hC hM 8 0 (Nat.le_of_ble_eq_true rfl) (eR_8 V) rfl hg9 dX12_hours_39 ?_
        refine lv_if_le (tgt := 49) hC.1 hC.2.1 dX12_hours_40 (by decide) (fun hc10 => ?_) (fun hc10 => ?_)
        · have hf := o_t hc10 hf
          refine lv_iconst hC.1 hC.2.1 dX12_hours_49 ci_0 ?_
          refine lv_ior hC.1 hC.2.1 dX12_hours_50 ?_
          refine lv_istore_n (lv' := [(2, .int (x2 ||| 0)), (0, .ref (mvA V 0)), (3, .int x3)]) hC.1 hC.2.1 dX12_hours_51 rfl hl (Nat.le_of_ble_eq_true rfl) rfl (fun ls hl => ?_)
          refine lv_iinc (k := 2) (lv' := [(3, .int (x3 + 1)), (2, .int (x2 ||| 0)), (0, .ref (mvA V 0))]) hC.1 hC.2.1 dX12_hours_52 hl rfl (inc_1 _) (Nat.le_of_ble_eq_true rfl) rfl (fun ls hl => ?_)
          refine lv_goto (tgt := 27) hC.1 hC.2.1 dX12_hours_55 (by decide) ?_
          exact ih17 _ _ _ _ _ _ hf hM (lv_sub hl [2, 1, 0] rfl)
        · have hf := o_f hc10 hf
          refine lv_iconst hC.1 hC.2.1 dX12_hours_43 ci_1 ?_
          refine lv_iload_n hC.1 hC.2.1 dX12_hours_44 rfl (lv_at hl 2 rfl) ?_
          refine lv_ishl hC.1 hC.2.1 dX12_hours_45 ?_
          refine lv_goto (tgt := 50) hC.1 hC.2.1 dX12_hours_46 (by decide) ?_
          refine lv_ior hC.1 hC.2.1 dX12_hours_50 ?_
          refine lv_istore_n (lv' := [(2, .int (x2 ||| (1 <<< (x3 &&& 31)))), (0, .ref (mvA V 0)), (3, .int x3)]) hC.1 hC.2.1 dX12_hours_51 rfl hl (Nat.le_of_ble_eq_true rfl) rfl (fun ls hl => ?_)
          refine lv_iinc (k := 2) (lv' := [(3, .int (x3 + 1)), (2, .int (x2 ||| (1 <<< (x3 &&& 31)))), (0, .ref (mvA V 0))]) hC.1 hC.2.1 dX12_hours_52 hl rfl (inc_1 _) (Nat.le_of_ble_eq_true rfl) rfl (fun ls hl => ?_)
          refine lv_goto (tgt := 27) hC.1 hC.2.1 dX12_hours_55 (by decide) ?_
          exact ih17 _ _ _ _ _ _ hf hM (lv_sub hl [2, 1, 0] rfl)
  refine lv_iload_n hC.1 hC.2.1 dX12_hours_0 rfl (lv_at hl 1 rfl) ?_
  refine lv_i2l (v := (Int32.toInt64 p1)) hC.1 hC.2.1 dX12_hours_1 rfl ?_
  refine lv_lconst (v := 0) hC.1 hC.2.1 dX12_hours_2 rfl ?_
  refine lv_ldc2 hC.1 hC.2.1 hC.2.2.2.1 (mw_w hC q_1562) dX12_hours_3 ?_
  refine mw_cSi (As := [.long (Int32.toInt64 p1), .long 0, .long 4]) (rest := []) hC hM (mcX12_in V l M (Int32.toInt64 p1) 0 4 _ rfl) (mw_kS hC q_1257 q_1258 q_120 q_1259 ⟨rfl, rfl⟩ kS_X12_in ⟨Nat.le_of_ble_eq_true rfl, Nat.le_of_ble_eq_true rfl⟩) rfl rfl (Nat.le_of_ble_eq_true rfl) hl.1 dX12_hours_6 (fun H locs hM hb1 => ?_)
  refine lv_if_ne (tgt := 14) hC.1 hC.2.1 dX12_hours_9 (by decide) (fun hc8 => ?_) (fun hc8 => ?_)
  · have hf := o_f hc8 hf
    refine lv_aload_n hC.1 hC.2.1 dX12_hours_14 rfl (lv_at hl 0 rfl) ?_
    obtain ⟨r2, M4, hq3, hf⟩ := o_b2 hf
    refine mw_cVv (As := []) (rest := []) hC hM (mcX12_forgets V l M r2 M4 hq3) (mw_kV hC q_1563 q_1565 q_84 q_120 q_1566 ⟨rfl, rfl⟩ kV_X12_forgets ⟨Nat.le_of_ble_eq_true rfl, Nat.le_of_ble_eq_true rfl⟩) (Nat.le_of_ble_eq_true rfl) (eR_0 V) rfl rfl rfl (Nat.le_of_ble_eq_true rfl) hl.1 dX12_hours_15 (fun H locs hM => ?_)
    refine lv_aload_n hC.1 hC.2.1 dX12_hours_18 rfl (lv_at hl 0 rfl) ?_
    refine lv_iload_n hC.1 hC.2.1 dX12_hours_19 rfl (lv_at hl 1 rfl) ?_
    obtain ⟨r5, M7, hq6, hf⟩ := o_b2 hf
    refine mw_cVv (As := [.int p1]) (rest := []) hC hM (mcX12_plans V l 6 M4 p1 r5 M7 hq6) (mw_kV hC q_1567 q_1569 q_85 q_120 q_1570 ⟨rfl, rfl⟩ kV_X12_plans ⟨Nat.le_of_ble_eq_true rfl, Nat.le_of_ble_eq_true rfl⟩) (Nat.le_of_ble_eq_true rfl) (eR_0 V) rfl rfl rfl (Nat.le_of_ble_eq_true rfl) hl.1 dX12_hours_20 (fun H locs hM => ?_)
    refine lv_iconst hC.1 hC.2.1 dX12_hours_23 ci_0 ?_
    refine lv_istore_n (lv' := [(2, .int 0), (0, .ref (mvA V 0)), (1, .int p1)]) hC.1 hC.2.1 dX12_hours_24 rfl hl (Nat.le_of_ble_eq_true rfl) rfl (fun ls hl => ?_)
    refine lv_iconst hC.1 hC.2.1 dX12_hours_25 ci_0 ?_
    refine lv_istore_n (lv' := [(3, .int 0), (2, .int 0), (0, .ref (mvA V 0)), (1, .int p1)]) hC.1 hC.2.1 dX12_hours_26 rfl hl (Nat.le_of_ble_eq_true rfl) rfl (fun ls hl => ?_)
    exact hL27 _ _ _ _ _ _ _ hf hM (lv_sub hl [2, 1, 0] rfl)
  · have hf := o_t hc8 hf
    refine lv_iconst hC.1 hC.2.1 dX12_hours_12 ci_m1 ?_
    exact hret (o_r1 hf) (o_r2 hf hM) dX12_hours_13
set_option maxHeartbeats 4000000 in
set_option maxRecDepth 100000 in
theorem mcX12_limitFor (V : mV) (l : Launch) (M : mM) (p1 : Int32) (p2 : Int32) (r : Int32) (M' : mM) (hf : fX12_limitFor M p1 p2 = some (r, M')) : IR V l yX12_limitFor cX12_limitFor 5 ({ frames := 15, cells := 0, slots := 0, locals := 366 } : Room) [.ref (mvA V 0), .int p1, .int p2] M r M' := by
  unfold fX12_limitFor at hf
  refine mw_enterI RX12 rfl (by decide +kernel) (Nat.le_of_ble_eq_true rfl) (fun {p e s m args below meth c} ls A Q hC hret hM hl => ?_)
  have hl : lv_has ls 5 [(0, .ref (mvA V 0)), (1, .int p1), (2, .int p2)] := hl
  have hL68 : ∀ (M : mM) (x3 : Int32) (x4 : Int32) (H : Heap) (locs : List Loc) (ls : Array Slot), fX12_limitFor_L68 M x3 x4 = some (r, M') → PR V M A s H locs → lv_has ls 5 [(0, .ref (mvA V 0)), (3, .int x3), (4, .int x4)] → W p l e ({ frames := 15, cells := 0, slots := 0, locals := 366 } : Room) s m args below meth c H locs 0 0 Q (F0 m 68 ls []) := by
    intro M x3 x4 H locs ls hf hM hl
    unfold fX12_limitFor_L68 at hf
    refine lv_aload_n hC.1 hC.2.1 dX12_limitFor_68 rfl (lv_at hl 0 rfl) ?_
    refine mw_get (v := .ref (mvA V 1)) hC hM 0 (Nat.le_of_ble_eq_true rfl) (eR_0 V) inW12 rfl 0 (by decide) q_1146 (fun _ h9 => h9) rfl dX12_limitFor_69 ?_
    refine lv_iconst hC.1 hC.2.1 dX12_limitFor_72 ci_3 ?_
    refine lv_iload_n hC.1 hC.2.1 dX12_limitFor_73 rfl (lv_at hl 1 rfl) ?_
    obtain ⟨hg13, hf⟩ := o_g hf
    refine mw_iast hC hM 1 0 (Nat.le_of_ble_eq_true rfl) (eR_1 V) rfl hg13 dX12_limitFor_74 (fun H locs hM => ?_)
    refine lv_iload hC.1 hC.2.1 dX12_limitFor_75 (lv_at hl 2 rfl) ?_
    refine lv_if_lt (tgt := 85) hC.1 hC.2.1 dX12_limitFor_77 (by decide) (fun hc14 => ?_) (fun hc14 => ?_)
    · have hf := o_t hc14 hf
      refine lv_bipush hC.1 hC.2.1 dX12_limitFor_85 cb_m3 ?_
      exact hret (o_r1 hf) (o_r2 hf hM) dX12_limitFor_87
    · have hf := o_f hc14 hf
      refine lv_iload hC.1 hC.2.1 dX12_limitFor_80 (lv_at hl 2 rfl) ?_
      refine lv_goto (tgt := 87) hC.1 hC.2.1 dX12_limitFor_82 (by decide) ?_
      exact hret (o_r1 hf) (o_r2 hf hM) dX12_limitFor_87
  have hL40 : ∀ (n : Nat) (M : mM) (x1 : Int32) (x2 : Int32) (x3 : Int32) (x4 : Int32) (H : Heap) (locs : List Loc) (ls : Array Slot), fX12_limitFor_L40 n M x1 x2 x3 x4 = some (r, M') → PR V M A s H locs → lv_has ls 5 [(0, .ref (mvA V 0)), (1, .int x1), (2, .int x2), (3, .int x3), (4, .int x4)] → W p l e ({ frames := 15, cells := 0, slots := 0, locals := 366 } : Room) s m args below meth c H locs 0 0 Q (F0 m 40 ls []) := by
    intro n23
    induction n23 with
    | zero => intro M x1 x2 x3 x4 H locs ls hf; cases hf
    | succ n23 ih23 =>
      intro M x1 x2 x3 x4 H locs ls hf hM hl
      have hf : fX12_limitFor_L40_b (fX12_limitFor_L40 n23) M x1 x2 x3 x4 = some (r, M') := hf
      unfold fX12_limitFor_L40_b at hf
      refine lv_iload hC.1 hC.2.1 dX12_limitFor_40 (lv_at hl 4 rfl) ?_
      refine lv_if_lt (tgt := 68) hC.1 hC.2.1 dX12_limitFor_42 (by decide) (fun hc12 => ?_) (fun hc12 => ?_)
      · have hf := o_t hc12 hf
        exact hL68 _ _ _ _ _ _ hf hM (lv_sub hl [0, 3, 4] rfl)
      · have hf := o_f hc12 hf
        refine lv_aload_n hC.1 hC.2.1 dX12_limitFor_45 rfl (lv_at hl 0 rfl) ?_
        refine lv_iload_n hC.1 hC.2.1 dX12_limitFor_46 rfl (lv_at hl 1 rfl) ?_
        refine lv_iload_n hC.1 hC.2.1 dX12_limitFor_47 rfl (lv_at hl 2 rfl) ?_
        obtain ⟨r7, M9, hq8, hf⟩ := o_b2 hf
        refine mw_cVi (As := [.int x1, .int x2]) (rest := []) hC hM (mcX12_fewestFor V l M x1 x2 r7 M9 hq8) (mw_kV hC q_1541 q_1543 q_81 q_120 q_1544 ⟨rfl, rfl⟩ kV_X12_fewestFor ⟨Nat.le_of_ble_eq_true rfl, Nat.le_of_ble_eq_true rfl⟩) (Nat.le_of_ble_eq_true rfl) (eR_0 V) rfl rfl rfl (Nat.le_of_ble_eq_true rfl) hl.1 dX12_limitFor_48 (fun H locs hM _ => ?_)
        refine lv_if_ge (tgt := 68) hC.1 hC.2.1 dX12_limitFor_51 (by decide) (fun hc11 => ?_) (fun hc11 => ?_)
        · have hf := o_t hc11 hf
          exact hL68 _ _ _ _ _ _ hf hM (lv_sub hl [0, 3, 4] rfl)
        · have hf := o_f hc11 hf
          refine lv_iinc (k := 4) (lv' := [(4, .int (x4 + (-1))), (0, .ref (mvA V 0)), (1, .int x1), (2, .int x2), (3, .int x3)]) hC.1 hC.2.1 dX12_limitFor_54 hl rfl (inc_m1 _) (Nat.le_of_ble_eq_true rfl) rfl (fun ls hl => ?_)
          refine lv_aload_n hC.1 hC.2.1 dX12_limitFor_57 rfl (lv_at hl 1 rfl) ?_
          refine mw_get (v := .ref (mvA V 1)) hC hM 0 (Nat.le_of_ble_eq_true rfl) (eR_0 V) inW12 rfl 0 (by decide) q_1146 (fun _ h9 => h9) rfl dX12_limitFor_58 ?_
          refine lv_iconst hC.1 hC.2.1 dX12_limitFor_61 ci_3 ?_
          refine lv_iload hC.1 hC.2.1 dX12_limitFor_62 (lv_at hl 0 rfl) ?_
          obtain ⟨hg10, hf⟩ := o_g hf
          refine mw_iast hC hM 1 0 (Nat.le_of_ble_eq_true rfl) (eR_1 V) rfl hg10 dX12_limitFor_64 (fun H locs hM => ?_)
          refine lv_goto (tgt := 40) hC.1 hC.2.1 dX12_limitFor_65 (by decide) ?_
          exact ih23 _ _ _ _ _ _ _ _ hf hM (lv_sub hl [1, 2, 3, 4, 0] rfl)
  refine lv_iload_n hC.1 hC.2.1 dX12_limitFor_0 rfl (lv_at hl 1 rfl) ?_
  refine mw_cSi (As := [.int p1]) (rest := []) hC hM (mcX12_isHour V l M p1 _ rfl) (mw_kS hC q_1263 q_1264 q_120 q_1265 ⟨rfl, rfl⟩ kS_X12_isHour ⟨Nat.le_of_ble_eq_true rfl, Nat.le_of_ble_eq_true rfl⟩) rfl rfl (Nat.le_of_ble_eq_true rfl) hl.1 dX12_limitFor_1 (fun H locs hM hb1 => ?_)
  refine lv_if_eq (tgt := 19) hC.1 hC.2.1 dX12_limitFor_4 (by decide) (fun hc6 => ?_) (fun hc6 => ?_)
  · have hf := o_t hc6 hf
    refine lv_iconst hC.1 hC.2.1 dX12_limitFor_19 ci_m1 ?_
    exact hret (o_r1 hf) (o_r2 hf hM) dX12_limitFor_20
  · have hf := o_f hc6 hf
    refine lv_iload_n hC.1 hC.2.1 dX12_limitFor_7 rfl (lv_at hl 2 rfl) ?_
    refine lv_i2l (v := (Int32.toInt64 p2)) hC.1 hC.2.1 dX12_limitFor_8 rfl ?_
    refine lv_lconst (v := 1) hC.1 hC.2.1 dX12_limitFor_9 rfl ?_
    refine lv_ldc2 hC.1 hC.2.1 hC.2.2.2.1 (mw_w hC q_1557) dX12_limitFor_10 ?_
    refine mw_cSi (As := [.long (Int32.toInt64 p2), .long 1, .long 3]) (rest := []) hC hM (mcX12_in V l M (Int32.toInt64 p2) 1 3 _ rfl) (mw_kS hC q_1257 q_1258 q_120 q_1259 ⟨rfl, rfl⟩ kS_X12_in ⟨Nat.le_of_ble_eq_true rfl, Nat.le_of_ble_eq_true rfl⟩) rfl rfl (Nat.le_of_ble_eq_true rfl) hl.1 dX12_limitFor_13 (fun H locs hM hb2 => ?_)
    refine lv_if_ne (tgt := 21) hC.1 hC.2.1 dX12_limitFor_16 (by decide) (fun hc5 => ?_) (fun hc5 => ?_)
    · have hf := o_f hc5 hf
      refine lv_aload_n hC.1 hC.2.1 dX12_limitFor_21 rfl (lv_at hl 0 rfl) ?_
      refine mw_get (v := .ref (mvA V 1)) hC hM 0 (Nat.le_of_ble_eq_true rfl) (eR_0 V) inW12 rfl 0 (by decide) q_1146 (fun _ h9 => h9) rfl dX12_limitFor_22 ?_
      refine lv_iconst hC.1 hC.2.1 dX12_limitFor_25 ci_3 ?_
      obtain ⟨hg3, hf⟩ := o_g hf
      refine mw_iald hC hM 1 0 (Nat.le_of_ble_eq_true rfl) (eR_1 V) rfl hg3 dX12_limitFor_26 ?_
      refine lv_istore_n (lv' := [(3, .int (M 1 (Int32.toNatClampNeg 3))), (0, .ref (mvA V 0)), (1, .int p1), (2, .int p2)]) hC.1 hC.2.1 dX12_limitFor_27 rfl hl (Nat.le_of_ble_eq_true rfl) rfl (fun ls hl => ?_)
      refine lv_bipush hC.1 hC.2.1 dX12_limitFor_28 cb_99 ?_
      refine lv_istore (lv' := [(4, .int 99), (3, .int (M 1 (Int32.toNatClampNeg 3))), (0, .ref (mvA V 0)), (1, .int p1), (2, .int p2)]) hC.1 hC.2.1 dX12_limitFor_30 hl (Nat.le_of_ble_eq_true rfl) rfl (fun ls hl => ?_)
      refine lv_aload_n hC.1 hC.2.1 dX12_limitFor_32 rfl (lv_at hl 2 rfl) ?_
      refine mw_get (v := .ref (mvA V 1)) hC hM 0 (Nat.le_of_ble_eq_true rfl) (eR_0 V) inW12 rfl 0 (by decide) q_1146 (fun _ h9 => h9) rfl dX12_limitFor_33 ?_
      refine lv_iconst hC.1 hC.2.1 dX12_limitFor_36 ci_3 ?_
      refine lv_iload hC.1 hC.2.1 dX12_limitFor_37 (lv_at hl 0 rfl) ?_
      obtain ⟨hg4, hf⟩ := o_g hf
      refine mw_iast hC hM 1 0 (Nat.le_of_ble_eq_true rfl) (eR_1 V) rfl hg4 dX12_limitFor_39 (fun H locs hM => ?_)
      exact hL40 _ _ _ _ _ _ _ _ _ hf hM (lv_sub hl [2, 3, 4, 1, 0] rfl)
    · have hf := o_t hc5 hf
      refine lv_iconst hC.1 hC.2.1 dX12_limitFor_19 ci_m1 ?_
      exact hret (o_r1 hf) (o_r2 hf hM) dX12_limitFor_20
set_option maxHeartbeats 4000000 in
set_option maxRecDepth 100000 in
theorem mcX12_worth (V : mV) (l : Launch) : ∀ (d : Nat) (M : mM) (p1 : Int32) (p2 : Int32) (r : Int32) (M' : mM), fX12_worth d M p1 p2 = some (r, M') → IR V l yX12_worth cX12_worth 8 ({ frames := 7 + 1 * d, cells := 0, slots := 0, locals := 161 + 27 * d } : Room) [.ref (mvA V 0), .int p1, .int p2] M r M' := by
  intro d
  induction d with
  | zero => intro M p1 p2 r M' hf; cases hf
  | succ d ih =>
    intro M p1 p2 r M' hf
    have hf : fX12_worth_b (fX12_worth d) M p1 p2 = some (r, M') := hf
    unfold fX12_worth_b at hf
    refine mw_enterI RX12 rfl (by decide +kernel) (Nat.le_of_ble_eq_true rfl) (fun {p e s m args below meth c} ls A Q hC hret hM hl => ?_)
    have hl : lv_has ls 8 [(0, .ref (mvA V 0)), (1, .int p1), (2, .int p2)] := hl
    have hL14 : ∀ (n : Nat) (M : mM) (x1 : Int32) (x2 : Int32) (x3 : Int32) (x4 : Int32) (x5 : Int32) (H : Heap) (locs : List Loc) (ls : Array Slot), fX12_worth_L14 (fX12_worth d) n M x1 x2 x3 x4 x5 = some (r, M') → PR V M A s H locs → lv_has ls 8 [(0, .ref (mvA V 0)), (1, .int x1), (2, .int x2), (3, .int x3), (4, .int x4), (5, .int x5)] → W p l e ({ frames := 7 + 1 * (d + 1), cells := 0, slots := 0, locals := 161 + 27 * (d + 1) } : Room) s m args below meth c H locs 0 0 Q (F0 m 14 ls []) := by
      intro n10
      induction n10 with
      | zero => intro M x1 x2 x3 x4 x5 H locs ls hf; cases hf
      | succ n10 ih10 =>
        intro M x1 x2 x3 x4 x5 H locs ls hf hM hl
        have hf : fX12_worth_L14_b (fX12_worth d) (fX12_worth_L14 (fX12_worth d) n10) M x1 x2 x3 x4 x5 = some (r, M') := hf
        unfold fX12_worth_L14_b at hf
        have hL62 : ∀ (M : mM) (x1 : Int32) (x2 : Int32) (x3 : Int32) (x4 : Int32) (x5 : Int32) (x6 : Int32) (t0 : Int32) (t2 : Int32) (t3 : Int32) (H : Heap) (locs : List Loc) (ls : Array Slot), fX12_worth_L62 (fX12_worth d) (fX12_worth_L14 (fX12_worth d) n10) M x1 x2 x3 x4 x5 x6 t0 t2 t3 = some (r, M') → PR V M A s H locs → lv_has ls 8 [(0, .ref (mvA V 0)), (1, .int x1), (2, .int x2), (3, .int x3), (4, .int x4), (5, .int x5), (6, .int x6)] → W p l e ({ frames := 7 + 1 * (d + 1), cells := 0, slots := 0, locals := 161 + 27 * (d + 1) } : Room) s m args below meth c H locs 0 0 Q (F0 m 62 ls [.int t3, .int t2, .ref (mvA V 0), .int t0]) := by
          intro M x1 x2 x3 x4 x5 x6 t0 t2 t3 H locs ls hf hM hl
          unfold fX12_worth_L62 at hf
          obtain ⟨r16, M18, hq17, hf⟩ := o_b2 hf
          refine mw_cVi (As := [.int t2, .int t3]) (rest := [.int t0]) hC hM (ih M t2 t3 r16 M18 hq17) (mw_kV hC q_1583 q_1585 q_86 q_120 q_1586 ⟨rfl, rfl⟩ kV_X12_worth ⟨by dsimp only; omega, by dsimp only; omega⟩) (Nat.le_of_ble_eq_true rfl) (eR_0 V) rfl rfl rfl (Nat.le_of_ble_eq_true rfl) hl.1 dX12_worth_62 (fun H locs hM _ => ?_)
          refine lv_iadd hC.1 hC.2.1 dX12_worth_65 ?_
          refine lv_istore (lv' := [(7, .int (t0 + r16)), (0, .ref (mvA V 0)), (1, .int x1), (2, .int x2), (3, .int x3), (4, .int x4), (5, .int x5), (6, .int x6)]) hC.1 hC.2.1 dX12_worth_66 hl (Nat.le_of_ble_eq_true rfl) rfl (fun ls hl => ?_)
          refine lv_aload_n hC.1 hC.2.1 dX12_worth_68 rfl (lv_at hl 1 rfl) ?_
          refine lv_iload hC.1 hC.2.1 dX12_worth_69 (lv_at hl 7 rfl) ?_
          refine lv_ineg hC.1 hC.2.1 dX12_worth_71 ?_
          obtain ⟨r19, M21, hq20, hf⟩ := o_b2 hf
          refine mw_cVv (As := [.int (-x6)]) (rest := []) hC hM (mcX12_turns V l M18 (-x6) r19 M21 hq20) (mw_kV hC q_1476 q_1478 q_75 q_120 q_1479 ⟨rfl, rfl⟩ kV_X12_turns ⟨by dsimp only; omega, by dsimp only; omega⟩) (Nat.le_of_ble_eq_true rfl) (eR_0 V) rfl rfl rfl (Nat.le_of_ble_eq_true rfl) hl.1 dX12_worth_72 (fun H locs hM => ?_)
          refine lv_aload_n hC.1 hC.2.1 dX12_worth_75 rfl (lv_at hl 1 rfl) ?_
          refine lv_iload hC.1 hC.2.1 dX12_worth_76 (lv_at hl 6 rfl) ?_
          obtain ⟨r22, M24, hq23, hf⟩ := o_b2 hf
          refine mw_cVv (As := [.int x5]) (rest := []) hC hM (mcX12_does V l M21 x5 r22 M24 hq23) (mw_kV hC q_1549 q_1551 q_83 q_120 q_1552 ⟨rfl, rfl⟩ kV_X12_does ⟨by dsimp only; omega, by dsimp only; omega⟩) (Nat.le_of_ble_eq_true rfl) (eR_0 V) rfl rfl rfl (Nat.le_of_ble_eq_true rfl) hl.1 dX12_worth_78 (fun H locs hM => ?_)
          refine lv_iload hC.1 hC.2.1 dX12_worth_81 (lv_at hl 5 rfl) ?_
          refine lv_if_lt (tgt := 105) hC.1 hC.2.1 dX12_worth_83 (by decide) (fun hc28 => ?_) (fun hc28 => ?_)
          · have hf := o_t hc28 hf
            refine lv_iload hC.1 hC.2.1 dX12_worth_105 (lv_at hl 0 rfl) ?_
            refine lv_istore_n (lv' := [(3, .int (t0 + r16)), (7, .int (t0 + r16)), (0, .ref (mvA V 0)), (1, .int x1), (2, .int x2), (4, .int x4), (5, .int x5), (6, .int x6)]) hC.1 hC.2.1 dX12_worth_107 rfl hl (Nat.le_of_ble_eq_true rfl) rfl (fun ls hl => ?_)
            refine lv_iload hC.1 hC.2.1 dX12_worth_108 (lv_at hl 6 rfl) ?_
            refine lv_istore (lv' := [(4, .int x5), (3, .int (t0 + r16)), (7, .int (t0 + r16)), (0, .ref (mvA V 0)), (1, .int x1), (2, .int x2), (5, .int x5), (6, .int x6)]) hC.1 hC.2.1 dX12_worth_110 hl (Nat.le_of_ble_eq_true rfl) rfl (fun ls hl => ?_)
            refine lv_iinc (k := 6) (lv' := [(5, .int (x5 + 1)), (4, .int x5), (3, .int (t0 + r16)), (7, .int (t0 + r16)), (0, .ref (mvA V 0)), (1, .int x1), (2, .int x2), (6, .int x6)]) hC.1 hC.2.1 dX12_worth_112 hl rfl (inc_1 _) (Nat.le_of_ble_eq_true rfl) rfl (fun ls hl => ?_)
            refine lv_goto (tgt := 14) hC.1 hC.2.1 dX12_worth_115 (by decide) ?_
            exact ih10 _ _ _ _ _ _ _ _ _ hf hM (lv_sub hl [4, 5, 6, 2, 1, 0] rfl)
          · have hf := o_f hc28 hf
            refine lv_iload_n hC.1 hC.2.1 dX12_worth_86 rfl (lv_at hl 3 rfl) ?_
            refine lv_if_eq (tgt := 99) hC.1 hC.2.1 dX12_worth_87 (by decide) (fun hc27 => ?_) (fun hc27 => ?_)
            · have hf := o_t hc27 hf
              refine lv_iload hC.1 hC.2.1 dX12_worth_99 (lv_at hl 0 rfl) ?_
              refine lv_iload_n hC.1 hC.2.1 dX12_worth_101 rfl (lv_at hl 4 rfl) ?_
              refine lv_icmp_ge (tgt := 112) hC.1 hC.2.1 dX12_worth_102 (by decide) (fun hc25 => ?_) (fun hc25 => ?_)
              · have hf := o_t hc25 hf
                refine lv_iinc (k := 6) (lv' := [(5, .int (x5 + 1)), (7, .int (t0 + r16)), (0, .ref (mvA V 0)), (1, .int x1), (2, .int x2), (3, .int x3), (4, .int x4), (6, .int x6)]) hC.1 hC.2.1 dX12_worth_112 hl rfl (inc_1 _) (Nat.le_of_ble_eq_true rfl) rfl (fun ls hl => ?_)
                refine lv_goto (tgt := 14) hC.1 hC.2.1 dX12_worth_115 (by decide) ?_
                exact ih10 _ _ _ _ _ _ _ _ _ hf hM (lv_sub hl [2, 3, 4, 5, 6, 0] rfl)
              · have hf := o_f hc25 hf
                refine lv_iload hC.1 hC.2.1 dX12_worth_105 (lv_at hl 0 rfl) ?_
                refine lv_istore_n (lv' := [(3, .int (t0 + r16)), (7, .int (t0 + r16)), (0, .ref (mvA V 0)), (1, .int x1), (2, .int x2), (4, .int x4), (5, .int x5), (6, .int x6)]) hC.1 hC.2.1 dX12_worth_107 rfl hl (Nat.le_of_ble_eq_true rfl) rfl (fun ls hl => ?_)
                refine lv_iload hC.1 hC.2.1 dX12_worth_108 (lv_at hl 6 rfl) ?_
                refine lv_istore (lv' := [(4, .int x5), (3, .int (t0 + r16)), (7, .int (t0 + r16)), (0, .ref (mvA V 0)), (1, .int x1), (2, .int x2), (5, .int x5), (6, .int x6)]) hC.1 hC.2.1 dX12_worth_110 hl (Nat.le_of_ble_eq_true rfl) rfl (fun ls hl => ?_)
                refine lv_iinc (k := 6) (lv' := [(5, .int (x5 + 1)), (4, .int x5), (3, .int (t0 + r16)), (7, .int (t0 + r16)), (0, .ref (mvA V 0)), (1, .int x1), (2, .int x2), (6, .int x6)]) hC.1 hC.2.1 dX12_worth_112 hl rfl (inc_1 _) (Nat.le_of_ble_eq_true rfl) rfl (fun ls hl => ?_)
                refine lv_goto (tgt := 14) hC.1 hC.2.1 dX12_worth_115 (by decide) ?_
                exact ih10 _ _ _ _ _ _ _ _ _ hf hM (lv_sub hl [4, 5, 6, 2, 1, 0] rfl)
            · have hf := o_f hc27 hf
              refine lv_iload hC.1 hC.2.1 dX12_worth_90 (lv_at hl 0 rfl) ?_
              refine lv_iload_n hC.1 hC.2.1 dX12_worth_92 rfl (lv_at hl 4 rfl) ?_
              refine lv_icmp_le (tgt := 112) hC.1 hC.2.1 dX12_worth_93 (by decide) (fun hc26 => ?_) (fun hc26 => ?_)
              · have hf := o_t hc26 hf
                refine lv_iinc (k := 6) (lv' := [(5, .int (x5 + 1)), (7, .int (t0 + r16)), (0, .ref (mvA V 0)), (1, .int x1), (2, .int x2), (3, .int x3), (4, .int x4), (6, .int x6)]) hC.1 hC.2.1 dX12_worth_112 hl rfl (inc_1 _) (Nat.le_of_ble_eq_true rfl) rfl (fun ls hl => ?_)
                refine lv_goto (tgt := 14) hC.1 hC.2.1 dX12_worth_115 (by decide) ?_
                exact ih10 _ _ _ _ _ _ _ _ _ hf hM (lv_sub hl [2, 3, 4, 5, 6, 0] rfl)
              · have hf := o_f hc26 hf
                refine lv_goto (tgt := 105) hC.1 hC.2.1 dX12_worth_96 (by decide) ?_
                refine lv_iload hC.1 hC.2.1 dX12_worth_105 (lv_at hl 0 rfl) ?_
                refine lv_istore_n (lv' := [(3, .int (t0 + r16)), (7, .int (t0 + r16)), (0, .ref (mvA V 0)), (1, .int x1), (2, .int x2), (4, .int x4), (5, .int x5), (6, .int x6)]) hC.1 hC.2.1 dX12_worth_107 rfl hl (Nat.le_of_ble_eq_true rfl) rfl (fun ls hl => ?_)
                refine lv_iload hC.1 hC.2.1 dX12_worth_108 (lv_at hl 6 rfl) ?_
                refine lv_istore (lv' := [(4, .int x5), (3, .int (t0 + r16)), (7, .int (t0 + r16)), (0, .ref (mvA V 0)), (1, .int x1), (2, .int x2), (5, .int x5), (6, .int x6)]) hC.1 hC.2.1 dX12_worth_110 hl (Nat.le_of_ble_eq_true rfl) rfl (fun ls hl => ?_)
                refine lv_iinc (k := 6) (lv' := [(5, .int (x5 + 1)), (4, .int x5), (3, .int (t0 + r16)), (7, .int (t0 + r16)), (0, .ref (mvA V 0)), (1, .int x1), (2, .int x2), (6, .int x6)]) hC.1 hC.2.1 dX12_worth_112 hl rfl (inc_1 _) (Nat.le_of_ble_eq_true rfl) rfl (fun ls hl => ?_)
                refine lv_goto (tgt := 14) hC.1 hC.2.1 dX12_worth_115 (by decide) ?_
                exact ih10 _ _ _ _ _ _ _ _ _ hf hM (lv_sub hl [4, 5, 6, 2, 1, 0] rfl)
        refine lv_iload hC.1 hC.2.1 dX12_worth_14 (lv_at hl 5 rfl) ?_
        refine lv_aload_n hC.1 hC.2.1 dX12_worth_16 rfl (lv_at hl 0 rfl) ?_
        refine mw_get (v := .ref (mvA V 1)) hC hM 0 (Nat.le_of_ble_eq_true rfl) (eR_0 V) inW12 rfl 0 (by decide) q_1146 (fun _ h9 => h9) rfl dX12_worth_17 ?_
        refine lv_iconst hC.1 hC.2.1 dX12_worth_20 ci_0 ?_
        obtain ⟨hg2, hf⟩ := o_g hf
        refine mw_iald hC hM 1 0 (Nat.le_of_ble_eq_true rfl) (eR_1 V) rfl hg2 dX12_worth_21 ?_
        refine lv_icmp_gt (tgt := 118) hC.1 hC.2.1 dX12_worth_22 (by decide) (fun hc15 => ?_) (fun hc15 => ?_)
        · have hf := o_t hc15 hf
          refine lv_aload_n hC.1 hC.2.1 dX12_worth_118 rfl (lv_at hl 0 rfl) ?_
          refine lv_iload hC.1 hC.2.1 dX12_worth_119 (lv_at hl 4 rfl) ?_
          refine mw_put hC hM 0 (Nat.le_of_ble_eq_true rfl) (eR_0 V) inW12 tyX12 tyX12_ok nmX12 rfl 16 (by decide) q_1162 (fun _ h9 => h9) rfl rfl rfl (Nat.le_of_ble_eq_true rfl) rfl dX12_worth_121 (fun H locs hM => ?_)
          refine lv_iload_n hC.1 hC.2.1 dX12_worth_124 rfl (lv_at hl 3 rfl) ?_
          exact hret (o_r1 hf) (o_r2 hf hM) dX12_worth_125
        · have hf := o_f hc15 hf
          refine lv_aload_n hC.1 hC.2.1 dX12_worth_25 rfl (lv_at hl 0 rfl) ?_
          refine lv_iload hC.1 hC.2.1 dX12_worth_26 (lv_at hl 5 rfl) ?_
          obtain ⟨r3, M5, hq4, hf⟩ := o_b2 hf
          refine mw_cVv (As := [.int x5]) (rest := []) hC hM (mcX12_does V l M x5 r3 M5 hq4) (mw_kV hC q_1549 q_1551 q_83 q_120 q_1552 ⟨rfl, rfl⟩ kV_X12_does ⟨by dsimp only; omega, by dsimp only; omega⟩) (Nat.le_of_ble_eq_true rfl) (eR_0 V) rfl rfl rfl (Nat.le_of_ble_eq_true rfl) hl.1 dX12_worth_28 (fun H locs hM => ?_)
          refine lv_aload_n hC.1 hC.2.1 dX12_worth_31 rfl (lv_at hl 0 rfl) ?_
          refine lv_aload_n hC.1 hC.2.1 dX12_worth_32 rfl (lv_at hl 0 rfl) ?_
          obtain ⟨r6, M8, hq7, hf⟩ := o_b2 hf
          refine mw_cVi (As := []) (rest := [.ref (mvA V 0)]) hC hM (mcX12_sumNow V l M5 r6 M8 hq7) (mw_kV hC q_1460 q_1462 q_72 q_120 q_1463 ⟨rfl, rfl⟩ kV_X12_sumNow ⟨by dsimp only; omega, by dsimp only; omega⟩) (Nat.le_of_ble_eq_true rfl) (eR_0 V) rfl rfl rfl (Nat.le_of_ble_eq_true rfl) hl.1 dX12_worth_33 (fun H locs hM _ => ?_)
          obtain ⟨r9, hq10, hf⟩ := o_b hf
          refine mw_cVi (As := [.int r6]) (rest := []) hC hM (mcX12_moveBy V l M8 r6 r9 hq10) (mw_kV hC q_1472 q_1474 q_74 q_120 q_1475 ⟨rfl, rfl⟩ kV_X12_moveBy ⟨by dsimp only; omega, by dsimp only; omega⟩) (Nat.le_of_ble_eq_true rfl) (eR_0 V) rfl rfl rfl (Nat.le_of_ble_eq_true rfl) hl.1 dX12_worth_36 (fun H locs hM _ => ?_)
          refine lv_istore (lv' := [(6, .int r9), (0, .ref (mvA V 0)), (1, .int x1), (2, .int x2), (3, .int x3), (4, .int x4), (5, .int x5)]) hC.1 hC.2.1 dX12_worth_39 hl (Nat.le_of_ble_eq_true rfl) rfl (fun ls hl => ?_)
          refine lv_aload_n hC.1 hC.2.1 dX12_worth_41 rfl (lv_at hl 1 rfl) ?_
          refine lv_iload hC.1 hC.2.1 dX12_worth_42 (lv_at hl 0 rfl) ?_
          obtain ⟨r11, M13, hq12, hf⟩ := o_b2 hf
          refine mw_cVv (As := [.int r9]) (rest := []) hC hM (mcX12_turns V l M8 r9 r11 M13 hq12) (mw_kV hC q_1476 q_1478 q_75 q_120 q_1479 ⟨rfl, rfl⟩ kV_X12_turns ⟨by dsimp only; omega, by dsimp only; omega⟩) (Nat.le_of_ble_eq_true rfl) (eR_0 V) rfl rfl rfl (Nat.le_of_ble_eq_true rfl) hl.1 dX12_worth_44 (fun H locs hM => ?_)
          refine lv_iload hC.1 hC.2.1 dX12_worth_47 (lv_at hl 0 rfl) ?_
          refine lv_aload_n hC.1 hC.2.1 dX12_worth_49 rfl (lv_at hl 1 rfl) ?_
          refine lv_iload_n hC.1 hC.2.1 dX12_worth_50 rfl (lv_at hl 2 rfl) ?_
          refine lv_iconst hC.1 hC.2.1 dX12_worth_51 ci_1 ?_
          refine lv_isub hC.1 hC.2.1 dX12_worth_52 ?_
          refine lv_iload_n hC.1 hC.2.1 dX12_worth_53 rfl (lv_at hl 3 rfl) ?_
          refine lv_if_ne (tgt := 61) hC.1 hC.2.1 dX12_worth_54 (by decide) (fun hc14 => ?_) (fun hc14 => ?_)
          · have hf := o_f hc14 hf
            refine lv_iconst hC.1 hC.2.1 dX12_worth_61 ci_0 ?_
            exact hL62 _ _ _ _ _ _ _ _ _ _ _ _ _ hf hM (lv_sub hl [1, 2, 3, 4, 5, 6, 0] rfl)
          · have hf := o_t hc14 hf
            refine lv_iconst hC.1 hC.2.1 dX12_worth_57 ci_1 ?_
            refine lv_goto (tgt := 62) hC.1 hC.2.1 dX12_worth_58 (by decide) ?_
            exact hL62 _ _ _ _ _ _ _ _ _ _ _ _ _ hf hM (lv_sub hl [1, 2, 3, 4, 5, 6, 0] rfl)
    refine lv_iload_n hC.1 hC.2.1 dX12_worth_0 rfl (lv_at hl 1 rfl) ?_
    refine lv_if_ne (tgt := 6) hC.1 hC.2.1 dX12_worth_1 (by decide) (fun hc1 => ?_) (fun hc1 => ?_)
    · have hf := o_f hc1 hf
      refine lv_iconst hC.1 hC.2.1 dX12_worth_6 ci_0 ?_
      refine lv_istore_n (lv' := [(3, .int 0), (0, .ref (mvA V 0)), (1, .int p1), (2, .int p2)]) hC.1 hC.2.1 dX12_worth_7 rfl hl (Nat.le_of_ble_eq_true rfl) rfl (fun ls hl => ?_)
      refine lv_iconst hC.1 hC.2.1 dX12_worth_8 ci_m1 ?_
      refine lv_istore (lv' := [(4, .int (-1)), (3, .int 0), (0, .ref (mvA V 0)), (1, .int p1), (2, .int p2)]) hC.1 hC.2.1 dX12_worth_9 hl (Nat.le_of_ble_eq_true rfl) rfl (fun ls hl => ?_)
      refine lv_iconst hC.1 hC.2.1 dX12_worth_11 ci_0 ?_
      refine lv_istore (lv' := [(5, .int 0), (4, .int (-1)), (3, .int 0), (0, .ref (mvA V 0)), (1, .int p1), (2, .int p2)]) hC.1 hC.2.1 dX12_worth_12 hl (Nat.le_of_ble_eq_true rfl) rfl (fun ls hl => ?_)
      exact hL14 _ _ _ _ _ _ _ _ _ _ hf hM (lv_sub hl [3, 4, 5, 2, 1, 0] rfl)
    · have hf := o_t hc1 hf
      refine lv_iconst hC.1 hC.2.1 dX12_worth_4 ci_0 ?_
      exact hret (o_r1 hf) (o_r2 hf hM) dX12_worth_5
set_option maxHeartbeats 4000000 in
set_option maxRecDepth 100000 in
theorem mcX12_game (V : mV) (l : Launch) (M : mM) (p1 : Int32) (r : Int32) (M' : mM) (hf : fX12_game M p1 = some (r, M')) : IR V l yX12_game cX12_game 2 ({ frames := 14, cells := 0, slots := 0, locals := 350 } : Room) [.ref (mvA V 0), .int p1] M r M' := by
  unfold fX12_game at hf
  refine mw_enterI RX12 rfl (by decide +kernel) (Nat.le_of_ble_eq_true rfl) (fun {p e s m args below meth c} ls A Q hC hret hM hl => ?_)
  have hl : lv_has ls 2 [(0, .ref (mvA V 0)), (1, .int p1)] := hl
  refine lv_iload_n hC.1 hC.2.1 dX12_game_0 rfl (lv_at hl 1 rfl) ?_
  refine lv_i2l (v := (Int32.toInt64 p1)) hC.1 hC.2.1 dX12_game_1 rfl ?_
  refine lv_lconst (v := 1) hC.1 hC.2.1 dX12_game_2 rfl ?_
  refine lv_ldc2 hC.1 hC.2.1 hC.2.2.2.1 (mw_w hC q_1562) dX12_game_3 ?_
  refine mw_cSi (As := [.long (Int32.toInt64 p1), .long 1, .long 4]) (rest := []) hC hM (mcX12_in V l M (Int32.toInt64 p1) 1 4 _ rfl) (mw_kS hC q_1257 q_1258 q_120 q_1259 ⟨rfl, rfl⟩ kS_X12_in ⟨Nat.le_of_ble_eq_true rfl, Nat.le_of_ble_eq_true rfl⟩) rfl rfl (Nat.le_of_ble_eq_true rfl) hl.1 dX12_game_6 (fun H locs hM hb1 => ?_)
  refine lv_if_eq (tgt := 24) hC.1 hC.2.1 dX12_game_9 (by decide) (fun hc5 => ?_) (fun hc5 => ?_)
  · have hf := o_t hc5 hf
    refine lv_iconst hC.1 hC.2.1 dX12_game_24 ci_m1 ?_
    exact hret (o_r1 hf) (o_r2 hf hM) dX12_game_25
  · have hf := o_f hc5 hf
    refine lv_aload_n hC.1 hC.2.1 dX12_game_12 rfl (lv_at hl 0 rfl) ?_
    refine lv_iload_n hC.1 hC.2.1 dX12_game_13 rfl (lv_at hl 1 rfl) ?_
    refine lv_iconst hC.1 hC.2.1 dX12_game_14 ci_1 ?_
    obtain ⟨r2, M4, hq3, hf⟩ := o_b2 hf
    refine mw_cVi (As := [.int p1, .int 1]) (rest := []) hC hM (mcX12_worth V l 6 M p1 1 r2 M4 hq3) (mw_kV hC q_1583 q_1585 q_86 q_120 q_1586 ⟨rfl, rfl⟩ kV_X12_worth ⟨Nat.le_of_ble_eq_true rfl, Nat.le_of_ble_eq_true rfl⟩) (Nat.le_of_ble_eq_true rfl) (eR_0 V) rfl rfl rfl (Nat.le_of_ble_eq_true rfl) hl.1 dX12_game_15 (fun H locs hM _ => ?_)
    refine lv_bipush hC.1 hC.2.1 dX12_game_18 cb_10 ?_
    refine lv_iadd hC.1 hC.2.1 dX12_game_20 ?_
    refine lv_goto (tgt := 25) hC.1 hC.2.1 dX12_game_21 (by decide) ?_
    exact hret (o_r1 hf) (o_r2 hf hM) dX12_game_25
set_option maxHeartbeats 4000000 in
set_option maxRecDepth 100000 in
theorem mcX12_play (V : mV) (l : Launch) (M : mM) (p1 : Int32) (r : Int32) (M' : mM) (hf : fX12_play M p1 = some (r, M')) : IR V l yX12_play cX12_play 3 ({ frames := 14, cells := 0, slots := 0, locals := 350 } : Room) [.ref (mvA V 0), .int p1] M r M' := by
  unfold fX12_play at hf
  refine mw_enterI RX12 rfl (by decide +kernel) (Nat.le_of_ble_eq_true rfl) (fun {p e s m args below meth c} ls A Q hC hret hM hl => ?_)
  have hl : lv_has ls 3 [(0, .ref (mvA V 0)), (1, .int p1)] := hl
  refine lv_iload_n hC.1 hC.2.1 dX12_play_0 rfl (lv_at hl 1 rfl) ?_
  refine lv_i2l (v := (Int32.toInt64 p1)) hC.1 hC.2.1 dX12_play_1 rfl ?_
  refine lv_lconst (v := 1) hC.1 hC.2.1 dX12_play_2 rfl ?_
  refine lv_ldc2 hC.1 hC.2.1 hC.2.2.2.1 (mw_w hC q_1562) dX12_play_3 ?_
  refine mw_cSi (As := [.long (Int32.toInt64 p1), .long 1, .long 4]) (rest := []) hC hM (mcX12_in V l M (Int32.toInt64 p1) 1 4 _ rfl) (mw_kS hC q_1257 q_1258 q_120 q_1259 ⟨rfl, rfl⟩ kS_X12_in ⟨Nat.le_of_ble_eq_true rfl, Nat.le_of_ble_eq_true rfl⟩) rfl rfl (Nat.le_of_ble_eq_true rfl) hl.1 dX12_play_6 (fun H locs hM hb1 => ?_)
  refine lv_if_ne (tgt := 14) hC.1 hC.2.1 dX12_play_9 (by decide) (fun hc7 => ?_) (fun hc7 => ?_)
  · have hf := o_f hc7 hf
    refine lv_aload_n hC.1 hC.2.1 dX12_play_14 rfl (lv_at hl 0 rfl) ?_
    refine lv_iload_n hC.1 hC.2.1 dX12_play_15 rfl (lv_at hl 1 rfl) ?_
    refine lv_iconst hC.1 hC.2.1 dX12_play_16 ci_1 ?_
    obtain ⟨r2, M4, hq3, hf⟩ := o_b2 hf
    refine mw_cVi (As := [.int p1, .int 1]) (rest := []) hC hM (mcX12_worth V l 6 M p1 1 r2 M4 hq3) (mw_kV hC q_1583 q_1585 q_86 q_120 q_1586 ⟨rfl, rfl⟩ kV_X12_worth ⟨Nat.le_of_ble_eq_true rfl, Nat.le_of_ble_eq_true rfl⟩) (Nat.le_of_ble_eq_true rfl) (eR_0 V) rfl rfl rfl (Nat.le_of_ble_eq_true rfl) hl.1 dX12_play_17 (fun H locs hM _ => ?_)
    refine lv_istore_n (lv' := [(2, .int r2), (0, .ref (mvA V 0)), (1, .int p1)]) hC.1 hC.2.1 dX12_play_20 rfl hl (Nat.le_of_ble_eq_true rfl) rfl (fun ls hl => ?_)
    refine lv_iload_n hC.1 hC.2.1 dX12_play_21 rfl (lv_at hl 0 rfl) ?_
    refine lv_i2l (v := (Int32.toInt64 r2)) hC.1 hC.2.1 dX12_play_22 rfl ?_
    refine lv_ldc2 hC.1 hC.2.1 hC.2.2.2.1 (mw_w hC q_1591) dX12_play_23 ?_
    refine lv_ldc2 hC.1 hC.2.1 hC.2.2.2.1 (mw_w hC q_1562) dX12_play_26 ?_
    refine mw_cSi (As := [.long (Int32.toInt64 r2), .long (-4), .long 4]) (rest := []) hC hM (mcX12_in V l M4 (Int32.toInt64 r2) (-4) 4 _ rfl) (mw_kS hC q_1257 q_1258 q_120 q_1259 ⟨rfl, rfl⟩ kS_X12_in ⟨Nat.le_of_ble_eq_true rfl, Nat.le_of_ble_eq_true rfl⟩) rfl rfl (Nat.le_of_ble_eq_true rfl) hl.1 dX12_play_29 (fun H locs hM hb5 => ?_)
    refine lv_if_eq (tgt := 42) hC.1 hC.2.1 dX12_play_32 (by decide) (fun hc6 => ?_) (fun hc6 => ?_)
    · have hf := o_t hc6 hf
      refine lv_iconst hC.1 hC.2.1 dX12_play_42 ci_m1 ?_
      exact hret (o_r1 hf) (o_r2 hf hM) dX12_play_43
    · have hf := o_f hc6 hf
      refine lv_aload_n hC.1 hC.2.1 dX12_play_35 rfl (lv_at hl 1 rfl) ?_
      refine mw_get (v := .int (M4 0 16)) hC hM 0 (Nat.le_of_ble_eq_true rfl) (eR_0 V) inW12 rfl 16 (by decide) q_1162 (fun _ h9 => h9) rfl dX12_play_36 ?_
      refine lv_goto (tgt := 43) hC.1 hC.2.1 dX12_play_39 (by decide) ?_
      exact hret (o_r1 hf) (o_r2 hf hM) dX12_play_43
  · have hf := o_t hc7 hf
    refine lv_iconst hC.1 hC.2.1 dX12_play_12 ci_m1 ?_
    exact hret (o_r1 hf) (o_r2 hf hM) dX12_play_13
set_option maxHeartbeats 4000000 in
set_option maxRecDepth 100000 in
theorem mcX12_report (V : mV) (l : Launch) (M : mM) (p1 : Int32) (p2 : Int32) (r : Int32) (M' : mM) (hf : fX12_report M p1 p2 = some (r, M')) : IR V l yX12_report cX12_report 3 ({ frames := 2, cells := 0, slots := 0, locals := 45 } : Room) [.ref (mvA V 0), .int p1, .int p2] M r M' := by
  unfold fX12_report at hf
  refine mw_enterI RX12 rfl (by decide +kernel) (Nat.le_of_ble_eq_true rfl) (fun {p e s m args below meth c} ls A Q hC hret hM hl => ?_)
  have hl : lv_has ls 3 [(0, .ref (mvA V 0)), (1, .int p1), (2, .int p2)] := hl
  refine lv_iload_n hC.1 hC.2.1 dX12_report_0 rfl (lv_at hl 1 rfl) ?_
  refine lv_i2l (v := (Int32.toInt64 p1)) hC.1 hC.2.1 dX12_report_1 rfl ?_
  refine lv_lconst (v := 0) hC.1 hC.2.1 dX12_report_2 rfl ?_
  refine lv_ldc2 hC.1 hC.2.1 hC.2.2.2.1 (mw_w hC q_1484) dX12_report_3 ?_
  refine mw_cSi (As := [.long (Int32.toInt64 p1), .long 0, .long 60]) (rest := []) hC hM (mcX12_in V l M (Int32.toInt64 p1) 0 60 _ rfl) (mw_kS hC q_1257 q_1258 q_120 q_1259 ⟨rfl, rfl⟩ kS_X12_in ⟨Nat.le_of_ble_eq_true rfl, Nat.le_of_ble_eq_true rfl⟩) rfl rfl (Nat.le_of_ble_eq_true rfl) hl.1 dX12_report_6 (fun H locs hM hb1 => ?_)
  refine lv_if_eq (tgt := 19) hC.1 hC.2.1 dX12_report_9 (by decide) (fun hc13 => ?_) (fun hc13 => ?_)
  · have hf := o_t hc13 hf
    refine lv_iconst hC.1 hC.2.1 dX12_report_19 ci_m1 ?_
    exact hret (o_r1 hf) (o_r2 hf hM) dX12_report_20
  · have hf := o_f hc13 hf
    refine lv_iload_n hC.1 hC.2.1 dX12_report_12 rfl (lv_at hl 2 rfl) ?_
    refine mw_cSi (As := [.int p2]) (rest := []) hC hM (mcX12_isHour V l M p2 _ rfl) (mw_kS hC q_1263 q_1264 q_120 q_1265 ⟨rfl, rfl⟩ kS_X12_isHour ⟨Nat.le_of_ble_eq_true rfl, Nat.le_of_ble_eq_true rfl⟩) rfl rfl (Nat.le_of_ble_eq_true rfl) hl.1 dX12_report_13 (fun H locs hM hb2 => ?_)
    refine lv_if_ne (tgt := 21) hC.1 hC.2.1 dX12_report_16 (by decide) (fun hc12 => ?_) (fun hc12 => ?_)
    · have hf := o_f hc12 hf
      refine lv_aload_n hC.1 hC.2.1 dX12_report_21 rfl (lv_at hl 0 rfl) ?_
      refine mw_get (v := .ref (mvA V 1)) hC hM 0 (Nat.le_of_ble_eq_true rfl) (eR_0 V) inW12 rfl 0 (by decide) q_1146 (fun _ h9 => h9) rfl dX12_report_22 ?_
      refine lv_bipush hC.1 hC.2.1 dX12_report_25 cb_6 ?_
      obtain ⟨hg3, hf⟩ := o_g hf
      refine mw_iald hC hM 1 0 (Nat.le_of_ble_eq_true rfl) (eR_1 V) rfl hg3 dX12_report_27 ?_
      refine lv_bipush hC.1 hC.2.1 dX12_report_28 cb_6 ?_
      refine lv_icmp_ne (tgt := 36) hC.1 hC.2.1 dX12_report_30 (by decide) (fun hc11 => ?_) (fun hc11 => ?_)
      · have hf := o_f hc11 hf
        refine lv_aload_n hC.1 hC.2.1 dX12_report_36 rfl (lv_at hl 0 rfl) ?_
        refine mw_get (v := .ref (mvA V 1)) hC hM 0 (Nat.le_of_ble_eq_true rfl) (eR_0 V) inW12 rfl 0 (by decide) q_1146 (fun _ h9 => h9) rfl dX12_report_37 ?_
        refine lv_bipush hC.1 hC.2.1 dX12_report_40 cb_43 ?_
        refine lv_iconst hC.1 hC.2.1 dX12_report_42 ci_2 ?_
        refine lv_aload_n hC.1 hC.2.1 dX12_report_43 rfl (lv_at hl 0 rfl) ?_
        refine mw_get (v := .ref (mvA V 1)) hC hM 0 (Nat.le_of_ble_eq_true rfl) (eR_0 V) inW12 rfl 0 (by decide) q_1146 (fun _ h9 => h9) rfl dX12_report_44 ?_
        refine lv_bipush hC.1 hC.2.1 dX12_report_47 cb_6 ?_
        obtain ⟨hg4, hf⟩ := o_g hf
        refine mw_iald hC hM 1 0 (Nat.le_of_ble_eq_true rfl) (eR_1 V) rfl hg4 dX12_report_49 ?_
        refine lv_imul hC.1 hC.2.1 dX12_report_50 ?_
        refine lv_iadd hC.1 hC.2.1 dX12_report_51 ?_
        refine lv_iload_n hC.1 hC.2.1 dX12_report_52 rfl (lv_at hl 1 rfl) ?_
        obtain ⟨hg5, hf⟩ := o_g hf
        refine mw_iast hC hM 1 0 (Nat.le_of_ble_eq_true rfl) (eR_1 V) rfl hg5 dX12_report_53 (fun H locs hM => ?_)
        refine lv_aload_n hC.1 hC.2.1 dX12_report_54 rfl (lv_at hl 0 rfl) ?_
        refine mw_get (v := .ref (mvA V 1)) hC hM 0 (Nat.le_of_ble_eq_true rfl) (eR_0 V) inW12 rfl 0 (by decide) q_1146 (fun _ h9 => h9) rfl dX12_report_55 ?_
        refine lv_bipush hC.1 hC.2.1 dX12_report_58 cb_43 ?_
        refine lv_iconst hC.1 hC.2.1 dX12_report_60 ci_2 ?_
        refine lv_aload_n hC.1 hC.2.1 dX12_report_61 rfl (lv_at hl 0 rfl) ?_
        refine mw_get (v := .ref (mvA V 1)) hC hM 0 (Nat.le_of_ble_eq_true rfl) (eR_0 V) inW12 rfl 0 (by decide) q_1146 (fun _ h9 => h9) rfl dX12_report_62 ?_
        refine lv_bipush hC.1 hC.2.1 dX12_report_65 cb_6 ?_
        obtain ⟨hg6, hf⟩ := o_g hf
        refine mw_iald hC hM 1 0 (Nat.le_of_ble_eq_true rfl) (eR_1 V) rfl hg6 dX12_report_67 ?_
        refine lv_imul hC.1 hC.2.1 dX12_report_68 ?_
        refine lv_iadd hC.1 hC.2.1 dX12_report_69 ?_
        refine lv_iconst hC.1 hC.2.1 dX12_report_70 ci_1 ?_
        refine lv_iadd hC.1 hC.2.1 dX12_report_71 ?_
        refine lv_iload_n hC.1 hC.2.1 dX12_report_72 rfl (lv_at hl 2 rfl) ?_
        obtain ⟨hg7, hf⟩ := o_g hf
        refine mw_iast hC hM 1 0 (Nat.le_of_ble_eq_true rfl) (eR_1 V) rfl hg7 dX12_report_73 (fun H locs hM => ?_)
        refine lv_aload_n hC.1 hC.2.1 dX12_report_74 rfl (lv_at hl 0 rfl) ?_
        refine mw_get (v := .ref (mvA V 1)) hC hM 0 (Nat.le_of_ble_eq_true rfl) (eR_0 V) inW12 rfl 0 (by decide) q_1146 (fun _ h9 => h9) rfl dX12_report_75 ?_
        refine lv_bipush hC.1 hC.2.1 dX12_report_78 cb_6 ?_
        refine lv_dup2_11 hC.1 hC.2.1 dX12_report_80 rfl rfl ?_
        obtain ⟨hg8, hf⟩ := o_g hf
        refine mw_iald hC hM 1 0 (Nat.le_of_ble_eq_true rfl) (eR_1 V) rfl hg8 dX12_report_81 ?_
        refine lv_iconst hC.1 hC.2.1 dX12_report_82 ci_1 ?_
        refine lv_iadd hC.1 hC.2.1 dX12_report_83 ?_
        obtain ⟨hg9, hf⟩ := o_g hf
        refine mw_iast hC hM 1 0 (Nat.le_of_ble_eq_true rfl) (eR_1 V) rfl hg9 dX12_report_84 (fun H locs hM => ?_)
        refine lv_aload_n hC.1 hC.2.1 dX12_report_85 rfl (lv_at hl 0 rfl) ?_
        refine mw_get (v := .ref (mvA V 1)) hC hM 0 (Nat.le_of_ble_eq_true rfl) (eR_0 V) inW12 rfl 0 (by decide) q_1146 (fun _ h9 => h9) rfl dX12_report_86 ?_
        refine lv_bipush hC.1 hC.2.1 dX12_report_89 cb_6 ?_
        obtain ⟨hg10, hf⟩ := o_g hf
        refine mw_iald hC hM 1 0 (Nat.le_of_ble_eq_true rfl) (eR_1 V) rfl hg10 dX12_report_91 ?_
        refine lv_iconst hC.1 hC.2.1 dX12_report_92 ci_1 ?_
        refine lv_isub hC.1 hC.2.1 dX12_report_93 ?_
        exact hret (o_r1 hf) (o_r2 hf hM) dX12_report_94
      · have hf := o_t hc11 hf
        refine lv_bipush hC.1 hC.2.1 dX12_report_33 cb_m2 ?_
        exact hret (o_r1 hf) (o_r2 hf hM) dX12_report_35
    · have hf := o_t hc12 hf
      refine lv_iconst hC.1 hC.2.1 dX12_report_19 ci_m1 ?_
      exact hret (o_r1 hf) (o_r2 hf hM) dX12_report_20
set_option maxHeartbeats 4000000 in
set_option maxRecDepth 100000 in
theorem mcX12_forget (V : mV) (l : Launch) (M : mM) (r : Int32) (M' : mM) (hf : fX12_forget M = some (r, M')) : IR V l yX12_forget cX12_forget 1 ({ frames := 1, cells := 0, slots := 0, locals := 23 } : Room) [.ref (mvA V 0)] M r M' := by
  unfold fX12_forget at hf
  refine mw_enterI RX12 rfl (by decide +kernel) (Nat.le_of_ble_eq_true rfl) (fun {p e s m args below meth c} ls A Q hC hret hM hl => ?_)
  have hl : lv_has ls 1 [(0, .ref (mvA V 0))] := hl
  refine lv_aload_n hC.1 hC.2.1 dX12_forget_0 rfl (lv_at hl 0 rfl) ?_
  refine lv_bipush hC.1 hC.2.1 dX12_forget_1 cb_6 ?_
  refine lv_iconst hC.1 hC.2.1 dX12_forget_3 ci_0 ?_
  obtain ⟨r1, M3, hq2, hf⟩ := o_b2 hf
  refine mw_cVi (As := [.int 6, .int 0]) (rest := []) hC hM (mcX12_becomes V l M 6 0 r1 M3 hq2) (mw_kV hC q_1324 q_1326 q_53 q_120 q_1327 ⟨rfl, rfl⟩ kV_X12_becomes ⟨Nat.le_of_ble_eq_true rfl, Nat.le_of_ble_eq_true rfl⟩) (Nat.le_of_ble_eq_true rfl) (eR_0 V) rfl rfl rfl (Nat.le_of_ble_eq_true rfl) hl.1 dX12_forget_4 (fun H locs hM _ => ?_)
  exact hret (o_r1 hf) (o_r2 hf hM) dX12_forget_7
set_option maxHeartbeats 4000000 in
set_option maxRecDepth 100000 in
theorem mcX12_fitting (V : mV) (l : Launch) (M : mM) (p1 : Int32) (r : Int32) (M' : mM) (hf : fX12_fitting M p1 = some (r, M')) : IR V l yX12_fitting cX12_fitting 8 ({ frames := 1, cells := 0, slots := 0, locals := 20 } : Room) [.ref (mvA V 0), .int p1] M r M' := by
  unfold fX12_fitting at hf
  refine mw_enterI RX12 rfl (by decide +kernel) (Nat.le_of_ble_eq_true rfl) (fun {p e s m args below meth c} ls A Q hC hret hM hl => ?_)
  have hl : lv_has ls 8 [(0, .ref (mvA V 0)), (1, .int p1)] := hl
  have hL4 : ∀ (n : Nat) (M : mM) (x1 : Int32) (x2 : Int32) (x3 : Int32) (H : Heap) (locs : List Loc) (ls : Array Slot), fX12_fitting_L4 n M x1 x2 x3 = some (r, M') → PR V M A s H locs → lv_has ls 8 [(0, .ref (mvA V 0)), (1, .int x1), (2, .int x2), (3, .int x3)] → W p l e ({ frames := 1, cells := 0, slots := 0, locals := 20 } : Room) s m args below meth c H locs 0 0 Q (F0 m 4 ls []) := by
    intro n4
    induction n4 with
    | zero => intro M x1 x2 x3 H locs ls hf; cases hf
    | succ n4 ih4 =>
      intro M x1 x2 x3 H locs ls hf hM hl
      have hf : fX12_fitting_L4_b (fX12_fitting_L4 n4) M x1 x2 x3 = some (r, M') := hf
      unfold fX12_fitting_L4_b at hf
      have hL12 : ∀ (n : Nat) (M : mM) (x1 : Int32) (x2 : Int32) (x3 : Int32) (x4 : Int32) (H : Heap) (locs : List Loc) (ls : Array Slot), fX12_fitting_L12 (fX12_fitting_L4 n4) n M x1 x2 x3 x4 = some (r, M') → PR V M A s H locs → lv_has ls 8 [(0, .ref (mvA V 0)), (1, .int x1), (2, .int x2), (3, .int x3), (4, .int x4)] → W p l e ({ frames := 1, cells := 0, slots := 0, locals := 20 } : Room) s m args below meth c H locs 0 0 Q (F0 m 12 ls []) := by
        intro n9
        induction n9 with
        | zero => intro M x1 x2 x3 x4 H locs ls hf; cases hf
        | succ n9 ih9 =>
          intro M x1 x2 x3 x4 H locs ls hf hM hl
          have hf : fX12_fitting_L12_b (fX12_fitting_L4 n4) (fX12_fitting_L12 (fX12_fitting_L4 n4) n9) M x1 x2 x3 x4 = some (r, M') := hf
          unfold fX12_fitting_L12_b at hf
          have hL142 : ∀ (M : mM) (x1 : Int32) (x2 : Int32) (x3 : Int32) (x4 : Int32) (x5 : Int32) (t1 : Int32) (H : Heap) (locs : List Loc) (ls : Array Slot), fX12_fitting_L142 (fX12_fitting_L4 n4) (fX12_fitting_L12 (fX12_fitting_L4 n4) n9) M x1 x2 x3 x4 x5 t1 = some (r, M') → PR V M A s H locs → lv_has ls 8 [(0, .ref (mvA V 0)), (1, .int x1), (2, .int x2), (3, .int x3), (4, .int x4), (5, .int x5)] → W p l e ({ frames := 1, cells := 0, slots := 0, locals := 20 } : Room) s m args below meth c H locs 0 0 Q (F0 m 142 ls [.int t1, .ref (mvA V 0)]) := by
            intro M x1 x2 x3 x4 x5 t1 H locs ls hf hM hl
            unfold fX12_fitting_L142 at hf
            refine mw_put hC hM 0 (Nat.le_of_ble_eq_true rfl) (eR_0 V) inW12 tyX12 tyX12_ok nmX12 rfl 18 (by decide) q_1164 (fun _ h9 => h9) rfl rfl rfl (Nat.le_of_ble_eq_true rfl) rfl dX12_fitting_142 (fun H locs hM => ?_)
            refine lv_iload_n hC.1 hC.2.1 dX12_fitting_145 rfl (lv_at hl 2 rfl) ?_
            refine lv_iload hC.1 hC.2.1 dX12_fitting_146 (lv_at hl 5 rfl) ?_
            refine lv_if_eq (tgt := 155) hC.1 hC.2.1 dX12_fitting_148 (by decide) (fun hc14 => ?_) (fun hc14 => ?_)
            · have hf := o_t hc14 hf
              refine lv_iconst hC.1 hC.2.1 dX12_fitting_155 ci_0 ?_
              refine lv_iadd hC.1 hC.2.1 dX12_fitting_156 ?_
              refine lv_istore_n (lv' := [(2, .int (x2 + 0)), (0, .ref (mvA V 0)), (1, .int x1), (3, .int x3), (4, .int x4), (5, .int x5)]) hC.1 hC.2.1 dX12_fitting_157 rfl hl (Nat.le_of_ble_eq_true rfl) rfl (fun ls hl => ?_)
              refine lv_iinc (k := 4) (lv' := [(4, .int (x4 + 1)), (2, .int (x2 + 0)), (0, .ref (mvA V 0)), (1, .int x1), (3, .int x3), (5, .int x5)]) hC.1 hC.2.1 dX12_fitting_158 hl rfl (inc_1 _) (Nat.le_of_ble_eq_true rfl) rfl (fun ls hl => ?_)
              refine lv_goto (tgt := 12) hC.1 hC.2.1 dX12_fitting_161 (by decide) ?_
              exact ih9 _ _ _ _ _ _ _ _ hf hM (lv_sub hl [2, 3, 1, 4, 0] rfl)
            · have hf := o_f hc14 hf
              refine lv_iconst hC.1 hC.2.1 dX12_fitting_151 ci_1 ?_
              refine lv_goto (tgt := 156) hC.1 hC.2.1 dX12_fitting_152 (by decide) ?_
              refine lv_iadd hC.1 hC.2.1 dX12_fitting_156 ?_
              refine lv_istore_n (lv' := [(2, .int (x2 + 1)), (0, .ref (mvA V 0)), (1, .int x1), (3, .int x3), (4, .int x4), (5, .int x5)]) hC.1 hC.2.1 dX12_fitting_157 rfl hl (Nat.le_of_ble_eq_true rfl) rfl (fun ls hl => ?_)
              refine lv_iinc (k := 4) (lv' := [(4, .int (x4 + 1)), (2, .int (x2 + 1)), (0, .ref (mvA V 0)), (1, .int x1), (3, .int x3), (5, .int x5)]) hC.1 hC.2.1 dX12_fitting_158 hl rfl (inc_1 _) (Nat.le_of_ble_eq_true rfl) rfl (fun ls hl => ?_)
              refine lv_goto (tgt := 12) hC.1 hC.2.1 dX12_fitting_161 (by decide) ?_
              exact ih9 _ _ _ _ _ _ _ _ hf hM (lv_sub hl [2, 3, 1, 4, 0] rfl)
          have hL138 : ∀ (M : mM) (x1 : Int32) (x2 : Int32) (x3 : Int32) (x4 : Int32) (x5 : Int32) (H : Heap) (locs : List Loc) (ls : Array Slot), fX12_fitting_L138 (fX12_fitting_L4 n4) (fX12_fitting_L12 (fX12_fitting_L4 n4) n9) M x1 x2 x3 x4 x5 = some (r, M') → PR V M A s H locs → lv_has ls 8 [(0, .ref (mvA V 0)), (1, .int x1), (2, .int x2), (3, .int x3), (4, .int x4), (5, .int x5)] → W p l e ({ frames := 1, cells := 0, slots := 0, locals := 20 } : Room) s m args below meth c H locs 0 0 Q (F0 m 138 ls [.ref (mvA V 0)]) := by
            intro M x1 x2 x3 x4 x5 H locs ls hf hM hl
            unfold fX12_fitting_L138 at hf
            refine lv_aload_n hC.1 hC.2.1 dX12_fitting_138 rfl (lv_at hl 0 rfl) ?_
            refine mw_get (v := .int (M 0 18)) hC hM 0 (Nat.le_of_ble_eq_true rfl) (eR_0 V) inW12 rfl 18 (by decide) q_1164 (fun _ h9 => h9) rfl dX12_fitting_139 ?_
            exact hL142 _ _ _ _ _ _ _ _ _ _ hf hM (lv_sub hl [0, 1, 2, 3, 4, 5] rfl)
          have hL120 : ∀ (M : mM) (x1 : Int32) (x2 : Int32) (x3 : Int32) (x4 : Int32) (x5 : Int32) (t1 : Int32) (H : Heap) (locs : List Loc) (ls : Array Slot), fX12_fitting_L120 (fX12_fitting_L4 n4) (fX12_fitting_L12 (fX12_fitting_L4 n4) n9) M x1 x2 x3 x4 x5 t1 = some (r, M') → PR V M A s H locs → lv_has ls 8 [(0, .ref (mvA V 0)), (1, .int x1), (2, .int x2), (3, .int x3), (4, .int x4), (5, .int x5)] → W p l e ({ frames := 1, cells := 0, slots := 0, locals := 20 } : Room) s m args below meth c H locs 0 0 Q (F0 m 120 ls [.int t1, .ref (mvA V 0)]) := by
            intro M x1 x2 x3 x4 x5 t1 H locs ls hf hM hl
            unfold fX12_fitting_L120 at hf
            refine mw_put hC hM 0 (Nat.le_of_ble_eq_true rfl) (eR_0 V) inW12 tyX12 tyX12_ok nmX12 rfl 17 (by decide) q_1163 (fun _ h9 => h9) rfl rfl rfl (Nat.le_of_ble_eq_true rfl) rfl dX12_fitting_120 (fun H locs hM => ?_)
            refine lv_aload_n hC.1 hC.2.1 dX12_fitting_123 rfl (lv_at hl 0 rfl) ?_
            refine lv_iload hC.1 hC.2.1 dX12_fitting_124 (lv_at hl 5 rfl) ?_
            refine lv_if_eq (tgt := 138) hC.1 hC.2.1 dX12_fitting_126 (by decide) (fun hc13 => ?_) (fun hc13 => ?_)
            · have hf := o_t hc13 hf
              exact hL138 _ _ _ _ _ _ _ _ _ hf hM (lv_sub hl [0, 1, 2, 3, 4, 5] rfl)
            · have hf := o_f hc13 hf
              refine lv_iload_n hC.1 hC.2.1 dX12_fitting_129 rfl (lv_at hl 2 rfl) ?_
              refine lv_if_ne (tgt := 138) hC.1 hC.2.1 dX12_fitting_130 (by decide) (fun hc12 => ?_) (fun hc12 => ?_)
              · have hf := o_f hc12 hf
                exact hL138 _ _ _ _ _ _ _ _ _ hf hM (lv_sub hl [0, 1, 2, 3, 4, 5] rfl)
              · have hf := o_t hc12 hf
                refine lv_iload hC.1 hC.2.1 dX12_fitting_133 (lv_at hl 4 rfl) ?_
                refine lv_goto (tgt := 142) hC.1 hC.2.1 dX12_fitting_135 (by decide) ?_
                exact hL142 _ _ _ _ _ _ _ _ _ _ hf hM (lv_sub hl [0, 1, 2, 3, 4, 5] rfl)
          have hL116 : ∀ (M : mM) (x1 : Int32) (x2 : Int32) (x3 : Int32) (x4 : Int32) (x5 : Int32) (H : Heap) (locs : List Loc) (ls : Array Slot), fX12_fitting_L116 (fX12_fitting_L4 n4) (fX12_fitting_L12 (fX12_fitting_L4 n4) n9) M x1 x2 x3 x4 x5 = some (r, M') → PR V M A s H locs → lv_has ls 8 [(0, .ref (mvA V 0)), (1, .int x1), (2, .int x2), (3, .int x3), (4, .int x4), (5, .int x5)] → W p l e ({ frames := 1, cells := 0, slots := 0, locals := 20 } : Room) s m args below meth c H locs 0 0 Q (F0 m 116 ls [.ref (mvA V 0)]) := by
            intro M x1 x2 x3 x4 x5 H locs ls hf hM hl
            unfold fX12_fitting_L116 at hf
            refine lv_aload_n hC.1 hC.2.1 dX12_fitting_116 rfl (lv_at hl 0 rfl) ?_
            refine mw_get (v := .int (M 0 17)) hC hM 0 (Nat.le_of_ble_eq_true rfl) (eR_0 V) inW12 rfl 17 (by decide) q_1163 (fun _ h9 => h9) rfl dX12_fitting_117 ?_
            exact hL120 _ _ _ _ _ _ _ _ _ _ hf hM (lv_sub hl [0, 1, 2, 3, 4, 5] rfl)
          have hL25 : ∀ (n : Nat) (M : mM) (x1 : Int32) (x2 : Int32) (x3 : Int32) (x4 : Int32) (x5 : Int32) (x6 : Int32) (H : Heap) (locs : List Loc) (ls : Array Slot), fX12_fitting_L25 (fX12_fitting_L4 n4) (fX12_fitting_L12 (fX12_fitting_L4 n4) n9) n M x1 x2 x3 x4 x5 x6 = some (r, M') → PR V M A s H locs → lv_has ls 8 [(0, .ref (mvA V 0)), (1, .int x1), (2, .int x2), (3, .int x3), (4, .int x4), (5, .int x5), (6, .int x6)] → W p l e ({ frames := 1, cells := 0, slots := 0, locals := 20 } : Room) s m args below meth c H locs 0 0 Q (F0 m 25 ls []) := by
            intro n16
            induction n16 with
            | zero => intro M x1 x2 x3 x4 x5 x6 H locs ls hf; cases hf
            | succ n16 ih16 =>
              intro M x1 x2 x3 x4 x5 x6 H locs ls hf hM hl
              have hf : fX12_fitting_L25_b (fX12_fitting_L4 n4) (fX12_fitting_L12 (fX12_fitting_L4 n4) n9) (fX12_fitting_L25 (fX12_fitting_L4 n4) (fX12_fitting_L12 (fX12_fitting_L4 n4) n9) n16) M x1 x2 x3 x4 x5 x6 = some (r, M') := hf
              unfold fX12_fitting_L25_b at hf
              refine lv_iload hC.1 hC.2.1 dX12_fitting_25 (lv_at hl 6 rfl) ?_
              refine lv_aload_n hC.1 hC.2.1 dX12_fitting_27 rfl (lv_at hl 0 rfl) ?_
              refine mw_get (v := .ref (mvA V 1)) hC hM 0 (Nat.le_of_ble_eq_true rfl) (eR_0 V) inW12 rfl 0 (by decide) q_1146 (fun _ h9 => h9) rfl dX12_fitting_28 ?_
              refine lv_bipush hC.1 hC.2.1 dX12_fitting_31 cb_6 ?_
              obtain ⟨hg3, hf⟩ := o_g hf
              refine mw_iald hC hM 1 0 (Nat.le_of_ble_eq_true rfl) (eR_1 V) rfl hg3 dX12_fitting_33 ?_
              refine lv_icmp_ge (tgt := 102) hC.1 hC.2.1 dX12_fitting_34 (by decide) (fun hc11 => ?_) (fun hc11 => ?_)
              · have hf := o_t hc11 hf
                refine lv_aload_n hC.1 hC.2.1 dX12_fitting_102 rfl (lv_at hl 0 rfl) ?_
                refine lv_iload hC.1 hC.2.1 dX12_fitting_103 (lv_at hl 5 rfl) ?_
                refine lv_if_eq (tgt := 116) hC.1 hC.2.1 dX12_fitting_105 (by decide) (fun hc5 => ?_) (fun hc5 => ?_)
                · have hf := o_t hc5 hf
                  exact hL116 _ _ _ _ _ _ _ _ _ hf hM (lv_sub hl [0, 1, 2, 3, 4, 5] rfl)
                · have hf := o_f hc5 hf
                  refine lv_iload_n hC.1 hC.2.1 dX12_fitting_108 rfl (lv_at hl 2 rfl) ?_
                  refine lv_if_ne (tgt := 116) hC.1 hC.2.1 dX12_fitting_109 (by decide) (fun hc4 => ?_) (fun hc4 => ?_)
                  · have hf := o_f hc4 hf
                    exact hL116 _ _ _ _ _ _ _ _ _ hf hM (lv_sub hl [0, 1, 2, 3, 4, 5] rfl)
                  · have hf := o_t hc4 hf
                    refine lv_iload_n hC.1 hC.2.1 dX12_fitting_112 rfl (lv_at hl 3 rfl) ?_
                    refine lv_goto (tgt := 120) hC.1 hC.2.1 dX12_fitting_113 (by decide) ?_
                    exact hL120 _ _ _ _ _ _ _ _ _ _ hf hM (lv_sub hl [0, 1, 2, 3, 4, 5] rfl)
              · have hf := o_f hc11 hf
                refine lv_iload hC.1 hC.2.1 dX12_fitting_37 (lv_at hl 4 rfl) ?_
                refine lv_iload_n hC.1 hC.2.1 dX12_fitting_39 rfl (lv_at hl 3 rfl) ?_
                refine lv_aload_n hC.1 hC.2.1 dX12_fitting_40 rfl (lv_at hl 0 rfl) ?_
                refine mw_get (v := .ref (mvA V 1)) hC hM 0 (Nat.le_of_ble_eq_true rfl) (eR_0 V) inW12 rfl 0 (by decide) q_1146 (fun _ h9 => h9) rfl dX12_fitting_41 ?_
                refine lv_bipush hC.1 hC.2.1 dX12_fitting_44 cb_43 ?_
                refine lv_iconst hC.1 hC.2.1 dX12_fitting_46 ci_2 ?_
                refine lv_iload hC.1 hC.2.1 dX12_fitting_47 (lv_at hl 6 rfl) ?_
                refine lv_imul hC.1 hC.2.1 dX12_fitting_49 ?_
                refine lv_iadd hC.1 hC.2.1 dX12_fitting_50 ?_
                obtain ⟨hg6, hf⟩ := o_g hf
                refine mw_iald hC hM 1 0 (Nat.le_of_ble_eq_true rfl) (eR_1 V) rfl hg6 dX12_fitting_51 ?_
                refine lv_imul hC.1 hC.2.1 dX12_fitting_52 ?_
                refine lv_iadd hC.1 hC.2.1 dX12_fitting_53 ?_
                refine mw_cSi (As := [.int (x4 + (x3 * (M 1 (Int32.toNatClampNeg (43 + (2 * x6))))))]) (rest := []) hC hM (mcX12_around V l M (x4 + (x3 * (M 1 (Int32.toNatClampNeg (43 + (2 * x6)))))) _ rfl) (mw_kS hC q_1290 q_1291 q_120 q_1292 ⟨rfl, rfl⟩ kS_X12_around ⟨Nat.le_of_ble_eq_true rfl, Nat.le_of_ble_eq_true rfl⟩) rfl rfl (Nat.le_of_ble_eq_true rfl) hl.1 dX12_fitting_54 (fun H locs hM _ => ?_)
                refine lv_istore (lv' := [(7, .int (fX12_around (x4 + (x3 * (M 1 (Int32.toNatClampNeg (43 + (2 * x6)))))))), (0, .ref (mvA V 0)), (1, .int x1), (2, .int x2), (3, .int x3), (4, .int x4), (5, .int x5), (6, .int x6)]) hC.1 hC.2.1 dX12_fitting_57 hl (Nat.le_of_ble_eq_true rfl) rfl (fun ls hl => ?_)
                refine lv_iload hC.1 hC.2.1 dX12_fitting_59 (lv_at hl 6 rfl) ?_
                refine lv_if_eq (tgt := 93) hC.1 hC.2.1 dX12_fitting_61 (by decide) (fun hc10 => ?_) (fun hc10 => ?_)
                · have hf := o_t hc10 hf
                  refine lv_iconst hC.1 hC.2.1 dX12_fitting_93 ci_0 ?_
                  refine lv_istore (lv' := [(5, .int 0), (7, .int (fX12_around (x4 + (x3 * (M 1 (Int32.toNatClampNeg (43 + (2 * x6)))))))), (0, .ref (mvA V 0)), (1, .int x1), (2, .int x2), (3, .int x3), (4, .int x4), (6, .int x6)]) hC.1 hC.2.1 dX12_fitting_94 hl (Nat.le_of_ble_eq_true rfl) rfl (fun ls hl => ?_)
                  refine lv_iinc (k := 7) (lv' := [(6, .int (x6 + 1)), (5, .int 0), (7, .int (fX12_around (x4 + (x3 * (M 1 (Int32.toNatClampNeg (43 + (2 * x6)))))))), (0, .ref (mvA V 0)), (1, .int x1), (2, .int x2), (3, .int x3), (4, .int x4)]) hC.1 hC.2.1 dX12_fitting_96 hl rfl (inc_1 _) (Nat.le_of_ble_eq_true rfl) rfl (fun ls hl => ?_)
                  refine lv_goto (tgt := 25) hC.1 hC.2.1 dX12_fitting_99 (by decide) ?_
                  exact ih16 _ _ _ _ _ _ _ _ _ _ hf hM (lv_sub hl [3, 4, 5, 6, 7, 1, 0] rfl)
                · have hf := o_f hc10 hf
                  refine lv_iload hC.1 hC.2.1 dX12_fitting_64 (lv_at hl 7 rfl) ?_
                  refine lv_iload_n hC.1 hC.2.1 dX12_fitting_66 rfl (lv_at hl 2 rfl) ?_
                  refine lv_icmp_eq (tgt := 89) hC.1 hC.2.1 dX12_fitting_67 (by decide) (fun hc9 => ?_) (fun hc9 => ?_)
                  · have hf := o_t hc9 hf
                    refine lv_iconst hC.1 hC.2.1 dX12_fitting_89 ci_1 ?_
                    refine lv_goto (tgt := 94) hC.1 hC.2.1 dX12_fitting_90 (by decide) ?_
                    refine lv_istore (lv' := [(5, .int 1), (7, .int (fX12_around (x4 + (x3 * (M 1 (Int32.toNatClampNeg (43 + (2 * x6)))))))), (0, .ref (mvA V 0)), (1, .int x1), (2, .int x2), (3, .int x3), (4, .int x4), (6, .int x6)]) hC.1 hC.2.1 dX12_fitting_94 hl (Nat.le_of_ble_eq_true rfl) rfl (fun ls hl => ?_)
                    refine lv_iinc (k := 7) (lv' := [(6, .int (x6 + 1)), (5, .int 1), (7, .int (fX12_around (x4 + (x3 * (M 1 (Int32.toNatClampNeg (43 + (2 * x6)))))))), (0, .ref (mvA V 0)), (1, .int x1), (2, .int x2), (3, .int x3), (4, .int x4)]) hC.1 hC.2.1 dX12_fitting_96 hl rfl (inc_1 _) (Nat.le_of_ble_eq_true rfl) rfl (fun ls hl => ?_)
                    refine lv_goto (tgt := 25) hC.1 hC.2.1 dX12_fitting_99 (by decide) ?_
                    exact ih16 _ _ _ _ _ _ _ _ _ _ hf hM (lv_sub hl [3, 4, 5, 6, 7, 1, 0] rfl)
                  · have hf := o_f hc9 hf
                    refine lv_iload hC.1 hC.2.1 dX12_fitting_70 (lv_at hl 0 rfl) ?_
                    refine lv_aload_n hC.1 hC.2.1 dX12_fitting_72 rfl (lv_at hl 1 rfl) ?_
                    refine mw_get (v := .ref (mvA V 1)) hC hM 0 (Nat.le_of_ble_eq_true rfl) (eR_0 V) inW12 rfl 0 (by decide) q_1146 (fun _ h9 => h9) rfl dX12_fitting_73 ?_
                    refine lv_bipush hC.1 hC.2.1 dX12_fitting_76 cb_43 ?_
                    refine lv_iconst hC.1 hC.2.1 dX12_fitting_78 ci_2 ?_
                    refine lv_iload hC.1 hC.2.1 dX12_fitting_79 (lv_at hl 7 rfl) ?_
                    refine lv_imul hC.1 hC.2.1 dX12_fitting_81 ?_
                    refine lv_iadd hC.1 hC.2.1 dX12_fitting_82 ?_
                    refine lv_iconst hC.1 hC.2.1 dX12_fitting_83 ci_1 ?_
                    refine lv_iadd hC.1 hC.2.1 dX12_fitting_84 ?_
                    obtain ⟨hg7, hf⟩ := o_g hf
                    refine mw_iald hC hM 1 0 (Nat.le_of_ble_eq_true rfl) (eR_1 V) rfl hg7 dX12_fitting_85 ?_
                    refine lv_icmp_ne (tgt := 93) hC.1 hC.2.1 dX12_fitting_86 (by decide) (fun hc8 => ?_) (fun hc8 => ?_)
                    · have hf := o_f hc8 hf
                      refine lv_iconst hC.1 hC.2.1 dX12_fitting_93 ci_0 ?_
                      refine lv_istore (lv' := [(5, .int 0), (7, .int (fX12_around (x4 + (x3 * (M 1 (Int32.toNatClampNeg (43 + (2 * x6)))))))), (0, .ref (mvA V 0)), (1, .int x1), (2, .int x2), (3, .int x3), (4, .int x4), (6, .int x6)]) hC.1 hC.2.1 dX12_fitting_94 hl (Nat.le_of_ble_eq_true rfl) rfl (fun ls hl => ?_)
                      refine lv_iinc (k := 7) (lv' := [(6, .int (x6 + 1)), (5, .int 0), (7, .int (fX12_around (x4 + (x3 * (M 1 (Int32.toNatClampNeg (43 + (2 * x6)))))))), (0, .ref (mvA V 0)), (1, .int x1), (2, .int x2), (3, .int x3), (4, .int x4)]) hC.1 hC.2.1 dX12_fitting_96 hl rfl (inc_1 _) (Nat.le_of_ble_eq_true rfl) rfl (fun ls hl => ?_)
                      refine lv_goto (tgt := 25) hC.1 hC.2.1 dX12_fitting_99 (by decide) ?_
                      exact ih16 _ _ _ _ _ _ _ _ _ _ hf hM (lv_sub hl [3, 4, 5, 6, 7, 1, 0] rfl)
                    · have hf := o_t hc8 hf
                      refine lv_iconst hC.1 hC.2.1 dX12_fitting_89 ci_1 ?_
                      refine lv_goto (tgt := 94) hC.1 hC.2.1 dX12_fitting_90 (by decide) ?_
                      refine lv_istore (lv' := [(5, .int 1), (7, .int (fX12_around (x4 + (x3 * (M 1 (Int32.toNatClampNeg (43 + (2 * x6)))))))), (0, .ref (mvA V 0)), (1, .int x1), (2, .int x2), (3, .int x3), (4, .int x4), (6, .int x6)]) hC.1 hC.2.1 dX12_fitting_94 hl (Nat.le_of_ble_eq_true rfl) rfl (fun ls hl => ?_)
                      refine lv_iinc (k := 7) (lv' := [(6, .int (x6 + 1)), (5, .int 1), (7, .int (fX12_around (x4 + (x3 * (M 1 (Int32.toNatClampNeg (43 + (2 * x6)))))))), (0, .ref (mvA V 0)), (1, .int x1), (2, .int x2), (3, .int x3), (4, .int x4)]) hC.1 hC.2.1 dX12_fitting_96 hl rfl (inc_1 _) (Nat.le_of_ble_eq_true rfl) rfl (fun ls hl => ?_)
                      refine lv_goto (tgt := 25) hC.1 hC.2.1 dX12_fitting_99 (by decide) ?_
                      exact ih16 _ _ _ _ _ _ _ _ _ _ hf hM (lv_sub hl [3, 4, 5, 6, 7, 1, 0] rfl)
          refine lv_iload hC.1 hC.2.1 dX12_fitting_12 (lv_at hl 4 rfl) ?_
          refine lv_bipush hC.1 hC.2.1 dX12_fitting_14 cb_24 ?_
          refine lv_icmp_ge (tgt := 164) hC.1 hC.2.1 dX12_fitting_16 (by decide) (fun hc2 => ?_) (fun hc2 => ?_)
          · have hf := o_t hc2 hf
            refine lv_iinc (k := 3) (lv' := [(3, .int (x3 + 1)), (0, .ref (mvA V 0)), (1, .int x1), (2, .int x2), (4, .int x4)]) hC.1 hC.2.1 dX12_fitting_164 hl rfl (inc_1 _) (Nat.le_of_ble_eq_true rfl) rfl (fun ls hl => ?_)
            refine lv_goto (tgt := 4) hC.1 hC.2.1 dX12_fitting_167 (by decide) ?_
            exact ih4 _ _ _ _ _ _ _ hf hM (lv_sub hl [1, 2, 3, 0] rfl)
          · have hf := o_f hc2 hf
            refine lv_iconst hC.1 hC.2.1 dX12_fitting_19 ci_1 ?_
            refine lv_istore (lv' := [(5, .int 1), (0, .ref (mvA V 0)), (1, .int x1), (2, .int x2), (3, .int x3), (4, .int x4)]) hC.1 hC.2.1 dX12_fitting_20 hl (Nat.le_of_ble_eq_true rfl) rfl (fun ls hl => ?_)
            refine lv_iconst hC.1 hC.2.1 dX12_fitting_22 ci_0 ?_
            refine lv_istore (lv' := [(6, .int 0), (5, .int 1), (0, .ref (mvA V 0)), (1, .int x1), (2, .int x2), (3, .int x3), (4, .int x4)]) hC.1 hC.2.1 dX12_fitting_23 hl (Nat.le_of_ble_eq_true rfl) rfl (fun ls hl => ?_)
            exact hL25 _ _ _ _ _ _ _ _ _ _ _ hf hM (lv_sub hl [2, 3, 4, 5, 6, 1, 0] rfl)
      refine lv_iload_n hC.1 hC.2.1 dX12_fitting_4 rfl (lv_at hl 3 rfl) ?_
      refine lv_iconst hC.1 hC.2.1 dX12_fitting_5 ci_1 ?_
      refine lv_icmp_gt (tgt := 170) hC.1 hC.2.1 dX12_fitting_6 (by decide) (fun hc1 => ?_) (fun hc1 => ?_)
      · have hf := o_t hc1 hf
        refine lv_iload_n hC.1 hC.2.1 dX12_fitting_170 rfl (lv_at hl 2 rfl) ?_
        exact hret (o_r1 hf) (o_r2 hf hM) dX12_fitting_171
      · have hf := o_f hc1 hf
        refine lv_iconst hC.1 hC.2.1 dX12_fitting_9 ci_0 ?_
        refine lv_istore (lv' := [(4, .int 0), (0, .ref (mvA V 0)), (1, .int x1), (2, .int x2), (3, .int x3)]) hC.1 hC.2.1 dX12_fitting_10 hl (Nat.le_of_ble_eq_true rfl) rfl (fun ls hl => ?_)
        exact hL12 _ _ _ _ _ _ _ _ _ hf hM (lv_sub hl [1, 2, 3, 4, 0] rfl)
  refine lv_iconst hC.1 hC.2.1 dX12_fitting_0 ci_0 ?_
  refine lv_istore_n (lv' := [(2, .int 0), (0, .ref (mvA V 0)), (1, .int p1)]) hC.1 hC.2.1 dX12_fitting_1 rfl hl (Nat.le_of_ble_eq_true rfl) rfl (fun ls hl => ?_)
  refine lv_iconst hC.1 hC.2.1 dX12_fitting_2 ci_m1 ?_
  refine lv_istore_n (lv' := [(3, .int (-1)), (2, .int 0), (0, .ref (mvA V 0)), (1, .int p1)]) hC.1 hC.2.1 dX12_fitting_3 rfl hl (Nat.le_of_ble_eq_true rfl) rfl (fun ls hl => ?_)
  exact hL4 _ _ _ _ _ _ _ _ hf hM (lv_sub hl [2, 3, 1, 0] rfl)
