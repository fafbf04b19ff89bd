set_option maxHeartbeats 4000000 in
set_option maxRecDepth 100000 in
theorem mcX12_rule (V : mV) (l : Launch) (M : mM) (r : Int32) (M' : mM) (hf : fX12_rule M = some (r, M')) : UR V l yX12_rule cX12_rule 4 ({ frames := 38, cells := 0, slots := 0, locals := 892 } : Room) [.ref (mvA V 0)] M M' := by
  unfold fX12_rule at hf
  refine mw_enterV RX12 rfl (by decide +kernel) (Nat.le_of_ble_eq_true rfl) (fun {p e s m args below meth c} ls A Q hC hret hM hl => ?_)
  have hl : lv_has ls 4 [(0, .ref (mvA V 0))] := hl
  have hL188 : ∀ (M : mM) (t1 : Int32) (t2 : Int32) (H : Heap) (locs : List Loc) (ls : Array Slot), fX12_rule_L188 M t1 t2 = some (r, M') → PR V M A s H locs → lv_has ls 4 [(0, .ref (mvA V 0))] → W p l e ({ frames := 38, cells := 0, slots := 0, locals := 892 } : Room) s m args below meth c H locs 0 0 Q (F0 m 188 ls [.int t2, .int t1, .ref (mvA V 5)]) := by
    intro M t1 t2 H locs ls hf hM hl
    unfold fX12_rule_L188 at hf
    obtain ⟨hg41, hf⟩ := o_g hf
    refine mw_iast hC hM 5 0 (Nat.le_of_ble_eq_true rfl) (eR_5 V) rfl hg41 dX12_rule_188 (fun H locs hM => ?_)
    refine lv_aload_n hC.1 hC.2.1 dX12_rule_189 rfl (lv_at hl 0 rfl) ?_
    refine mw_ldcwS (own := RX12) (index := 263) (tx := ";") (q := mvK V 23) hC.1 hC.2.1 hC.2.2.2.1 (st_41 hC) dX12_rule_190 ?_
    obtain ⟨r42, M44, hq43, hf⟩ := o_b2 hf
    refine mw_cVv (As := [.ref (mvK V 23)]) (rest := []) hC hM (mcX12_wants V l (wr M 5 (Int32.toNatClampNeg t1) t2) 23 r42 M44 hq43) (mw_kV hC q_1414 q_1416 q_65 q_120 q_1417 ⟨rfl, rfl⟩ kV_X12_wants ⟨Nat.le_of_ble_eq_true rfl, Nat.le_of_ble_eq_true rfl⟩) (Nat.le_of_ble_eq_true rfl) (eR_0 V) rfl rfl rfl (Nat.le_of_ble_eq_true rfl) hl.1 dX12_rule_193 (fun H locs hM => ?_)
    refine lv_aload_n hC.1 hC.2.1 dX12_rule_196 rfl (lv_at hl 0 rfl) ?_
    refine mw_get (v := .ref (mvA V 5)) hC hM 0 (Nat.le_of_ble_eq_true rfl) (eR_0 V) inW12 rfl 6 (by decide) q_1152 (fun _ h9 => h9) rfl dX12_rule_197 ?_
    refine lv_bipush hC.1 hC.2.1 dX12_rule_200 cb_7 ?_
    refine lv_dup2_11 hC.1 hC.2.1 dX12_rule_202 rfl rfl ?_
    obtain ⟨hg45, hf⟩ := o_g hf
    refine mw_iald hC hM 5 0 (Nat.le_of_ble_eq_true rfl) (eR_5 V) rfl hg45 dX12_rule_203 ?_
    refine lv_iconst hC.1 hC.2.1 dX12_rule_204 ci_1 ?_
    refine lv_iadd hC.1 hC.2.1 dX12_rule_205 ?_
    obtain ⟨hg46, hf⟩ := o_g hf
    refine mw_iast hC hM 5 0 (Nat.le_of_ble_eq_true rfl) (eR_5 V) rfl hg46 dX12_rule_206 (fun H locs hM => ?_)
    exact hret (o_r2 hf hM) dX12_rule_207
  have hL154 : ∀ (M : mM) (x2 : Int32) (x3 : Int32) (t1 : Nat) (H : Heap) (locs : List Loc) (ls : Array Slot), fX12_rule_L154 M x2 x3 t1 = some (r, M') → PR V M A s H locs → lv_has ls 4 [(0, .ref (mvA V 0)), (2, .int x2), (3, .int x3)] → W p l e ({ frames := 38, cells := 0, slots := 0, locals := 892 } : Room) s m args below meth c H locs 0 0 Q (F0 m 154 ls [.ref (mvK V t1), .ref (mvA V 0)]) := by
    intro M x2 x3 t1 H locs ls hf hM hl
    unfold fX12_rule_L154 at hf
    obtain ⟨r33, M35, hq34, hf⟩ := o_b2 hf
    refine mw_cVv (As := [.ref (mvK V t1)]) (rest := []) hC hM (mcX12_wants V l M t1 r33 M35 hq34) (mw_kV hC q_1414 q_1416 q_65 q_120 q_1417 ⟨rfl, rfl⟩ kV_X12_wants ⟨Nat.le_of_ble_eq_true rfl, Nat.le_of_ble_eq_true rfl⟩) (Nat.le_of_ble_eq_true rfl) (eR_0 V) rfl rfl rfl (Nat.le_of_ble_eq_true rfl) hl.1 dX12_rule_154 (fun H locs hM => ?_)
    refine lv_aload_n hC.1 hC.2.1 dX12_rule_157 rfl (lv_at hl 0 rfl) ?_
    refine mw_get (v := .ref (mvA V 5)) hC hM 0 (Nat.le_of_ble_eq_true rfl) (eR_0 V) inW12 rfl 6 (by decide) q_1152 (fun _ h9 => h9) rfl dX12_rule_158 ?_
    refine lv_iload_n hC.1 hC.2.1 dX12_rule_161 rfl (lv_at hl 1 rfl) ?_
    refine lv_iconst hC.1 hC.2.1 dX12_rule_162 ci_1 ?_
    refine lv_iadd hC.1 hC.2.1 dX12_rule_163 ?_
    refine lv_iload_n hC.1 hC.2.1 dX12_rule_164 rfl (lv_at hl 2 rfl) ?_
    obtain ⟨hg36, hf⟩ := o_g hf
    refine mw_iast hC hM 5 0 (Nat.le_of_ble_eq_true rfl) (eR_5 V) rfl hg36 dX12_rule_165 (fun H locs hM => ?_)
    refine lv_aload_n hC.1 hC.2.1 dX12_rule_166 rfl (lv_at hl 0 rfl) ?_
    refine mw_get (v := .ref (mvA V 5)) hC hM 0 (Nat.le_of_ble_eq_true rfl) (eR_0 V) inW12 rfl 6 (by decide) q_1152 (fun _ h9 => h9) rfl dX12_rule_167 ?_
    refine lv_iload_n hC.1 hC.2.1 dX12_rule_170 rfl (lv_at hl 1 rfl) ?_
    refine lv_iconst hC.1 hC.2.1 dX12_rule_171 ci_2 ?_
    refine lv_iadd hC.1 hC.2.1 dX12_rule_172 ?_
    refine lv_iload_n hC.1 hC.2.1 dX12_rule_173 rfl (lv_at hl 2 rfl) ?_
    refine lv_iconst hC.1 hC.2.1 dX12_rule_174 ci_2 ?_
    refine lv_icmp_ge (tgt := 187) hC.1 hC.2.1 dX12_rule_175 (by decide) (fun hc40 => ?_) (fun hc40 => ?_)
    · have hf := o_t hc40 hf
      refine lv_iconst hC.1 hC.2.1 dX12_rule_187 ci_0 ?_
      exact hL188 _ _ _ _ _ _ hf hM (lv_sub hl [0] rfl)
    · have hf := o_f hc40 hf
      refine lv_aload_n hC.1 hC.2.1 dX12_rule_178 rfl (lv_at hl 0 rfl) ?_
      refine lv_bipush hC.1 hC.2.1 dX12_rule_179 cb_99 ?_
      obtain ⟨r37, M39, hq38, hf⟩ := o_b2 hf
      refine mw_cVi (As := [.int 99]) (rest := [.int (x2 + 2), .ref (mvA V 5)]) hC hM (mcX12_number V l (wr M35 5 (Int32.toNatClampNeg (x2 + 1)) x3) 99 r37 M39 hq38) (mw_kV hC q_1439 q_1441 q_70 q_120 q_1442 ⟨rfl, rfl⟩ kV_X12_number ⟨Nat.le_of_ble_eq_true rfl, Nat.le_of_ble_eq_true rfl⟩) (Nat.le_of_ble_eq_true rfl) (eR_0 V) rfl rfl rfl (Nat.le_of_ble_eq_true rfl) hl.1 dX12_rule_181 (fun H locs hM _ => ?_)
      refine lv_goto (tgt := 188) hC.1 hC.2.1 dX12_rule_184 (by decide) ?_
      exact hL188 _ _ _ _ _ _ hf hM (lv_sub hl [0] rfl)
  have hL128 : ∀ (M : mM) (x2 : Int32) (t0 : Int32) (H : Heap) (locs : List Loc) (ls : Array Slot), fX12_rule_L128 M x2 t0 = some (r, M') → PR V M A s H locs → lv_has ls 4 [(0, .ref (mvA V 0)), (2, .int x2)] → W p l e ({ frames := 38, cells := 0, slots := 0, locals := 892 } : Room) s m args below meth c H locs 0 0 Q (F0 m 128 ls [.int t0]) := by
    intro M x2 t0 H locs ls hf hM hl
    unfold fX12_rule_L128 at hf
    refine lv_istore_n (lv' := [(3, .int t0), (0, .ref (mvA V 0)), (2, .int x2)]) hC.1 hC.2.1 dX12_rule_128 rfl hl (Nat.le_of_ble_eq_true rfl) rfl (fun ls hl => ?_)
    refine lv_aload_n hC.1 hC.2.1 dX12_rule_129 rfl (lv_at hl 1 rfl) ?_
    refine lv_iload_n hC.1 hC.2.1 dX12_rule_130 rfl (lv_at hl 0 rfl) ?_
    refine lv_if_ne (tgt := 140) hC.1 hC.2.1 dX12_rule_131 (by decide) (fun hc32 => ?_) (fun hc32 => ?_)
    · have hf := o_f hc32 hf
      refine lv_iload_n hC.1 hC.2.1 dX12_rule_140 rfl (lv_at hl 0 rfl) ?_
      refine lv_iconst hC.1 hC.2.1 dX12_rule_141 ci_1 ?_
      refine lv_icmp_ne (tgt := 151) hC.1 hC.2.1 dX12_rule_142 (by decide) (fun hc31 => ?_) (fun hc31 => ?_)
      · have hf := o_f hc31 hf
        refine mw_ldcwS (own := RX12) (index := 261) (tx := "nil") (q := mvK V 17) hC.1 hC.2.1 hC.2.2.2.1 (st_40 hC) dX12_rule_151 ?_
        exact hL154 _ _ _ _ _ _ _ hf hM (lv_sub hl [1, 2, 0] rfl)
      · have hf := o_t hc31 hf
        refine mw_ldcwS (own := RX12) (index := 259) (tx := "less") (q := mvK V 16) hC.1 hC.2.1 hC.2.2.2.1 (st_39 hC) dX12_rule_145 ?_
        refine lv_goto (tgt := 154) hC.1 hC.2.1 dX12_rule_148 (by decide) ?_
        exact hL154 _ _ _ _ _ _ _ hf hM (lv_sub hl [1, 2, 0] rfl)
    · have hf := o_t hc32 hf
      refine mw_ldcwS (own := RX12) (index := 257) (tx := "more") (q := mvK V 15) hC.1 hC.2.1 hC.2.2.2.1 (st_38 hC) dX12_rule_134 ?_
      refine lv_goto (tgt := 154) hC.1 hC.2.1 dX12_rule_137 (by decide) ?_
      exact hL154 _ _ _ _ _ _ _ hf hM (lv_sub hl [1, 2, 0] rfl)
  have hL87 : ∀ (M : mM) (x2 : Int32) (H : Heap) (locs : List Loc) (ls : Array Slot), fX12_rule_L87 M x2 = some (r, M') → PR V M A s H locs → lv_has ls 4 [(0, .ref (mvA V 0)), (2, .int x2)] → W p l e ({ frames := 38, cells := 0, slots := 0, locals := 892 } : Room) s m args below meth c H locs 0 0 Q (F0 m 87 ls []) := by
    intro M x2 H locs ls hf hM hl
    unfold fX12_rule_L87 at hf
    refine lv_aload_n hC.1 hC.2.1 dX12_rule_87 rfl (lv_at hl 0 rfl) ?_
    refine mw_get (v := .ref (mvA V 5)) hC hM 0 (Nat.le_of_ble_eq_true rfl) (eR_0 V) inW12 rfl 6 (by decide) q_1152 (fun _ h9 => h9) rfl dX12_rule_88 ?_
    refine lv_iload_n hC.1 hC.2.1 dX12_rule_91 rfl (lv_at hl 1 rfl) ?_
    refine lv_iconst hC.1 hC.2.1 dX12_rule_92 ci_4 ?_
    refine lv_iadd hC.1 hC.2.1 dX12_rule_93 ?_
    refine lv_aload_n hC.1 hC.2.1 dX12_rule_94 rfl (lv_at hl 0 rfl) ?_
    refine mw_get (v := .int (M 0 7)) hC hM 0 (Nat.le_of_ble_eq_true rfl) (eR_0 V) inW12 rfl 7 (by decide) q_1153 (fun _ h9 => h9) rfl dX12_rule_95 ?_
    obtain ⟨hg22, hf⟩ := o_g hf
    refine mw_iast hC hM 5 0 (Nat.le_of_ble_eq_true rfl) (eR_5 V) rfl hg22 dX12_rule_98 (fun H locs hM => ?_)
    refine lv_aload_n hC.1 hC.2.1 dX12_rule_99 rfl (lv_at hl 0 rfl) ?_
    refine mw_ldcwS (own := RX12) (index := 257) (tx := "more") (q := mvK V 15) hC.1 hC.2.1 hC.2.2.2.1 (st_38 hC) dX12_rule_100 ?_
    obtain ⟨r23, hq24, hf⟩ := o_b hf
    refine mw_cVi (As := [.ref (mvK V 15)]) (rest := []) hC hM (mcX12_isWord V l (wr M 5 (Int32.toNatClampNeg (x2 + 4)) (M 0 7)) 15 r23 hq24) (mw_kV hC q_1379 q_1381 q_59 q_120 q_1382 ⟨rfl, rfl⟩ kV_X12_isWord ⟨Nat.le_of_ble_eq_true rfl, Nat.le_of_ble_eq_true rfl⟩) (Nat.le_of_ble_eq_true rfl) (eR_0 V) rfl rfl rfl (Nat.le_of_ble_eq_true rfl) hl.1 dX12_rule_103 (fun H locs hM hb25 => ?_)
    refine lv_if_eq (tgt := 113) hC.1 hC.2.1 dX12_rule_106 (by decide) (fun hc30 => ?_) (fun hc30 => ?_)
    · have hf := o_t hc30 hf
      refine lv_aload_n hC.1 hC.2.1 dX12_rule_113 rfl (lv_at hl 0 rfl) ?_
      refine mw_ldcwS (own := RX12) (index := 259) (tx := "less") (q := mvK V 16) hC.1 hC.2.1 hC.2.2.2.1 (st_39 hC) dX12_rule_114 ?_
      obtain ⟨r26, hq27, hf⟩ := o_b hf
      refine mw_cVi (As := [.ref (mvK V 16)]) (rest := []) hC hM (mcX12_isWord V l (wr M 5 (Int32.toNatClampNeg (x2 + 4)) (M 0 7)) 16 r26 hq27) (mw_kV hC q_1379 q_1381 q_59 q_120 q_1382 ⟨rfl, rfl⟩ kV_X12_isWord ⟨Nat.le_of_ble_eq_true rfl, Nat.le_of_ble_eq_true rfl⟩) (Nat.le_of_ble_eq_true rfl) (eR_0 V) rfl rfl rfl (Nat.le_of_ble_eq_true rfl) hl.1 dX12_rule_117 (fun H locs hM hb28 => ?_)
      refine lv_if_eq (tgt := 127) hC.1 hC.2.1 dX12_rule_120 (by decide) (fun hc29 => ?_) (fun hc29 => ?_)
      · have hf := o_t hc29 hf
        refine lv_iconst hC.1 hC.2.1 dX12_rule_127 ci_2 ?_
        exact hL128 _ _ _ _ _ _ hf hM (lv_sub hl [0, 1] rfl)
      · have hf := o_f hc29 hf
        refine lv_iconst hC.1 hC.2.1 dX12_rule_123 ci_1 ?_
        refine lv_goto (tgt := 128) hC.1 hC.2.1 dX12_rule_124 (by decide) ?_
        exact hL128 _ _ _ _ _ _ hf hM (lv_sub hl [0, 1] rfl)
    · have hf := o_f hc30 hf
      refine lv_iconst hC.1 hC.2.1 dX12_rule_109 ci_0 ?_
      refine lv_goto (tgt := 128) hC.1 hC.2.1 dX12_rule_110 (by decide) ?_
      exact hL128 _ _ _ _ _ _ hf hM (lv_sub hl [0, 1] rfl)
  have hL27 : ∀ (M : mM) (x1 : Int32) (t1 : Int32) (H : Heap) (locs : List Loc) (ls : Array Slot), fX12_rule_L27 M x1 t1 = some (r, M') → PR V M A s H locs → lv_has ls 4 [(0, .ref (mvA V 0)), (1, .int x1)] → W p l e ({ frames := 38, cells := 0, slots := 0, locals := 892 } : Room) s m args below meth c H locs 0 0 Q (F0 m 27 ls [.int t1, .ref (mvA V 0)]) := by
    intro M x1 t1 H locs ls hf hM hl
    unfold fX12_rule_L27 at hf
    obtain ⟨hg6, hf⟩ := o_g hf
    refine mw_put hC hM 0 (Nat.le_of_ble_eq_true rfl) (eR_0 V) inW12 tyX12 tyX12_ok nmX12 rfl 11 (by decide) q_1157 (fun _ h9 => h9) rfl (nar_b (isB_or hg6)) (fit_b (isB_or hg6)) (Nat.le_of_ble_eq_true rfl) rfl dX12_rule_27 (fun H locs hM => ?_)
    refine lv_aload_n hC.1 hC.2.1 dX12_rule_30 rfl (lv_at hl 0 rfl) ?_
    refine mw_get (v := .int ((wr M 0 11 t1) 0 11)) hC hM 0 (Nat.le_of_ble_eq_true rfl) (eR_0 V) inW12 rfl 11 (by decide) q_1157 (fun _ h9 => h9) rfl dX12_rule_31 ?_
    refine lv_if_eq (tgt := 38) hC.1 hC.2.1 dX12_rule_34 (by decide) (fun hc21 => ?_) (fun hc21 => ?_)
    · have hf := o_t hc21 hf
      refine lv_aload_n hC.1 hC.2.1 dX12_rule_38 rfl (lv_at hl 0 rfl) ?_
      obtain ⟨r7, M9, hq8, hf⟩ := o_b2 hf
      refine mw_cVv (As := []) (rest := []) hC hM (mcX12_next V l (wr M 0 11 t1) r7 M9 hq8) (mw_kV hC q_1362 q_1364 q_55 q_120 q_1365 ⟨rfl, rfl⟩ kV_X12_next ⟨Nat.le_of_ble_eq_true rfl, Nat.le_of_ble_eq_true rfl⟩) (Nat.le_of_ble_eq_true rfl) (eR_0 V) rfl rfl rfl (Nat.le_of_ble_eq_true rfl) hl.1 dX12_rule_39 (fun H locs hM => ?_)
      refine lv_bipush hC.1 hC.2.1 dX12_rule_42 cb_55 ?_
      refine lv_iconst hC.1 hC.2.1 dX12_rule_44 ci_5 ?_
      refine lv_aload_n hC.1 hC.2.1 dX12_rule_45 rfl (lv_at hl 0 rfl) ?_
      refine mw_get (v := .ref (mvA V 5)) hC hM 0 (Nat.le_of_ble_eq_true rfl) (eR_0 V) inW12 rfl 6 (by decide) q_1152 (fun _ h9 => h9) rfl dX12_rule_46 ?_
      refine lv_bipush hC.1 hC.2.1 dX12_rule_49 cb_7 ?_
      obtain ⟨hg10, hf⟩ := o_g hf
      refine mw_iald hC hM 5 0 (Nat.le_of_ble_eq_true rfl) (eR_5 V) rfl hg10 dX12_rule_51 ?_
      refine lv_imul hC.1 hC.2.1 dX12_rule_52 ?_
      refine lv_iadd hC.1 hC.2.1 dX12_rule_53 ?_
      refine lv_istore_n (lv' := [(2, .int (55 + (5 * (M9 5 (Int32.toNatClampNeg 7))))), (0, .ref (mvA V 0)), (1, .int x1)]) hC.1 hC.2.1 dX12_rule_54 rfl hl (Nat.le_of_ble_eq_true rfl) rfl (fun ls hl => ?_)
      refine lv_aload_n hC.1 hC.2.1 dX12_rule_55 rfl (lv_at hl 1 rfl) ?_
      refine mw_get (v := .ref (mvA V 5)) hC hM 0 (Nat.le_of_ble_eq_true rfl) (eR_0 V) inW12 rfl 6 (by decide) q_1152 (fun _ h9 => h9) rfl dX12_rule_56 ?_
      refine lv_iload_n hC.1 hC.2.1 dX12_rule_59 rfl (lv_at hl 0 rfl) ?_
      refine lv_iload_n hC.1 hC.2.1 dX12_rule_60 rfl (lv_at hl 2 rfl) ?_
      obtain ⟨hg11, hf⟩ := o_g hf
      refine mw_iast hC hM 5 0 (Nat.le_of_ble_eq_true rfl) (eR_5 V) rfl hg11 dX12_rule_61 (fun H locs hM => ?_)
      refine lv_aload_n hC.1 hC.2.1 dX12_rule_62 rfl (lv_at hl 1 rfl) ?_
      refine mw_get (v := .ref (mvA V 5)) hC hM 0 (Nat.le_of_ble_eq_true rfl) (eR_0 V) inW12 rfl 6 (by decide) q_1152 (fun _ h9 => h9) rfl dX12_rule_63 ?_
      refine lv_iload_n hC.1 hC.2.1 dX12_rule_66 rfl (lv_at hl 0 rfl) ?_
      refine lv_iconst hC.1 hC.2.1 dX12_rule_67 ci_3 ?_
      refine lv_iadd hC.1 hC.2.1 dX12_rule_68 ?_
      refine lv_aload_n hC.1 hC.2.1 dX12_rule_69 rfl (lv_at hl 1 rfl) ?_
      refine mw_get (v := .int ((wr M9 5 (Int32.toNatClampNeg (55 + (5 * (M9 5 (Int32.toNatClampNeg 7))))) x1) 0 7)) hC hM 0 (Nat.le_of_ble_eq_true rfl) (eR_0 V) inW12 rfl 7 (by decide) q_1153 (fun _ h9 => h9) rfl dX12_rule_70 ?_
      obtain ⟨hg12, hf⟩ := o_g hf
      refine mw_iast hC hM 5 0 (Nat.le_of_ble_eq_true rfl) (eR_5 V) rfl hg12 dX12_rule_73 (fun H locs hM => ?_)
      refine lv_aload_n hC.1 hC.2.1 dX12_rule_74 rfl (lv_at hl 1 rfl) ?_
      refine va_ldcS (own := RX12) (index := 255) (tx := "if") (q := mvK V 11) hC.1 hC.2.1 hC.2.2.2.1 (st_24 hC) dX12_rule_75 ?_
      obtain ⟨r13, M15, hq14, hf⟩ := o_b2 hf
      refine mw_cVi (As := [.ref (mvK V 11)]) (rest := []) hC hM (mcX12_takes V l (wr (wr M9 5 (Int32.toNatClampNeg (55 + (5 * (M9 5 (Int32.toNatClampNeg 7))))) x1) 5 (Int32.toNatClampNeg ((55 + (5 * (M9 5 (Int32.toNatClampNeg 7)))) + 3)) ((wr M9 5 (Int32.toNatClampNeg (55 + (5 * (M9 5 (Int32.toNatClampNeg 7))))) x1) 0 7)) 11 r13 M15 hq14) (mw_kV hC q_1391 q_1393 q_60 q_120 q_1394 ⟨rfl, rfl⟩ kV_X12_takes ⟨Nat.le_of_ble_eq_true rfl, Nat.le_of_ble_eq_true rfl⟩) (Nat.le_of_ble_eq_true rfl) (eR_0 V) rfl rfl rfl (Nat.le_of_ble_eq_true rfl) hl.1 dX12_rule_77 (fun H locs hM hb16 => ?_)
      refine lv_if_eq (tgt := 87) hC.1 hC.2.1 dX12_rule_80 (by decide) (fun hc20 => ?_) (fun hc20 => ?_)
      · have hf := o_t hc20 hf
        exact hL87 _ _ _ _ _ hf hM (lv_sub hl [1, 0] rfl)
      · have hf := o_f hc20 hf
        refine lv_aload_n hC.1 hC.2.1 dX12_rule_83 rfl (lv_at hl 1 rfl) ?_
        obtain ⟨r17, M19, hq18, hf⟩ := o_b2 hf
        refine mw_cVv (As := []) (rest := []) hC hM (mcX12_any V l 6 M15 r17 M19 hq18) (mw_kV hC q_1395 q_1397 q_61 q_120 q_1398 ⟨rfl, rfl⟩ kV_X12_any ⟨Nat.le_of_ble_eq_true rfl, Nat.le_of_ble_eq_true rfl⟩) (Nat.le_of_ble_eq_true rfl) (eR_0 V) rfl rfl rfl (Nat.le_of_ble_eq_true rfl) hl.1 dX12_rule_84 (fun H locs hM => ?_)
        exact hL87 _ _ _ _ _ hf hM (lv_sub hl [1, 0] rfl)
    · have hf := o_f hc21 hf
      exact hret (o_r2 hf hM) dX12_rule_37
  have hL22 : ∀ (M : mM) (x1 : Int32) (H : Heap) (locs : List Loc) (ls : Array Slot), fX12_rule_L22 M x1 = some (r, M') → PR V M A s H locs → lv_has ls 4 [(0, .ref (mvA V 0)), (1, .int x1)] → W p l e ({ frames := 38, cells := 0, slots := 0, locals := 892 } : Room) s m args below meth c H locs 0 0 Q (F0 m 22 ls [.ref (mvA V 0)]) := by
    intro M x1 H locs ls hf hM hl
    unfold fX12_rule_L22 at hf
    refine lv_iconst hC.1 hC.2.1 dX12_rule_22 ci_1 ?_
    refine lv_goto (tgt := 27) hC.1 hC.2.1 dX12_rule_23 (by decide) ?_
    exact hL27 _ _ _ _ _ _ hf hM (lv_sub hl [0, 1] rfl)
  refine lv_aload_n hC.1 hC.2.1 dX12_rule_0 rfl (lv_at hl 0 rfl) ?_
  obtain ⟨r1, hq2, hf⟩ := o_b hf
  refine mw_cVi (As := []) (rest := []) hC hM (mcX12_kindHere V l M r1 hq2) (mw_kV hC q_1374 q_1376 q_58 q_120 q_1377 ⟨rfl, rfl⟩ kV_X12_kindHere ⟨Nat.le_of_ble_eq_true rfl, Nat.le_of_ble_eq_true rfl⟩) (Nat.le_of_ble_eq_true rfl) (eR_0 V) rfl rfl rfl (Nat.le_of_ble_eq_true rfl) hl.1 dX12_rule_1 (fun H locs hM _ => ?_)
  refine lv_istore_n (lv' := [(1, .int r1), (0, .ref (mvA V 0))]) hC.1 hC.2.1 dX12_rule_4 rfl hl (Nat.le_of_ble_eq_true rfl) rfl (fun ls hl => ?_)
  refine lv_aload_n hC.1 hC.2.1 dX12_rule_5 rfl (lv_at hl 1 rfl) ?_
  refine lv_iload_n hC.1 hC.2.1 dX12_rule_6 rfl (lv_at hl 0 rfl) ?_
  refine lv_if_lt (tgt := 22) hC.1 hC.2.1 dX12_rule_7 (by decide) (fun hc5 => ?_) (fun hc5 => ?_)
  · have hf := o_t hc5 hf
    exact hL22 _ _ _ _ _ hf hM (lv_sub hl [1, 0] rfl)
  · have hf := o_f hc5 hf
    refine lv_aload_n hC.1 hC.2.1 dX12_rule_10 rfl (lv_at hl 1 rfl) ?_
    refine mw_get (v := .ref (mvA V 5)) hC hM 0 (Nat.le_of_ble_eq_true rfl) (eR_0 V) inW12 rfl 6 (by decide) q_1152 (fun _ h9 => h9) rfl dX12_rule_11 ?_
    refine lv_bipush hC.1 hC.2.1 dX12_rule_14 cb_7 ?_
    obtain ⟨hg3, hf⟩ := o_g hf
    refine mw_iald hC hM 5 0 (Nat.le_of_ble_eq_true rfl) (eR_5 V) rfl hg3 dX12_rule_16 ?_
    refine lv_bipush hC.1 hC.2.1 dX12_rule_17 cb_8 ?_
    refine lv_icmp_ne (tgt := 26) hC.1 hC.2.1 dX12_rule_19 (by decide) (fun hc4 => ?_) (fun hc4 => ?_)
    · have hf := o_f hc4 hf
      refine lv_iconst hC.1 hC.2.1 dX12_rule_26 ci_0 ?_
      exact hL27 _ _ _ _ _ _ hf hM (lv_sub hl [1, 0] rfl)
    · have hf := o_t hc4 hf
      exact hL22 _ _ _ _ _ hf hM (lv_sub hl [1, 0] rfl)
set_option maxHeartbeats 4000000 in
set_option maxRecDepth 100000 in
theorem mcX12_rules (V : mV) (l : Launch) (M : mM) (r : Int32) (M' : mM) (hf : fX12_rules M = some (r, M')) : IR V l yX12_rules cX12_rules 2 ({ frames := 39, cells := 0, slots := 0, locals := 915 } : Room) [.ref (mvA V 0)] M r M' := by
  unfold fX12_rules at hf
  refine mw_enterI RX12 rfl (by decide +kernel) (Nat.le_of_ble_eq_true rfl) (fun {p e s m args below meth c} ls A Q hC hret hM hl => ?_)
  have hl : lv_has ls 2 [(0, .ref (mvA V 0))] := hl
  have hL94 : ∀ (n : Nat) (M : mM) (x1 : Int32) (H : Heap) (locs : List Loc) (ls : Array Slot), fX12_rules_L94 n M x1 = some (r, M') → PR V M A s H locs → lv_has ls 2 [(0, .ref (mvA V 0)), (1, .int x1)] → W p l e ({ frames := 39, cells := 0, slots := 0, locals := 915 } : Room) s m args below meth c H locs 0 0 Q (F0 m 94 ls []) := by
    intro n51
    induction n51 with
    | zero => intro M x1 H locs ls hf; cases hf
    | succ n51 ih51 =>
      intro M x1 H locs ls hf hM hl
      have hf : fX12_rules_L94_b (fX12_rules_L94 n51) M x1 = some (r, M') := hf
      unfold fX12_rules_L94_b at hf
      refine lv_iload_n hC.1 hC.2.1 dX12_rules_94 rfl (lv_at hl 1 rfl) ?_
      refine lv_sipush hC.1 hC.2.1 dX12_rules_95 cs_295 ?_
      refine lv_icmp_ge (tgt := 119) hC.1 hC.2.1 dX12_rules_98 (by decide) (fun hc16 => ?_) (fun hc16 => ?_)
      · have hf := o_t hc16 hf
        refine lv_aload_n hC.1 hC.2.1 dX12_rules_119 rfl (lv_at hl 0 rfl) ?_
        refine mw_get (v := .ref (mvA V 1)) hC hM 0 (Nat.le_of_ble_eq_true rfl) (eR_0 V) inW12 rfl 0 (by decide) q_1146 (fun _ h9 => h9) rfl dX12_rules_120 ?_
        refine lv_bipush hC.1 hC.2.1 dX12_rules_123 cb_7 ?_
        obtain ⟨hg13, hf⟩ := o_g hf
        refine mw_iald hC hM 1 0 (Nat.le_of_ble_eq_true rfl) (eR_1 V) rfl hg13 dX12_rules_125 ?_
        exact hret (o_r1 hf) (o_r2 hf hM) dX12_rules_126
      · have hf := o_f hc16 hf
        refine lv_aload_n hC.1 hC.2.1 dX12_rules_101 rfl (lv_at hl 0 rfl) ?_
        refine mw_get (v := .ref (mvA V 1)) hC hM 0 (Nat.le_of_ble_eq_true rfl) (eR_0 V) inW12 rfl 0 (by decide) q_1146 (fun _ h9 => h9) rfl dX12_rules_102 ?_
        refine lv_iload_n hC.1 hC.2.1 dX12_rules_105 rfl (lv_at hl 1 rfl) ?_
        refine lv_aload_n hC.1 hC.2.1 dX12_rules_106 rfl (lv_at hl 0 rfl) ?_
        refine mw_get (v := .ref (mvA V 5)) hC hM 0 (Nat.le_of_ble_eq_true rfl) (eR_0 V) inW12 rfl 6 (by decide) q_1152 (fun _ h9 => h9) rfl dX12_rules_107 ?_
        refine lv_iload_n hC.1 hC.2.1 dX12_rules_110 rfl (lv_at hl 1 rfl) ?_
        obtain ⟨hg14, hf⟩ := o_g hf
        refine mw_iald hC hM 5 0 (Nat.le_of_ble_eq_true rfl) (eR_5 V) rfl hg14 dX12_rules_111 ?_
        obtain ⟨hg15, hf⟩ := o_g hf
        refine mw_iast hC hM 1 0 (Nat.le_of_ble_eq_true rfl) (eR_1 V) rfl hg15 dX12_rules_112 (fun H locs hM => ?_)
        refine lv_iinc (k := 1) (lv' := [(1, .int (x1 + 1)), (0, .ref (mvA V 0))]) hC.1 hC.2.1 dX12_rules_113 hl rfl (inc_1 _) (Nat.le_of_ble_eq_true rfl) rfl (fun ls hl => ?_)
        refine lv_goto (tgt := 94) hC.1 hC.2.1 dX12_rules_116 (by decide) ?_
        exact ih51 _ _ _ _ _ hf hM (lv_sub hl [1, 0] rfl)
  have hL57 : ∀ (M : mM) (H : Heap) (locs : List Loc) (ls : Array Slot), fX12_rules_L57 M = some (r, M') → PR V M A s H locs → lv_has ls 2 [(0, .ref (mvA V 0))] → W p l e ({ frames := 39, cells := 0, slots := 0, locals := 915 } : Room) s m args below meth c H locs 0 0 Q (F0 m 57 ls []) := by
    intro M H locs ls hf hM hl
    unfold fX12_rules_L57 at hf
    refine lv_aload_n hC.1 hC.2.1 dX12_rules_57 rfl (lv_at hl 0 rfl) ?_
    refine lv_iconst hC.1 hC.2.1 dX12_rules_58 ci_0 ?_
    refine mw_put hC hM 0 (Nat.le_of_ble_eq_true rfl) (eR_0 V) inW12 tyX12 tyX12_ok nmX12 rfl 5 (by decide) q_1151 (fun _ h9 => h9) rfl rfl rfl (Nat.le_of_ble_eq_true rfl) rfl dX12_rules_59 (fun H locs hM => ?_)
    refine lv_aload_n hC.1 hC.2.1 dX12_rules_62 rfl (lv_at hl 0 rfl) ?_
    refine mw_get (v := .int ((wr M 0 5 0) 0 11)) hC hM 0 (Nat.le_of_ble_eq_true rfl) (eR_0 V) inW12 rfl 11 (by decide) q_1157 (fun _ h9 => h9) rfl dX12_rules_63 ?_
    refine lv_if_eq (tgt := 77) hC.1 hC.2.1 dX12_rules_66 (by decide) (fun hc12 => ?_) (fun hc12 => ?_)
    · have hf := o_t hc12 hf
      refine lv_aload_n hC.1 hC.2.1 dX12_rules_77 rfl (lv_at hl 0 rfl) ?_
      refine mw_get (v := .ref (mvA V 1)) hC hM 0 (Nat.le_of_ble_eq_true rfl) (eR_0 V) inW12 rfl 0 (by decide) q_1146 (fun _ h9 => h9) rfl dX12_rules_78 ?_
      refine lv_bipush hC.1 hC.2.1 dX12_rules_81 cb_7 ?_
      refine lv_aload_n hC.1 hC.2.1 dX12_rules_83 rfl (lv_at hl 0 rfl) ?_
      refine mw_get (v := .ref (mvA V 5)) hC hM 0 (Nat.le_of_ble_eq_true rfl) (eR_0 V) inW12 rfl 6 (by decide) q_1152 (fun _ h9 => h9) rfl dX12_rules_84 ?_
      refine lv_bipush hC.1 hC.2.1 dX12_rules_87 cb_7 ?_
      obtain ⟨hg10, hf⟩ := o_g hf
      refine mw_iald hC hM 5 0 (Nat.le_of_ble_eq_true rfl) (eR_5 V) rfl hg10 dX12_rules_89 ?_
      obtain ⟨hg11, hf⟩ := o_g hf
      refine mw_iast hC hM 1 0 (Nat.le_of_ble_eq_true rfl) (eR_1 V) rfl hg11 dX12_rules_90 (fun H locs hM => ?_)
      refine lv_bipush hC.1 hC.2.1 dX12_rules_91 cb_55 ?_
      refine lv_istore_n (lv' := [(1, .int 55), (0, .ref (mvA V 0))]) hC.1 hC.2.1 dX12_rules_93 rfl hl (Nat.le_of_ble_eq_true rfl) rfl (fun ls hl => ?_)
      exact hL94 _ _ _ _ _ _ hf hM (lv_sub hl [1, 0] rfl)
    · have hf := o_f hc12 hf
      refine lv_bipush hC.1 hC.2.1 dX12_rules_69 cb_m100 ?_
      refine lv_aload_n hC.1 hC.2.1 dX12_rules_71 rfl (lv_at hl 0 rfl) ?_
      refine mw_get (v := .int ((wr M 0 5 0) 0 8)) hC hM 0 (Nat.le_of_ble_eq_true rfl) (eR_0 V) inW12 rfl 8 (by decide) q_1154 (fun _ h9 => h9) rfl dX12_rules_72 ?_
      refine lv_isub hC.1 hC.2.1 dX12_rules_75 ?_
      exact hret (o_r1 hf) (o_r2 hf hM) dX12_rules_76
  have hL32 : ∀ (n : Nat) (M : mM) (H : Heap) (locs : List Loc) (ls : Array Slot), fX12_rules_L32 n M = some (r, M') → PR V M A s H locs → lv_has ls 2 [(0, .ref (mvA V 0))] → W p l e ({ frames := 39, cells := 0, slots := 0, locals := 915 } : Room) s m args below meth c H locs 0 0 Q (F0 m 32 ls []) := by
    intro n19
    induction n19 with
    | zero => intro M H locs ls hf; cases hf
    | succ n19 ih19 =>
      intro M H locs ls hf hM hl
      have hf : fX12_rules_L32_b (fX12_rules_L32 n19) M = some (r, M') := hf
      unfold fX12_rules_L32_b at hf
      refine lv_aload_n hC.1 hC.2.1 dX12_rules_32 rfl (lv_at hl 0 rfl) ?_
      refine mw_get (v := .int (M 0 11)) hC hM 0 (Nat.le_of_ble_eq_true rfl) (eR_0 V) inW12 rfl 11 (by decide) q_1157 (fun _ h9 => h9) rfl dX12_rules_33 ?_
      refine lv_if_ne (tgt := 57) hC.1 hC.2.1 dX12_rules_36 (by decide) (fun hc9 => ?_) (fun hc9 => ?_)
      · have hf := o_f hc9 hf
        exact hL57 _ _ _ _ hf hM (lv_sub hl [0] rfl)
      · have hf := o_t hc9 hf
        refine lv_aload_n hC.1 hC.2.1 dX12_rules_39 rfl (lv_at hl 0 rfl) ?_
        refine mw_get (v := .int (M 0 8)) hC hM 0 (Nat.le_of_ble_eq_true rfl) (eR_0 V) inW12 rfl 8 (by decide) q_1154 (fun _ h9 => h9) rfl dX12_rules_40 ?_
        refine lv_aload_n hC.1 hC.2.1 dX12_rules_43 rfl (lv_at hl 0 rfl) ?_
        refine mw_get (v := .int (M 0 5)) hC hM 0 (Nat.le_of_ble_eq_true rfl) (eR_0 V) inW12 rfl 5 (by decide) q_1151 (fun _ h9 => h9) rfl dX12_rules_44 ?_
        refine lv_icmp_ge (tgt := 57) hC.1 hC.2.1 dX12_rules_47 (by decide) (fun hc8 => ?_) (fun hc8 => ?_)
        · have hf := o_t hc8 hf
          exact hL57 _ _ _ _ hf hM (lv_sub hl [0] rfl)
        · have hf := o_f hc8 hf
          refine lv_aload_n hC.1 hC.2.1 dX12_rules_50 rfl (lv_at hl 0 rfl) ?_
          obtain ⟨r5, M7, hq6, hf⟩ := o_b2 hf
          refine mw_cVv (As := []) (rest := []) hC hM (mcX12_rule V l M r5 M7 hq6) (mw_kV hC q_1370 q_1372 q_57 q_120 q_1373 ⟨rfl, rfl⟩ kV_X12_rule ⟨Nat.le_of_ble_eq_true rfl, Nat.le_of_ble_eq_true rfl⟩) (Nat.le_of_ble_eq_true rfl) (eR_0 V) rfl rfl rfl (Nat.le_of_ble_eq_true rfl) hl.1 dX12_rules_51 (fun H locs hM => ?_)
          refine lv_goto (tgt := 32) hC.1 hC.2.1 dX12_rules_54 (by decide) ?_
          exact ih19 _ _ _ _ hf hM (lv_sub hl [0] rfl)
  refine lv_aload_n hC.1 hC.2.1 dX12_rules_0 rfl (lv_at hl 0 rfl) ?_
  refine lv_iconst hC.1 hC.2.1 dX12_rules_1 ci_0 ?_
  refine mw_put hC hM 0 (Nat.le_of_ble_eq_true rfl) (eR_0 V) inW12 tyX12 tyX12_ok nmX12 rfl 11 (by decide) q_1157 (fun _ h9 => h9) rfl (nar_b (Or.inl rfl)) (fit_b (Or.inl rfl)) (Nat.le_of_ble_eq_true rfl) rfl dX12_rules_2 (fun H locs hM => ?_)
  refine lv_aload_n hC.1 hC.2.1 dX12_rules_5 rfl (lv_at hl 0 rfl) ?_
  refine lv_iconst hC.1 hC.2.1 dX12_rules_6 ci_0 ?_
  refine mw_put hC hM 0 (Nat.le_of_ble_eq_true rfl) (eR_0 V) inW12 tyX12 tyX12_ok nmX12 rfl 10 (by decide) q_1156 (fun _ h9 => h9) rfl rfl rfl (Nat.le_of_ble_eq_true rfl) rfl dX12_rules_7 (fun H locs hM => ?_)
  refine lv_aload_n hC.1 hC.2.1 dX12_rules_10 rfl (lv_at hl 0 rfl) ?_
  refine lv_iconst hC.1 hC.2.1 dX12_rules_11 ci_0 ?_
  refine mw_put hC hM 0 (Nat.le_of_ble_eq_true rfl) (eR_0 V) inW12 tyX12 tyX12_ok nmX12 rfl 7 (by decide) q_1153 (fun _ h9 => h9) rfl rfl rfl (Nat.le_of_ble_eq_true rfl) rfl dX12_rules_12 (fun H locs hM => ?_)
  refine lv_aload_n hC.1 hC.2.1 dX12_rules_15 rfl (lv_at hl 0 rfl) ?_
  refine lv_iconst hC.1 hC.2.1 dX12_rules_16 ci_0 ?_
  refine mw_put hC hM 0 (Nat.le_of_ble_eq_true rfl) (eR_0 V) inW12 tyX12 tyX12_ok nmX12 rfl 9 (by decide) q_1155 (fun _ h9 => h9) rfl rfl rfl (Nat.le_of_ble_eq_true rfl) rfl dX12_rules_17 (fun H locs hM => ?_)
  refine lv_aload_n hC.1 hC.2.1 dX12_rules_20 rfl (lv_at hl 0 rfl) ?_
  refine mw_get (v := .ref (mvA V 5)) hC hM 0 (Nat.le_of_ble_eq_true rfl) (eR_0 V) inW12 rfl 6 (by decide) q_1152 (fun _ h9 => h9) rfl dX12_rules_21 ?_
  refine lv_bipush hC.1 hC.2.1 dX12_rules_24 cb_7 ?_
  refine lv_iconst hC.1 hC.2.1 dX12_rules_26 ci_0 ?_
  obtain ⟨hg1, hf⟩ := o_g hf
  refine mw_iast hC hM 5 0 (Nat.le_of_ble_eq_true rfl) (eR_5 V) rfl hg1 dX12_rules_27 (fun H locs hM => ?_)
  refine lv_aload_n hC.1 hC.2.1 dX12_rules_28 rfl (lv_at hl 0 rfl) ?_
  obtain ⟨r2, M4, hq3, hf⟩ := o_b2 hf
  refine mw_cVv (As := []) (rest := []) hC hM (mcX12_next V l (wr (wr (wr (wr (wr M 0 11 0) 0 10 0) 0 7 0) 0 9 0) 5 (Int32.toNatClampNeg 7) 0) r2 M4 hq3) (mw_kV hC q_1362 q_1364 q_55 q_120 q_1365 ⟨rfl, rfl⟩ kV_X12_next ⟨Nat.le_of_ble_eq_true rfl, Nat.le_of_ble_eq_true rfl⟩) (Nat.le_of_ble_eq_true rfl) (eR_0 V) rfl rfl rfl (Nat.le_of_ble_eq_true rfl) hl.1 dX12_rules_29 (fun H locs hM => ?_)
  exact hL32 _ _ _ _ _ hf hM (lv_sub hl [0] rfl)
set_option maxHeartbeats 4000000 in
set_option maxRecDepth 100000 in
theorem mcX12_sumNow (V : mV) (l : Launch) (M : mM) (r : Int32) (M' : mM) (hf : fX12_sumNow M = some (r, M')) : IR V l yX12_sumNow cX12_sumNow 3 ({ frames := 6, cells := 0, slots := 0, locals := 139 } : Room) [.ref (mvA V 0)] M r M' := by
  unfold fX12_sumNow at hf
  refine mw_enterI RX12 rfl (by decide +kernel) (Nat.le_of_ble_eq_true rfl) (fun {p e s m args below meth c} ls A Q hC hret hM hl => ?_)
  have hl : lv_has ls 3 [(0, .ref (mvA V 0))] := hl
  have hL4 : ∀ (n : Nat) (M : mM) (x1 : Int32) (x2 : Int32) (H : Heap) (locs : List Loc) (ls : Array Slot), fX12_sumNow_L4 n M x1 x2 = some (r, M') → PR V M A s H locs → lv_has ls 3 [(0, .ref (mvA V 0)), (1, .int x1), (2, .int x2)] → W p l e ({ frames := 6, cells := 0, slots := 0, locals := 139 } : Room) s m args below meth c H locs 0 0 Q (F0 m 4 ls []) := by
    intro n4
    induction n4 with
    | zero => intro M x1 x2 H locs ls hf; cases hf
    | succ n4 ih4 =>
      intro M x1 x2 H locs ls hf hM hl
      have hf : fX12_sumNow_L4_b (fX12_sumNow_L4 n4) M x1 x2 = some (r, M') := hf
      unfold fX12_sumNow_L4_b at hf
      refine lv_iload_n hC.1 hC.2.1 dX12_sumNow_4 rfl (lv_at hl 2 rfl) ?_
      refine lv_aload_n hC.1 hC.2.1 dX12_sumNow_5 rfl (lv_at hl 0 rfl) ?_
      refine mw_get (v := .ref (mvA V 1)) hC hM 0 (Nat.le_of_ble_eq_true rfl) (eR_0 V) inW12 rfl 0 (by decide) q_1146 (fun _ h9 => h9) rfl dX12_sumNow_6 ?_
      refine lv_iconst hC.1 hC.2.1 dX12_sumNow_9 ci_0 ?_
      obtain ⟨hg1, hf⟩ := o_g hf
      refine mw_iald hC hM 1 0 (Nat.le_of_ble_eq_true rfl) (eR_1 V) rfl hg1 dX12_sumNow_10 ?_
      refine lv_icmp_ge (tgt := 48) hC.1 hC.2.1 dX12_sumNow_11 (by decide) (fun hc10 => ?_) (fun hc10 => ?_)
      · have hf := o_t hc10 hf
        refine lv_iload_n hC.1 hC.2.1 dX12_sumNow_48 rfl (lv_at hl 1 rfl) ?_
        exact hret (o_r1 hf) (o_r2 hf hM) dX12_sumNow_49
      · have hf := o_f hc10 hf
        refine lv_iload_n hC.1 hC.2.1 dX12_sumNow_14 rfl (lv_at hl 1 rfl) ?_
        refine lv_aload_n hC.1 hC.2.1 dX12_sumNow_15 rfl (lv_at hl 0 rfl) ?_
        refine lv_iload_n hC.1 hC.2.1 dX12_sumNow_16 rfl (lv_at hl 2 rfl) ?_
        refine lv_iconst hC.1 hC.2.1 dX12_sumNow_17 ci_4 ?_
        obtain ⟨r2, hq3, hf⟩ := o_b hf
        refine mw_cVi (As := [.int x2, .int 4]) (rest := [.int x1]) hC hM (mcX12_its V l M x2 4 r2 hq3) (mw_kV hC q_1282 q_1284 q_46 q_120 q_1285 ⟨rfl, rfl⟩ kV_X12_its ⟨Nat.le_of_ble_eq_true rfl, Nat.le_of_ble_eq_true rfl⟩) (Nat.le_of_ble_eq_true rfl) (eR_0 V) rfl rfl rfl (Nat.le_of_ble_eq_true rfl) hl.1 dX12_sumNow_18 (fun H locs hM _ => ?_)
        refine lv_iconst hC.1 hC.2.1 dX12_sumNow_21 ci_1 ?_
        refine lv_icmp_ne (tgt := 39) hC.1 hC.2.1 dX12_sumNow_22 (by decide) (fun hc9 => ?_) (fun hc9 => ?_)
        · have hf := o_f hc9 hf
          refine lv_iconst hC.1 hC.2.1 dX12_sumNow_39 ci_0 ?_
          refine lv_iadd hC.1 hC.2.1 dX12_sumNow_40 ?_
          refine lv_istore_n (lv' := [(1, .int (x1 + 0)), (0, .ref (mvA V 0)), (2, .int x2)]) hC.1 hC.2.1 dX12_sumNow_41 rfl hl (Nat.le_of_ble_eq_true rfl) rfl (fun ls hl => ?_)
          refine lv_iinc (k := 2) (lv' := [(2, .int (x2 + 1)), (1, .int (x1 + 0)), (0, .ref (mvA V 0))]) hC.1 hC.2.1 dX12_sumNow_42 hl rfl (inc_1 _) (Nat.le_of_ble_eq_true rfl) rfl (fun ls hl => ?_)
          refine lv_goto (tgt := 4) hC.1 hC.2.1 dX12_sumNow_45 (by decide) ?_
          exact ih4 _ _ _ _ _ _ hf hM (lv_sub hl [2, 1, 0] rfl)
        · have hf := o_t hc9 hf
          refine lv_aload_n hC.1 hC.2.1 dX12_sumNow_25 rfl (lv_at hl 0 rfl) ?_
          refine lv_iload_n hC.1 hC.2.1 dX12_sumNow_26 rfl (lv_at hl 2 rfl) ?_
          obtain ⟨r4, hq5, hf⟩ := o_b hf
          refine mw_cVi (As := [.int x2]) (rest := [.int x1]) hC hM (mcX12_voteOf V l M x2 r4 hq5) (mw_kV hC q_1286 q_1288 q_47 q_120 q_1289 ⟨rfl, rfl⟩ kV_X12_voteOf ⟨Nat.le_of_ble_eq_true rfl, Nat.le_of_ble_eq_true rfl⟩) (Nat.le_of_ble_eq_true rfl) (eR_0 V) rfl rfl rfl (Nat.le_of_ble_eq_true rfl) hl.1 dX12_sumNow_27 (fun H locs hM _ => ?_)
          refine lv_aload_n hC.1 hC.2.1 dX12_sumNow_30 rfl (lv_at hl 0 rfl) ?_
          refine lv_iload_n hC.1 hC.2.1 dX12_sumNow_31 rfl (lv_at hl 2 rfl) ?_
          obtain ⟨r6, M8, hq7, hf⟩ := o_b2 hf
          refine mw_cVi (As := [.int x2]) (rest := [.int r4, .int x1]) hC hM (mcX12_powerOf V l M x2 r6 M8 hq7) (mw_kV hC q_1293 q_1295 q_48 q_120 q_1296 ⟨rfl, rfl⟩ kV_X12_powerOf ⟨Nat.le_of_ble_eq_true rfl, Nat.le_of_ble_eq_true rfl⟩) (Nat.le_of_ble_eq_true rfl) (eR_0 V) rfl rfl rfl (Nat.le_of_ble_eq_true rfl) hl.1 dX12_sumNow_32 (fun H locs hM _ => ?_)
          refine lv_imul hC.1 hC.2.1 dX12_sumNow_35 ?_
          refine lv_goto (tgt := 40) hC.1 hC.2.1 dX12_sumNow_36 (by decide) ?_
          refine lv_iadd hC.1 hC.2.1 dX12_sumNow_40 ?_
          refine lv_istore_n (lv' := [(1, .int (x1 + (r4 * r6))), (0, .ref (mvA V 0)), (2, .int x2)]) hC.1 hC.2.1 dX12_sumNow_41 rfl hl (Nat.le_of_ble_eq_true rfl) rfl (fun ls hl => ?_)
          refine lv_iinc (k := 2) (lv' := [(2, .int (x2 + 1)), (1, .int (x1 + (r4 * r6))), (0, .ref (mvA V 0))]) hC.1 hC.2.1 dX12_sumNow_42 hl rfl (inc_1 _) (Nat.le_of_ble_eq_true rfl) rfl (fun ls hl => ?_)
          refine lv_goto (tgt := 4) hC.1 hC.2.1 dX12_sumNow_45 (by decide) ?_
          exact ih4 _ _ _ _ _ _ hf hM (lv_sub hl [2, 1, 0] rfl)
  refine lv_iconst hC.1 hC.2.1 dX12_sumNow_0 ci_0 ?_
  refine lv_istore_n (lv' := [(1, .int 0), (0, .ref (mvA V 0))]) hC.1 hC.2.1 dX12_sumNow_1 rfl hl (Nat.le_of_ble_eq_true rfl) rfl (fun ls hl => ?_)
  refine lv_iconst hC.1 hC.2.1 dX12_sumNow_2 ci_0 ?_
  refine lv_istore_n (lv' := [(2, .int 0), (1, .int 0), (0, .ref (mvA V 0))]) hC.1 hC.2.1 dX12_sumNow_3 rfl hl (Nat.le_of_ble_eq_true rfl) rfl (fun ls hl => ?_)
  exact hL4 _ _ _ _ _ _ _ hf hM (lv_sub hl [2, 1, 0] rfl)
set_option maxHeartbeats 4000000 in
set_option maxRecDepth 100000 in
theorem mcX12_sum (V : mV) (l : Launch) (M : mM) (r : Int32) (M' : mM) (hf : fX12_sum M = some (r, M')) : IR V l yX12_sum cX12_sum 1 ({ frames := 7, cells := 0, slots := 0, locals := 161 } : Room) [.ref (mvA V 0)] M r M' := by
  unfold fX12_sum at hf
  refine mw_enterI RX12 rfl (by decide +kernel) (Nat.le_of_ble_eq_true rfl) (fun {p e s m args below meth c} ls A Q hC hret hM hl => ?_)
  have hl : lv_has ls 1 [(0, .ref (mvA V 0))] := hl
  refine lv_aload_n hC.1 hC.2.1 dX12_sum_0 rfl (lv_at hl 0 rfl) ?_
  obtain ⟨r1, M3, hq2, hf⟩ := o_b2 hf
  refine mw_cVi (As := []) (rest := []) hC hM (mcX12_sumNow V l M r1 M3 hq2) (mw_kV hC q_1460 q_1462 q_72 q_120 q_1463 ⟨rfl, rfl⟩ kV_X12_sumNow ⟨Nat.le_of_ble_eq_true rfl, Nat.le_of_ble_eq_true rfl⟩) (Nat.le_of_ble_eq_true rfl) (eR_0 V) rfl rfl rfl (Nat.le_of_ble_eq_true rfl) hl.1 dX12_sum_1 (fun H locs hM _ => ?_)
  exact hret (o_r1 hf) (o_r2 hf hM) dX12_sum_4
set_option maxHeartbeats 4000000 in
set_option maxRecDepth 100000 in
theorem mcX12_moveBy (V : mV) (l : Launch) (M : mM) (p1 : Int32) (r : Int32) (hf : fX12_moveBy M p1 = some r) : IR V l yX12_moveBy cX12_moveBy 2 ({ frames := 0, cells := 0, slots := 0, locals := 0 } : Room) [.ref (mvA V 0), .int p1] M r M := by
  unfold fX12_moveBy at hf
  refine mw_enterI RX12 rfl (by decide +kernel) (Nat.le_of_ble_eq_true rfl) (fun {p e s m args below meth c} ls A Q hC hret hM hl => ?_)
  have hl : lv_has ls 2 [(0, .ref (mvA V 0)), (1, .int p1)] := hl
  refine lv_iload_n hC.1 hC.2.1 dX12_moveBy_0 rfl (lv_at hl 1 rfl) ?_
  refine lv_aload_n hC.1 hC.2.1 dX12_moveBy_1 rfl (lv_at hl 0 rfl) ?_
  refine mw_get (v := .ref (mvA V 1)) hC hM 0 (Nat.le_of_ble_eq_true rfl) (eR_0 V) inW12 rfl 0 (by decide) q_1146 (fun _ h9 => h9) rfl dX12_moveBy_2 ?_
  refine lv_iconst hC.1 hC.2.1 dX12_moveBy_5 ci_3 ?_
  obtain ⟨hg1, hf⟩ := o_g hf
  refine mw_iald hC hM 1 0 (Nat.le_of_ble_eq_true rfl) (eR_1 V) rfl hg1 dX12_moveBy_6 ?_
  refine lv_icmp_le (tgt := 14) hC.1 hC.2.1 dX12_moveBy_7 (by decide) (fun hc4 => ?_) (fun hc4 => ?_)
  · have hf := o_t hc4 hf
    refine lv_iload_n hC.1 hC.2.1 dX12_moveBy_14 rfl (lv_at hl 1 rfl) ?_
    refine lv_aload_n hC.1 hC.2.1 dX12_moveBy_15 rfl (lv_at hl 0 rfl) ?_
    refine mw_get (v := .ref (mvA V 1)) hC hM 0 (Nat.le_of_ble_eq_true rfl) (eR_0 V) inW12 rfl 0 (by decide) q_1146 (fun _ h9 => h9) rfl dX12_moveBy_16 ?_
    refine lv_iconst hC.1 hC.2.1 dX12_moveBy_19 ci_3 ?_
    obtain ⟨hg2, hf⟩ := o_g hf
    refine mw_iald hC hM 1 0 (Nat.le_of_ble_eq_true rfl) (eR_1 V) rfl hg2 dX12_moveBy_20 ?_
    refine lv_ineg hC.1 hC.2.1 dX12_moveBy_21 ?_
    refine lv_icmp_ge (tgt := 29) hC.1 hC.2.1 dX12_moveBy_22 (by decide) (fun hc3 => ?_) (fun hc3 => ?_)
    · have hf := o_t hc3 hf
      refine lv_iconst hC.1 hC.2.1 dX12_moveBy_29 ci_0 ?_
      exact hret (Option.some.inj hf) hM dX12_moveBy_30
    · have hf := o_f hc3 hf
      refine lv_iconst hC.1 hC.2.1 dX12_moveBy_25 ci_m1 ?_
      refine lv_goto (tgt := 30) hC.1 hC.2.1 dX12_moveBy_26 (by decide) ?_
      exact hret (Option.some.inj hf) hM dX12_moveBy_30
  · have hf := o_f hc4 hf
    refine lv_iconst hC.1 hC.2.1 dX12_moveBy_10 ci_1 ?_
    refine lv_goto (tgt := 30) hC.1 hC.2.1 dX12_moveBy_11 (by decide) ?_
    exact hret (Option.some.inj hf) hM dX12_moveBy_30
set_option maxHeartbeats 4000000 in
set_option maxRecDepth 100000 in
theorem mcX12_turns (V : mV) (l : Launch) (M : mM) (p1 : Int32) (r : Int32) (M' : mM) (hf : fX12_turns M p1 = some (r, M')) : UR V l yX12_turns cX12_turns 2 ({ frames := 1, cells := 0, slots := 0, locals := 20 } : Room) [.ref (mvA V 0), .int p1] M M' := by
  unfold fX12_turns at hf
  refine mw_enterV RX12 rfl (by decide +kernel) (Nat.le_of_ble_eq_true rfl) (fun {p e s m args below meth c} ls A Q hC hret hM hl => ?_)
  have hl : lv_has ls 2 [(0, .ref (mvA V 0)), (1, .int p1)] := hl
  refine lv_aload_n hC.1 hC.2.1 dX12_turns_0 rfl (lv_at hl 0 rfl) ?_
  refine mw_get (v := .ref (mvA V 1)) hC hM 0 (Nat.le_of_ble_eq_true rfl) (eR_0 V) inW12 rfl 0 (by decide) q_1146 (fun _ h9 => h9) rfl dX12_turns_1 ?_
  refine lv_iconst hC.1 hC.2.1 dX12_turns_4 ci_1 ?_
  refine lv_aload_n hC.1 hC.2.1 dX12_turns_5 rfl (lv_at hl 0 rfl) ?_
  refine mw_get (v := .ref (mvA V 1)) hC hM 0 (Nat.le_of_ble_eq_true rfl) (eR_0 V) inW12 rfl 0 (by decide) q_1146 (fun _ h9 => h9) rfl dX12_turns_6 ?_
  refine lv_iconst hC.1 hC.2.1 dX12_turns_9 ci_1 ?_
  obtain ⟨hg1, hf⟩ := o_g hf
  refine mw_iald hC hM 1 0 (Nat.le_of_ble_eq_true rfl) (eR_1 V) rfl hg1 dX12_turns_10 ?_
  refine lv_iload_n hC.1 hC.2.1 dX12_turns_11 rfl (lv_at hl 1 rfl) ?_
  refine lv_iadd hC.1 hC.2.1 dX12_turns_12 ?_
  refine mw_cSi (As := [.int ((M 1 (Int32.toNatClampNeg 1)) + p1)]) (rest := [.int 1, .ref (mvA V 1)]) hC hM (mcX12_around V l M ((M 1 (Int32.toNatClampNeg 1)) + p1) _ rfl) (mw_kS hC q_1290 q_1291 q_120 q_1292 ⟨rfl, rfl⟩ kS_X12_around ⟨Nat.le_of_ble_eq_true rfl, Nat.le_of_ble_eq_true rfl⟩) rfl rfl (Nat.le_of_ble_eq_true rfl) hl.1 dX12_turns_13 (fun H locs hM _ => ?_)
  obtain ⟨hg2, hf⟩ := o_g hf
  refine mw_iast hC hM 1 0 (Nat.le_of_ble_eq_true rfl) (eR_1 V) rfl hg2 dX12_turns_16 (fun H locs hM => ?_)
  exact hret (o_r2 hf hM) dX12_turns_17
set_option maxHeartbeats 4000000 in
set_option maxRecDepth 100000 in
theorem mcX12_noonBy (V : mV) (l : Launch) (M : mM) (p1 : Int32) (r : Int32) (M' : mM) (hf : fX12_noonBy M p1 = some (r, M')) : IR V l yX12_noonBy cX12_noonBy 3 ({ frames := 2, cells := 0, slots := 0, locals := 41 } : Room) [.ref (mvA V 0), .int p1] M r M' := by
  unfold fX12_noonBy at hf
  refine mw_enterI RX12 rfl (by decide +kernel) (Nat.le_of_ble_eq_true rfl) (fun {p e s m args below meth c} ls A Q hC hret hM hl => ?_)
  have hl : lv_has ls 3 [(0, .ref (mvA V 0)), (1, .int p1)] := hl
  refine lv_aload_n hC.1 hC.2.1 dX12_noonBy_0 rfl (lv_at hl 0 rfl) ?_
  refine lv_iload_n hC.1 hC.2.1 dX12_noonBy_1 rfl (lv_at hl 1 rfl) ?_
  obtain ⟨r1, hq2, hf⟩ := o_b hf
  refine mw_cVi (As := [.int p1]) (rest := []) hC hM (mcX12_moveBy V l M p1 r1 hq2) (mw_kV hC q_1472 q_1474 q_74 q_120 q_1475 ⟨rfl, rfl⟩ kV_X12_moveBy ⟨Nat.le_of_ble_eq_true rfl, Nat.le_of_ble_eq_true rfl⟩) (Nat.le_of_ble_eq_true rfl) (eR_0 V) rfl rfl rfl (Nat.le_of_ble_eq_true rfl) hl.1 dX12_noonBy_2 (fun H locs hM _ => ?_)
  refine lv_istore_n (lv' := [(2, .int r1), (0, .ref (mvA V 0)), (1, .int p1)]) hC.1 hC.2.1 dX12_noonBy_5 rfl hl (Nat.le_of_ble_eq_true rfl) rfl (fun ls hl => ?_)
  refine lv_aload_n hC.1 hC.2.1 dX12_noonBy_6 rfl (lv_at hl 1 rfl) ?_
  refine lv_iload_n hC.1 hC.2.1 dX12_noonBy_7 rfl (lv_at hl 0 rfl) ?_
  obtain ⟨r3, M5, hq4, hf⟩ := o_b2 hf
  refine mw_cVv (As := [.int r1]) (rest := []) hC hM (mcX12_turns V l M r1 r3 M5 hq4) (mw_kV hC q_1476 q_1478 q_75 q_120 q_1479 ⟨rfl, rfl⟩ kV_X12_turns ⟨Nat.le_of_ble_eq_true rfl, Nat.le_of_ble_eq_true rfl⟩) (Nat.le_of_ble_eq_true rfl) (eR_0 V) rfl rfl rfl (Nat.le_of_ble_eq_true rfl) hl.1 dX12_noonBy_8 (fun H locs hM => ?_)
  refine lv_aload_n hC.1 hC.2.1 dX12_noonBy_11 rfl (lv_at hl 1 rfl) ?_
  refine mw_get (v := .ref (mvA V 1)) hC hM 0 (Nat.le_of_ble_eq_true rfl) (eR_0 V) inW12 rfl 0 (by decide) q_1146 (fun _ h9 => h9) rfl dX12_noonBy_12 ?_
  refine lv_iconst hC.1 hC.2.1 dX12_noonBy_15 ci_4 ?_
  refine lv_aload_n hC.1 hC.2.1 dX12_noonBy_16 rfl (lv_at hl 1 rfl) ?_
  refine mw_get (v := .ref (mvA V 1)) hC hM 0 (Nat.le_of_ble_eq_true rfl) (eR_0 V) inW12 rfl 0 (by decide) q_1146 (fun _ h9 => h9) rfl dX12_noonBy_17 ?_
  refine lv_iconst hC.1 hC.2.1 dX12_noonBy_20 ci_4 ?_
  obtain ⟨hg6, hf⟩ := o_g hf
  refine mw_iald hC hM 1 0 (Nat.le_of_ble_eq_true rfl) (eR_1 V) rfl hg6 dX12_noonBy_21 ?_
  refine lv_iload_n hC.1 hC.2.1 dX12_noonBy_22 rfl (lv_at hl 0 rfl) ?_
  refine lv_iadd hC.1 hC.2.1 dX12_noonBy_23 ?_
  refine mw_cSi (As := [.int ((M5 1 (Int32.toNatClampNeg 4)) + r1)]) (rest := [.int 4, .ref (mvA V 1)]) hC hM (mcX12_around V l M5 ((M5 1 (Int32.toNatClampNeg 4)) + r1) _ rfl) (mw_kS hC q_1290 q_1291 q_120 q_1292 ⟨rfl, rfl⟩ kS_X12_around ⟨Nat.le_of_ble_eq_true rfl, Nat.le_of_ble_eq_true rfl⟩) rfl rfl (Nat.le_of_ble_eq_true rfl) hl.1 dX12_noonBy_24 (fun H locs hM _ => ?_)
  obtain ⟨hg7, hf⟩ := o_g hf
  refine mw_iast hC hM 1 0 (Nat.le_of_ble_eq_true rfl) (eR_1 V) rfl hg7 dX12_noonBy_27 (fun H locs hM => ?_)
  refine lv_aload_n hC.1 hC.2.1 dX12_noonBy_28 rfl (lv_at hl 1 rfl) ?_
  refine mw_get (v := .ref (mvA V 1)) hC hM 0 (Nat.le_of_ble_eq_true rfl) (eR_0 V) inW12 rfl 0 (by decide) q_1146 (fun _ h9 => h9) rfl dX12_noonBy_29 ?_
  refine lv_iconst hC.1 hC.2.1 dX12_noonBy_32 ci_2 ?_
  refine lv_dup2_11 hC.1 hC.2.1 dX12_noonBy_33 rfl rfl ?_
  obtain ⟨hg8, hf⟩ := o_g hf
  refine mw_iald hC hM 1 0 (Nat.le_of_ble_eq_true rfl) (eR_1 V) rfl hg8 dX12_noonBy_34 ?_
  refine lv_iconst hC.1 hC.2.1 dX12_noonBy_35 ci_1 ?_
  refine lv_iadd hC.1 hC.2.1 dX12_noonBy_36 ?_
  obtain ⟨hg9, hf⟩ := o_g hf
  refine mw_iast hC hM 1 0 (Nat.le_of_ble_eq_true rfl) (eR_1 V) rfl hg9 dX12_noonBy_37 (fun H locs hM => ?_)
  refine lv_aload_n hC.1 hC.2.1 dX12_noonBy_38 rfl (lv_at hl 1 rfl) ?_
  refine mw_get (v := .ref (mvA V 1)) hC hM 0 (Nat.le_of_ble_eq_true rfl) (eR_0 V) inW12 rfl 0 (by decide) q_1146 (fun _ h9 => h9) rfl dX12_noonBy_39 ?_
  refine lv_iconst hC.1 hC.2.1 dX12_noonBy_42 ci_1 ?_
  obtain ⟨hg10, hf⟩ := o_g hf
  refine mw_iald hC hM 1 0 (Nat.le_of_ble_eq_true rfl) (eR_1 V) rfl hg10 dX12_noonBy_43 ?_
  exact hret (o_r1 hf) (o_r2 hf hM) dX12_noonBy_44
set_option maxHeartbeats 4000000 in
set_option maxRecDepth 100000 in
theorem mcX12_noon (V : mV) (l : Launch) (M : mM) (r : Int32) (M' : mM) (hf : fX12_noon M = some (r, M')) : IR V l yX12_noon cX12_noon 1 ({ frames := 7, cells := 0, slots := 0, locals := 161 } : Room) [.ref (mvA V 0)] M r M' := by
  unfold fX12_noon at hf
  refine mw_enterI RX12 rfl (by decide +kernel) (Nat.le_of_ble_eq_true rfl) (fun {p e s m args below meth c} ls A Q hC hret hM hl => ?_)
  have hl : lv_has ls 1 [(0, .ref (mvA V 0))] := hl
  refine lv_aload_n hC.1 hC.2.1 dX12_noon_0 rfl (lv_at hl 0 rfl) ?_
  refine mw_get (v := .ref (mvA V 1)) hC hM 0 (Nat.le_of_ble_eq_true rfl) (eR_0 V) inW12 rfl 0 (by decide) q_1146 (fun _ h9 => h9) rfl dX12_noon_1 ?_
  refine lv_iconst hC.1 hC.2.1 dX12_noon_4 ci_2 ?_
  obtain ⟨hg1, hf⟩ := o_g hf
  refine mw_iald hC hM 1 0 (Nat.le_of_ble_eq_true rfl) (eR_1 V) rfl hg1 dX12_noon_5 ?_
  refine lv_sipush hC.1 hC.2.1 dX12_noon_6 cs_9999 ?_
  refine lv_icmp_ne (tgt := 17) hC.1 hC.2.1 dX12_noon_9 (by decide) (fun hc8 => ?_) (fun hc8 => ?_)
  · have hf := o_f hc8 hf
    refine lv_aload_n hC.1 hC.2.1 dX12_noon_17 rfl (lv_at hl 0 rfl) ?_
    refine lv_aload_n hC.1 hC.2.1 dX12_noon_18 rfl (lv_at hl 0 rfl) ?_
    obtain ⟨r2, M4, hq3, hf⟩ := o_b2 hf
    refine mw_cVi (As := []) (rest := [.ref (mvA V 0)]) hC hM (mcX12_sumNow V l M r2 M4 hq3) (mw_kV hC q_1460 q_1462 q_72 q_120 q_1463 ⟨rfl, rfl⟩ kV_X12_sumNow ⟨Nat.le_of_ble_eq_true rfl, Nat.le_of_ble_eq_true rfl⟩) (Nat.le_of_ble_eq_true rfl) (eR_0 V) rfl rfl rfl (Nat.le_of_ble_eq_true rfl) hl.1 dX12_noon_19 (fun H locs hM _ => ?_)
    obtain ⟨r5, M7, hq6, hf⟩ := o_b2 hf
    refine mw_cVi (As := [.int r2]) (rest := []) hC hM (mcX12_noonBy V l M4 r2 r5 M7 hq6) (mw_kV hC q_1468 q_1470 q_73 q_120 q_1471 ⟨rfl, rfl⟩ kV_X12_noonBy ⟨Nat.le_of_ble_eq_true rfl, Nat.le_of_ble_eq_true rfl⟩) (Nat.le_of_ble_eq_true rfl) (eR_0 V) rfl rfl rfl (Nat.le_of_ble_eq_true rfl) hl.1 dX12_noon_22 (fun H locs hM _ => ?_)
    exact hret (o_r1 hf) (o_r2 hf hM) dX12_noon_25
  · have hf := o_t hc8 hf
    refine lv_bipush hC.1 hC.2.1 dX12_noon_12 cb_m4 ?_
    refine lv_goto (tgt := 25) hC.1 hC.2.1 dX12_noon_14 (by decide) ?_
    exact hret (o_r1 hf) (o_r2 hf hM) dX12_noon_25
set_option maxHeartbeats 4000000 in
set_option maxRecDepth 100000 in
theorem mcX12_thinks (V : mV) (l : Launch) (M : mM) (r : Int32) (M' : mM) (hf : fX12_thinks M = some (r, M')) : UR V l yX12_thinks cX12_thinks 1 ({ frames := 0, cells := 0, slots := 0, locals := 0 } : Room) [.ref (mvA V 0)] M M' := by
  unfold fX12_thinks at hf
  refine mw_enterV RX12 rfl (by decide +kernel) (Nat.le_of_ble_eq_true rfl) (fun {p e s m args below meth c} ls A Q hC hret hM hl => ?_)
  have hl : lv_has ls 1 [(0, .ref (mvA V 0))] := hl
  refine lv_aload_n hC.1 hC.2.1 dX12_thinks_0 rfl (lv_at hl 0 rfl) ?_
  refine lv_aload_n hC.1 hC.2.1 dX12_thinks_1 rfl (lv_at hl 0 rfl) ?_
  refine mw_get (v := .ref (mvA V 1)) hC hM 0 (Nat.le_of_ble_eq_true rfl) (eR_0 V) inW12 rfl 0 (by decide) q_1146 (fun _ h9 => h9) rfl dX12_thinks_2 ?_
  refine lv_iconst hC.1 hC.2.1 dX12_thinks_5 ci_1 ?_
  obtain ⟨hg1, hf⟩ := o_g hf
  refine mw_iald hC hM 1 0 (Nat.le_of_ble_eq_true rfl) (eR_1 V) rfl hg1 dX12_thinks_6 ?_
  refine mw_put hC hM 0 (Nat.le_of_ble_eq_true rfl) (eR_0 V) inW12 tyX12 tyX12_ok nmX12 rfl 12 (by decide) q_1158 (fun _ h9 => h9) rfl rfl rfl (Nat.le_of_ble_eq_true rfl) rfl dX12_thinks_7 (fun H locs hM => ?_)
  exact hret (o_r2 hf hM) dX12_thinks_10
set_option maxHeartbeats 4000000 in
set_option maxRecDepth 100000 in
theorem mcX12_laysBack (V : mV) (l : Launch) (M : mM) (r : Int32) (M' : mM) (hf : fX12_laysBack M = some (r, M')) : UR V l yX12_laysBack cX12_laysBack 1 ({ frames := 0, cells := 0, slots := 0, locals := 0 } : Room) [.ref (mvA V 0)] M M' := by
  unfold fX12_laysBack at hf
  refine mw_enterV RX12 rfl (by decide +kernel) (Nat.le_of_ble_eq_true rfl) (fun {p e s m args below meth c} ls A Q hC hret hM hl => ?_)
  have hl : lv_has ls 1 [(0, .ref (mvA V 0))] := hl
  refine lv_aload_n hC.1 hC.2.1 dX12_laysBack_0 rfl (lv_at hl 0 rfl) ?_
  refine mw_get (v := .ref (mvA V 1)) hC hM 0 (Nat.le_of_ble_eq_true rfl) (eR_0 V) inW12 rfl 0 (by decide) q_1146 (fun _ h9 => h9) rfl dX12_laysBack_1 ?_
  refine lv_iconst hC.1 hC.2.1 dX12_laysBack_4 ci_1 ?_
  refine lv_aload_n hC.1 hC.2.1 dX12_laysBack_5 rfl (lv_at hl 0 rfl) ?_
  refine mw_get (v := .int (M 0 12)) hC hM 0 (Nat.le_of_ble_eq_true rfl) (eR_0 V) inW12 rfl 12 (by decide) q_1158 (fun _ h9 => h9) rfl dX12_laysBack_6 ?_
  obtain ⟨hg1, hf⟩ := o_g hf
  refine mw_iast hC hM 1 0 (Nat.le_of_ble_eq_true rfl) (eR_1 V) rfl hg1 dX12_laysBack_9 (fun H locs hM => ?_)
  exact hret (o_r2 hf hM) dX12_laysBack_10
set_option maxHeartbeats 4000000 in
set_option maxRecDepth 100000 in
theorem mcX12_on (V : mV) (l : Launch) (M : mM) (p1 : Int32) (r : Int32) (M' : mM) (hf : fX12_on M p1 = some (r, M')) : IR V l yX12_on cX12_on 3 ({ frames := 7, cells := 0, slots := 0, locals := 161 } : Room) [.ref (mvA V 0), .int p1] M r M' := by
  unfold fX12_on at hf
  refine mw_enterI RX12 rfl (by decide +kernel) (Nat.le_of_ble_eq_true rfl) (fun {p e s m args below meth c} ls A Q hC hret hM hl => ?_)
  have hl : lv_has ls 3 [(0, .ref (mvA V 0)), (1, .int p1)] := hl
  have hL20 : ∀ (n : Nat) (M : mM) (x1 : Int32) (x2 : Int32) (H : Heap) (locs : List Loc) (ls : Array Slot), fX12_on_L20 n M x1 x2 = some (r, M') → PR V M A s H locs → lv_has ls 3 [(0, .ref (mvA V 0)), (1, .int x1), (2, .int x2)] → W p l e ({ frames := 7, cells := 0, slots := 0, locals := 161 } : Room) s m args below meth c H locs 0 0 Q (F0 m 20 ls []) := by
    intro n12
    induction n12 with
    | zero => intro M x1 x2 H locs ls hf; cases hf
    | succ n12 ih12 =>
      intro M x1 x2 H locs ls hf hM hl
      have hf : fX12_on_L20_b (fX12_on_L20 n12) M x1 x2 = some (r, M') := hf
      unfold fX12_on_L20_b at hf
      refine lv_iload_n hC.1 hC.2.1 dX12_on_20 rfl (lv_at hl 2 rfl) ?_
      refine lv_iload_n hC.1 hC.2.1 dX12_on_21 rfl (lv_at hl 1 rfl) ?_
      refine lv_icmp_ge (tgt := 43) hC.1 hC.2.1 dX12_on_22 (by decide) (fun hc18 => ?_) (fun hc18 => ?_)
      · have hf := o_t hc18 hf
        refine lv_aload_n hC.1 hC.2.1 dX12_on_43 rfl (lv_at hl 0 rfl) ?_
        refine mw_get (v := .ref (mvA V 1)) hC hM 0 (Nat.le_of_ble_eq_true rfl) (eR_0 V) inW12 rfl 0 (by decide) q_1146 (fun _ h9 => h9) rfl dX12_on_44 ?_
        refine lv_iconst hC.1 hC.2.1 dX12_on_47 ci_1 ?_
        obtain ⟨hg6, hf⟩ := o_g hf
        refine mw_iald hC hM 1 0 (Nat.le_of_ble_eq_true rfl) (eR_1 V) rfl hg6 dX12_on_48 ?_
        refine lv_istore_n (lv' := [(2, .int (M 1 (Int32.toNatClampNeg 1))), (0, .ref (mvA V 0)), (1, .int x1)]) hC.1 hC.2.1 dX12_on_49 rfl hl (Nat.le_of_ble_eq_true rfl) rfl (fun ls hl => ?_)
        refine lv_aload_n hC.1 hC.2.1 dX12_on_50 rfl (lv_at hl 1 rfl) ?_
        obtain ⟨r7, M9, hq8, hf⟩ := o_b2 hf
        refine mw_cVv (As := []) (rest := []) hC hM (mcX12_laysBack V l M r7 M9 hq8) (mw_kV hC q_1489 q_1491 q_77 q_120 q_1492 ⟨rfl, rfl⟩ kV_X12_laysBack ⟨Nat.le_of_ble_eq_true rfl, Nat.le_of_ble_eq_true rfl⟩) (Nat.le_of_ble_eq_true rfl) (eR_0 V) rfl rfl rfl (Nat.le_of_ble_eq_true rfl) hl.1 dX12_on_51 (fun H locs hM => ?_)
        refine lv_iload_n hC.1 hC.2.1 dX12_on_54 rfl (lv_at hl 0 rfl) ?_
        exact hret (o_r1 hf) (o_r2 hf hM) dX12_on_55
      · have hf := o_f hc18 hf
        refine lv_aload_n hC.1 hC.2.1 dX12_on_25 rfl (lv_at hl 0 rfl) ?_
        refine lv_aload_n hC.1 hC.2.1 dX12_on_26 rfl (lv_at hl 0 rfl) ?_
        refine lv_aload_n hC.1 hC.2.1 dX12_on_27 rfl (lv_at hl 0 rfl) ?_
        obtain ⟨r10, M12, hq11, hf⟩ := o_b2 hf
        refine mw_cVi (As := []) (rest := [.ref (mvA V 0), .ref (mvA V 0)]) hC hM (mcX12_sumNow V l M r10 M12 hq11) (mw_kV hC q_1460 q_1462 q_72 q_120 q_1463 ⟨rfl, rfl⟩ kV_X12_sumNow ⟨Nat.le_of_ble_eq_true rfl, Nat.le_of_ble_eq_true rfl⟩) (Nat.le_of_ble_eq_true rfl) (eR_0 V) rfl rfl rfl (Nat.le_of_ble_eq_true rfl) hl.1 dX12_on_28 (fun H locs hM _ => ?_)
        obtain ⟨r13, hq14, hf⟩ := o_b hf
        refine mw_cVi (As := [.int r10]) (rest := [.ref (mvA V 0)]) hC hM (mcX12_moveBy V l M12 r10 r13 hq14) (mw_kV hC q_1472 q_1474 q_74 q_120 q_1475 ⟨rfl, rfl⟩ kV_X12_moveBy ⟨Nat.le_of_ble_eq_true rfl, Nat.le_of_ble_eq_true rfl⟩) (Nat.le_of_ble_eq_true rfl) (eR_0 V) rfl rfl rfl (Nat.le_of_ble_eq_true rfl) hl.1 dX12_on_31 (fun H locs hM _ => ?_)
        obtain ⟨r15, M17, hq16, hf⟩ := o_b2 hf
        refine mw_cVv (As := [.int r13]) (rest := []) hC hM (mcX12_turns V l M12 r13 r15 M17 hq16) (mw_kV hC q_1476 q_1478 q_75 q_120 q_1479 ⟨rfl, rfl⟩ kV_X12_turns ⟨Nat.le_of_ble_eq_true rfl, Nat.le_of_ble_eq_true rfl⟩) (Nat.le_of_ble_eq_true rfl) (eR_0 V) rfl rfl rfl (Nat.le_of_ble_eq_true rfl) hl.1 dX12_on_34 (fun H locs hM => ?_)
        refine lv_iinc (k := 2) (lv' := [(2, .int (x2 + 1)), (0, .ref (mvA V 0)), (1, .int x1)]) hC.1 hC.2.1 dX12_on_37 hl rfl (inc_1 _) (Nat.le_of_ble_eq_true rfl) rfl (fun ls hl => ?_)
        refine lv_goto (tgt := 20) hC.1 hC.2.1 dX12_on_40 (by decide) ?_
        exact ih12 _ _ _ _ _ _ hf hM (lv_sub hl [1, 2, 0] rfl)
  refine lv_iload_n hC.1 hC.2.1 dX12_on_0 rfl (lv_at hl 1 rfl) ?_
  refine lv_i2l (v := (Int32.toInt64 p1)) hC.1 hC.2.1 dX12_on_1 rfl ?_
  refine lv_lconst (v := 0) hC.1 hC.2.1 dX12_on_2 rfl ?_
  refine lv_ldc2 hC.1 hC.2.1 hC.2.2.2.1 (mw_w hC q_1484) dX12_on_3 ?_
  refine mw_cSi (As := [.long (Int32.toInt64 p1), .long 0, .long 60]) (rest := []) hC hM (mcX12_in V l M (Int32.toInt64 p1) 0 60 _ rfl) (mw_kS hC q_1257 q_1258 q_120 q_1259 ⟨rfl, rfl⟩ kS_X12_in ⟨Nat.le_of_ble_eq_true rfl, Nat.le_of_ble_eq_true rfl⟩) rfl rfl (Nat.le_of_ble_eq_true rfl) hl.1 dX12_on_6 (fun H locs hM hb1 => ?_)
  refine lv_if_ne (tgt := 14) hC.1 hC.2.1 dX12_on_9 (by decide) (fun hc5 => ?_) (fun hc5 => ?_)
  · have hf := o_f hc5 hf
    refine lv_aload_n hC.1 hC.2.1 dX12_on_14 rfl (lv_at hl 0 rfl) ?_
    obtain ⟨r2, M4, hq3, hf⟩ := o_b2 hf
    refine mw_cVv (As := []) (rest := []) hC hM (mcX12_thinks V l M r2 M4 hq3) (mw_kV hC q_1485 q_1487 q_76 q_120 q_1488 ⟨rfl, rfl⟩ kV_X12_thinks ⟨Nat.le_of_ble_eq_true rfl, Nat.le_of_ble_eq_true rfl⟩) (Nat.le_of_ble_eq_true rfl) (eR_0 V) rfl rfl rfl (Nat.le_of_ble_eq_true rfl) hl.1 dX12_on_15 (fun H locs hM => ?_)
    refine lv_iconst hC.1 hC.2.1 dX12_on_18 ci_0 ?_
    refine lv_istore_n (lv' := [(2, .int 0), (0, .ref (mvA V 0)), (1, .int p1)]) hC.1 hC.2.1 dX12_on_19 rfl hl (Nat.le_of_ble_eq_true rfl) rfl (fun ls hl => ?_)
    exact hL20 _ _ _ _ _ _ _ hf hM (lv_sub hl [1, 2, 0] rfl)
  · have hf := o_t hc5 hf
    refine lv_iconst hC.1 hC.2.1 dX12_on_12 ci_m1 ?_
    exact hret (o_r1 hf) (o_r2 hf hM) dX12_on_13
set_option maxHeartbeats 4000000 in
set_option maxRecDepth 100000 in
theorem mcX12_when (V : mV) (l : Launch) (M : mM) (p1 : Int32) (r : Int32) (M' : mM) (hf : fX12_when M p1 = some (r, M')) : IR V l yX12_when cX12_when 3 ({ frames := 7, cells := 0, slots := 0, locals := 161 } : Room) [.ref (mvA V 0), .int p1] M r M' := by
  unfold fX12_when at hf
  refine mw_enterI RX12 rfl (by decide +kernel) (Nat.le_of_ble_eq_true rfl) (fun {p e s m args below meth c} ls A Q hC hret hM hl => ?_)
  have hl : lv_has ls 3 [(0, .ref (mvA V 0)), (1, .int p1)] := hl
  have hL49 : ∀ (M : mM) (x2 : Int32) (H : Heap) (locs : List Loc) (ls : Array Slot), fX12_when_L49 M x2 = some (r, M') → PR V M A s H locs → lv_has ls 3 [(0, .ref (mvA V 0)), (2, .int x2)] → W p l e ({ frames := 7, cells := 0, slots := 0, locals := 161 } : Room) s m args below meth c H locs 0 0 Q (F0 m 49 ls []) := by
    intro M x2 H locs ls hf hM hl
    unfold fX12_when_L49 at hf
    refine lv_aload_n hC.1 hC.2.1 dX12_when_49 rfl (lv_at hl 0 rfl) ?_
    obtain ⟨r17, M19, hq18, hf⟩ := o_b2 hf
    refine mw_cVv (As := []) (rest := []) hC hM (mcX12_laysBack V l M r17 M19 hq18) (mw_kV hC q_1489 q_1491 q_77 q_120 q_1492 ⟨rfl, rfl⟩ kV_X12_laysBack ⟨Nat.le_of_ble_eq_true rfl, Nat.le_of_ble_eq_true rfl⟩) (Nat.le_of_ble_eq_true rfl) (eR_0 V) rfl rfl rfl (Nat.le_of_ble_eq_true rfl) hl.1 dX12_when_50 (fun H locs hM => ?_)
    refine lv_iload_n hC.1 hC.2.1 dX12_when_53 rfl (lv_at hl 1 rfl) ?_
    refine lv_bipush hC.1 hC.2.1 dX12_when_54 cb_60 ?_
    refine lv_icmp_gt (tgt := 63) hC.1 hC.2.1 dX12_when_56 (by decide) (fun hc20 => ?_) (fun hc20 => ?_)
    · have hf := o_t hc20 hf
      refine lv_bipush hC.1 hC.2.1 dX12_when_63 cb_m3 ?_
      exact hret (o_r1 hf) (o_r2 hf hM) dX12_when_65
    · have hf := o_f hc20 hf
      refine lv_iload_n hC.1 hC.2.1 dX12_when_59 rfl (lv_at hl 1 rfl) ?_
      refine lv_goto (tgt := 65) hC.1 hC.2.1 dX12_when_60 (by decide) ?_
      exact hret (o_r1 hf) (o_r2 hf hM) dX12_when_65
  have hL15 : ∀ (n : Nat) (M : mM) (x1 : Int32) (x2 : Int32) (H : Heap) (locs : List Loc) (ls : Array Slot), fX12_when_L15 n M x1 x2 = some (r, M') → PR V M A s H locs → lv_has ls 3 [(0, .ref (mvA V 0)), (1, .int x1), (2, .int x2)] → W p l e ({ frames := 7, cells := 0, slots := 0, locals := 161 } : Room) s m args below meth c H locs 0 0 Q (F0 m 15 ls []) := by
    intro n9
    induction n9 with
    | zero => intro M x1 x2 H locs ls hf; cases hf
    | succ n9 ih9 =>
      intro M x1 x2 H locs ls hf hM hl
      have hf : fX12_when_L15_b (fX12_when_L15 n9) M x1 x2 = some (r, M') := hf
      unfold fX12_when_L15_b at hf
      refine lv_iload_n hC.1 hC.2.1 dX12_when_15 rfl (lv_at hl 2 rfl) ?_
      refine lv_bipush hC.1 hC.2.1 dX12_when_16 cb_60 ?_
      refine lv_icmp_gt (tgt := 49) hC.1 hC.2.1 dX12_when_18 (by decide) (fun hc16 => ?_) (fun hc16 => ?_)
      · have hf := o_t hc16 hf
        exact hL49 _ _ _ _ _ hf hM (lv_sub hl [0, 2] rfl)
      · have hf := o_f hc16 hf
        refine lv_aload_n hC.1 hC.2.1 dX12_when_21 rfl (lv_at hl 0 rfl) ?_
        refine mw_get (v := .ref (mvA V 1)) hC hM 0 (Nat.le_of_ble_eq_true rfl) (eR_0 V) inW12 rfl 0 (by decide) q_1146 (fun _ h9 => h9) rfl dX12_when_22 ?_
        refine lv_iconst hC.1 hC.2.1 dX12_when_25 ci_1 ?_
        obtain ⟨hg6, hf⟩ := o_g hf
        refine mw_iald hC hM 1 0 (Nat.le_of_ble_eq_true rfl) (eR_1 V) rfl hg6 dX12_when_26 ?_
        refine lv_iload_n hC.1 hC.2.1 dX12_when_27 rfl (lv_at hl 1 rfl) ?_
        refine lv_icmp_eq (tgt := 49) hC.1 hC.2.1 dX12_when_28 (by decide) (fun hc15 => ?_) (fun hc15 => ?_)
        · have hf := o_t hc15 hf
          exact hL49 _ _ _ _ _ hf hM (lv_sub hl [0, 2] rfl)
        · have hf := o_f hc15 hf
          refine lv_aload_n hC.1 hC.2.1 dX12_when_31 rfl (lv_at hl 0 rfl) ?_
          refine lv_aload_n hC.1 hC.2.1 dX12_when_32 rfl (lv_at hl 0 rfl) ?_
          refine lv_aload_n hC.1 hC.2.1 dX12_when_33 rfl (lv_at hl 0 rfl) ?_
          obtain ⟨r7, M9, hq8, hf⟩ := o_b2 hf
          refine mw_cVi (As := []) (rest := [.ref (mvA V 0), .ref (mvA V 0)]) hC hM (mcX12_sumNow V l M r7 M9 hq8) (mw_kV hC q_1460 q_1462 q_72 q_120 q_1463 ⟨rfl, rfl⟩ kV_X12_sumNow ⟨Nat.le_of_ble_eq_true rfl, Nat.le_of_ble_eq_true rfl⟩) (Nat.le_of_ble_eq_true rfl) (eR_0 V) rfl rfl rfl (Nat.le_of_ble_eq_true rfl) hl.1 dX12_when_34 (fun H locs hM _ => ?_)
          obtain ⟨r10, hq11, hf⟩ := o_b hf
          refine mw_cVi (As := [.int r7]) (rest := [.ref (mvA V 0)]) hC hM (mcX12_moveBy V l M9 r7 r10 hq11) (mw_kV hC q_1472 q_1474 q_74 q_120 q_1475 ⟨rfl, rfl⟩ kV_X12_moveBy ⟨Nat.le_of_ble_eq_true rfl, Nat.le_of_ble_eq_true rfl⟩) (Nat.le_of_ble_eq_true rfl) (eR_0 V) rfl rfl rfl (Nat.le_of_ble_eq_true rfl) hl.1 dX12_when_37 (fun H locs hM _ => ?_)
          obtain ⟨r12, M14, hq13, hf⟩ := o_b2 hf
          refine mw_cVv (As := [.int r10]) (rest := []) hC hM (mcX12_turns V l M9 r10 r12 M14 hq13) (mw_kV hC q_1476 q_1478 q_75 q_120 q_1479 ⟨rfl, rfl⟩ kV_X12_turns ⟨Nat.le_of_ble_eq_true rfl, Nat.le_of_ble_eq_true rfl⟩) (Nat.le_of_ble_eq_true rfl) (eR_0 V) rfl rfl rfl (Nat.le_of_ble_eq_true rfl) hl.1 dX12_when_40 (fun H locs hM => ?_)
          refine lv_iinc (k := 2) (lv' := [(2, .int (x2 + 1)), (0, .ref (mvA V 0)), (1, .int x1)]) hC.1 hC.2.1 dX12_when_43 hl rfl (inc_1 _) (Nat.le_of_ble_eq_true rfl) rfl (fun ls hl => ?_)
          refine lv_goto (tgt := 15) hC.1 hC.2.1 dX12_when_46 (by decide) ?_
          exact ih9 _ _ _ _ _ _ hf hM (lv_sub hl [1, 2, 0] rfl)
  refine lv_iload_n hC.1 hC.2.1 dX12_when_0 rfl (lv_at hl 1 rfl) ?_
  refine mw_cSi (As := [.int p1]) (rest := []) hC hM (mcX12_isHour V l M p1 _ rfl) (mw_kS hC q_1263 q_1264 q_120 q_1265 ⟨rfl, rfl⟩ kS_X12_isHour ⟨Nat.le_of_ble_eq_true rfl, Nat.le_of_ble_eq_true rfl⟩) rfl rfl (Nat.le_of_ble_eq_true rfl) hl.1 dX12_when_1 (fun H locs hM hb1 => ?_)
  refine lv_if_ne (tgt := 9) hC.1 hC.2.1 dX12_when_4 (by decide) (fun hc5 => ?_) (fun hc5 => ?_)
  · have hf := o_f hc5 hf
    refine lv_aload_n hC.1 hC.2.1 dX12_when_9 rfl (lv_at hl 0 rfl) ?_
    obtain ⟨r2, M4, hq3, hf⟩ := o_b2 hf
    refine mw_cVv (As := []) (rest := []) hC hM (mcX12_thinks V l M r2 M4 hq3) (mw_kV hC q_1485 q_1487 q_76 q_120 q_1488 ⟨rfl, rfl⟩ kV_X12_thinks ⟨Nat.le_of_ble_eq_true rfl, Nat.le_of_ble_eq_true rfl⟩) (Nat.le_of_ble_eq_true rfl) (eR_0 V) rfl rfl rfl (Nat.le_of_ble_eq_true rfl) hl.1 dX12_when_10 (fun H locs hM => ?_)
    refine lv_iconst hC.1 hC.2.1 dX12_when_13 ci_0 ?_
    refine lv_istore_n (lv' := [(2, .int 0), (0, .ref (mvA V 0)), (1, .int p1)]) hC.1 hC.2.1 dX12_when_14 rfl hl (Nat.le_of_ble_eq_true rfl) rfl (fun ls hl => ?_)
    exact hL15 _ _ _ _ _ _ _ hf hM (lv_sub hl [1, 2, 0] rfl)
  · have hf := o_t hc5 hf
    refine lv_iconst hC.1 hC.2.1 dX12_when_7 ci_m1 ?_
    exact hret (o_r1 hf) (o_r2 hf hM) dX12_when_8
set_option maxHeartbeats 4000000 in
set_option maxRecDepth 100000 in
theorem mcX12_cycle (V : mV) (l : Launch) (M : mM) (p1 : Int32) (r : Int32) (M' : mM) (hf : fX12_cycle M p1 = some (r, M')) : IR V l yX12_cycle cX12_cycle 4 ({ frames := 7, cells := 0, slots := 0, locals := 161 } : Room) [.ref (mvA V 0), .int p1] M r M' := by
  unfold fX12_cycle at hf
  refine mw_enterI RX12 rfl (by decide +kernel) (Nat.le_of_ble_eq_true rfl) (fun {p e s m args below meth c} ls A Q hC hret hM hl => ?_)
  have hl : lv_has ls 4 [(0, .ref (mvA V 0)), (1, .int p1)] := hl
  have hL39 : ∀ (n : Nat) (M : mM) (x1 : Int32) (x2 : Int32) (H : Heap) (locs : List Loc) (ls : Array Slot), fX12_cycle_L39 n M x1 x2 = some (r, M') → PR V M A s H locs → lv_has ls 4 [(0, .ref (mvA V 0)), (1, .int x1), (2, .int x2)] → W p l e ({ frames := 7, cells := 0, slots := 0, locals := 161 } : Room) s m args below meth c H locs 0 0 Q (F0 m 39 ls []) := by
    intro n24
    induction n24 with
    | zero => intro M x1 x2 H locs ls hf; cases hf
    | succ n24 ih24 =>
      intro M x1 x2 H locs ls hf hM hl
      have hf : fX12_cycle_L39_b (fX12_cycle_L39 n24) M x1 x2 = some (r, M') := hf
      unfold fX12_cycle_L39_b at hf
      refine lv_aload_n hC.1 hC.2.1 dX12_cycle_39 rfl (lv_at hl 0 rfl) ?_
      refine mw_get (v := .ref (mvA V 6)) hC hM 0 (Nat.le_of_ble_eq_true rfl) (eR_0 V) inW12 rfl 13 (by decide) q_1159 (fun _ h9 => h9) rfl dX12_cycle_40 ?_
      refine lv_aload_n hC.1 hC.2.1 dX12_cycle_43 rfl (lv_at hl 0 rfl) ?_
      refine mw_get (v := .ref (mvA V 1)) hC hM 0 (Nat.le_of_ble_eq_true rfl) (eR_0 V) inW12 rfl 0 (by decide) q_1146 (fun _ h9 => h9) rfl dX12_cycle_44 ?_
      refine lv_iconst hC.1 hC.2.1 dX12_cycle_47 ci_1 ?_
      obtain ⟨hg8, hf⟩ := o_g hf
      refine mw_iald hC hM 1 0 (Nat.le_of_ble_eq_true rfl) (eR_1 V) rfl hg8 dX12_cycle_48 ?_
      obtain ⟨hg9, hf⟩ := o_g hf
      refine mw_iald hC hM 6 0 (Nat.le_of_ble_eq_true rfl) (eR_6 V) rfl hg9 dX12_cycle_49 ?_
      refine lv_if_ge (tgt := 83) hC.1 hC.2.1 dX12_cycle_50 (by decide) (fun hc26 => ?_) (fun hc26 => ?_)
      · have hf := o_t hc26 hf
        refine lv_aload_n hC.1 hC.2.1 dX12_cycle_83 rfl (lv_at hl 0 rfl) ?_
        refine mw_get (v := .ref (mvA V 6)) hC hM 0 (Nat.le_of_ble_eq_true rfl) (eR_0 V) inW12 rfl 13 (by decide) q_1159 (fun _ h9 => h9) rfl dX12_cycle_84 ?_
        refine lv_aload_n hC.1 hC.2.1 dX12_cycle_87 rfl (lv_at hl 0 rfl) ?_
        refine mw_get (v := .ref (mvA V 1)) hC hM 0 (Nat.le_of_ble_eq_true rfl) (eR_0 V) inW12 rfl 0 (by decide) q_1146 (fun _ h9 => h9) rfl dX12_cycle_88 ?_
        refine lv_iconst hC.1 hC.2.1 dX12_cycle_91 ci_1 ?_
        obtain ⟨hg10, hf⟩ := o_g hf
        refine mw_iald hC hM 1 0 (Nat.le_of_ble_eq_true rfl) (eR_1 V) rfl hg10 dX12_cycle_92 ?_
        obtain ⟨hg11, hf⟩ := o_g hf
        refine mw_iald hC hM 6 0 (Nat.le_of_ble_eq_true rfl) (eR_6 V) rfl hg11 dX12_cycle_93 ?_
        refine lv_istore_n (lv' := [(3, .int (M 6 (Int32.toNatClampNeg (M 1 (Int32.toNatClampNeg 1))))), (0, .ref (mvA V 0)), (1, .int x1), (2, .int x2)]) hC.1 hC.2.1 dX12_cycle_94 rfl hl (Nat.le_of_ble_eq_true rfl) rfl (fun ls hl => ?_)
        refine lv_aload_n hC.1 hC.2.1 dX12_cycle_95 rfl (lv_at hl 1 rfl) ?_
        obtain ⟨r12, M14, hq13, hf⟩ := o_b2 hf
        refine mw_cVv (As := []) (rest := []) hC hM (mcX12_laysBack V l M r12 M14 hq13) (mw_kV hC q_1489 q_1491 q_77 q_120 q_1492 ⟨rfl, rfl⟩ kV_X12_laysBack ⟨Nat.le_of_ble_eq_true rfl, Nat.le_of_ble_eq_true rfl⟩) (Nat.le_of_ble_eq_true rfl) (eR_0 V) rfl rfl rfl (Nat.le_of_ble_eq_true rfl) hl.1 dX12_cycle_96 (fun H locs hM => ?_)
        refine lv_iload_n hC.1 hC.2.1 dX12_cycle_99 rfl (lv_at hl 2 rfl) ?_
        refine lv_if_ne (tgt := 107) hC.1 hC.2.1 dX12_cycle_100 (by decide) (fun hc15 => ?_) (fun hc15 => ?_)
        · have hf := o_f hc15 hf
          refine lv_iload_n hC.1 hC.2.1 dX12_cycle_107 rfl (lv_at hl 3 rfl) ?_
          refine lv_iload_n hC.1 hC.2.1 dX12_cycle_108 rfl (lv_at hl 0 rfl) ?_
          refine lv_isub hC.1 hC.2.1 dX12_cycle_109 ?_
          exact hret (o_r1 hf) (o_r2 hf hM) dX12_cycle_110
        · have hf := o_t hc15 hf
          refine lv_iload_n hC.1 hC.2.1 dX12_cycle_103 rfl (lv_at hl 0 rfl) ?_
          refine lv_goto (tgt := 110) hC.1 hC.2.1 dX12_cycle_104 (by decide) ?_
          exact hret (o_r1 hf) (o_r2 hf hM) dX12_cycle_110
      · have hf := o_f hc26 hf
        refine lv_aload_n hC.1 hC.2.1 dX12_cycle_53 rfl (lv_at hl 0 rfl) ?_
        refine mw_get (v := .ref (mvA V 6)) hC hM 0 (Nat.le_of_ble_eq_true rfl) (eR_0 V) inW12 rfl 13 (by decide) q_1159 (fun _ h9 => h9) rfl dX12_cycle_54 ?_
        refine lv_aload_n hC.1 hC.2.1 dX12_cycle_57 rfl (lv_at hl 0 rfl) ?_
        refine mw_get (v := .ref (mvA V 1)) hC hM 0 (Nat.le_of_ble_eq_true rfl) (eR_0 V) inW12 rfl 0 (by decide) q_1146 (fun _ h9 => h9) rfl dX12_cycle_58 ?_
        refine lv_iconst hC.1 hC.2.1 dX12_cycle_61 ci_1 ?_
        obtain ⟨hg16, hf⟩ := o_g hf
        refine mw_iald hC hM 1 0 (Nat.le_of_ble_eq_true rfl) (eR_1 V) rfl hg16 dX12_cycle_62 ?_
        refine lv_iload_n hC.1 hC.2.1 dX12_cycle_63 rfl (lv_at hl 2 rfl) ?_
        obtain ⟨hg17, hf⟩ := o_g hf
        refine mw_iast hC hM 6 0 (Nat.le_of_ble_eq_true rfl) (eR_6 V) rfl hg17 dX12_cycle_64 (fun H locs hM => ?_)
        refine lv_aload_n hC.1 hC.2.1 dX12_cycle_65 rfl (lv_at hl 0 rfl) ?_
        refine lv_aload_n hC.1 hC.2.1 dX12_cycle_66 rfl (lv_at hl 0 rfl) ?_
        refine lv_aload_n hC.1 hC.2.1 dX12_cycle_67 rfl (lv_at hl 0 rfl) ?_
        obtain ⟨r18, M20, hq19, hf⟩ := o_b2 hf
        refine mw_cVi (As := []) (rest := [.ref (mvA V 0), .ref (mvA V 0)]) hC hM (mcX12_sumNow V l (wr M 6 (Int32.toNatClampNeg (M 1 (Int32.toNatClampNeg 1))) x2) r18 M20 hq19) (mw_kV hC q_1460 q_1462 q_72 q_120 q_1463 ⟨rfl, rfl⟩ kV_X12_sumNow ⟨Nat.le_of_ble_eq_true rfl, Nat.le_of_ble_eq_true rfl⟩) (Nat.le_of_ble_eq_true rfl) (eR_0 V) rfl rfl rfl (Nat.le_of_ble_eq_true rfl) hl.1 dX12_cycle_68 (fun H locs hM _ => ?_)
        obtain ⟨r21, hq22, hf⟩ := o_b hf
        refine mw_cVi (As := [.int r18]) (rest := [.ref (mvA V 0)]) hC hM (mcX12_moveBy V l M20 r18 r21 hq22) (mw_kV hC q_1472 q_1474 q_74 q_120 q_1475 ⟨rfl, rfl⟩ kV_X12_moveBy ⟨Nat.le_of_ble_eq_true rfl, Nat.le_of_ble_eq_true rfl⟩) (Nat.le_of_ble_eq_true rfl) (eR_0 V) rfl rfl rfl (Nat.le_of_ble_eq_true rfl) hl.1 dX12_cycle_71 (fun H locs hM _ => ?_)
        obtain ⟨r23, M25, hq24, hf⟩ := o_b2 hf
        refine mw_cVv (As := [.int r21]) (rest := []) hC hM (mcX12_turns V l M20 r21 r23 M25 hq24) (mw_kV hC q_1476 q_1478 q_75 q_120 q_1479 ⟨rfl, rfl⟩ kV_X12_turns ⟨Nat.le_of_ble_eq_true rfl, Nat.le_of_ble_eq_true rfl⟩) (Nat.le_of_ble_eq_true rfl) (eR_0 V) rfl rfl rfl (Nat.le_of_ble_eq_true rfl) hl.1 dX12_cycle_74 (fun H locs hM => ?_)
        refine lv_iinc (k := 2) (lv' := [(2, .int (x2 + 1)), (0, .ref (mvA V 0)), (1, .int x1)]) hC.1 hC.2.1 dX12_cycle_77 hl rfl (inc_1 _) (Nat.le_of_ble_eq_true rfl) rfl (fun ls hl => ?_)
        refine lv_goto (tgt := 39) hC.1 hC.2.1 dX12_cycle_80 (by decide) ?_
        exact ih24 _ _ _ _ _ _ hf hM (lv_sub hl [1, 2, 0] rfl)
  have hL14 : ∀ (n : Nat) (M : mM) (x1 : Int32) (x2 : Int32) (H : Heap) (locs : List Loc) (ls : Array Slot), fX12_cycle_L14 n M x1 x2 = some (r, M') → PR V M A s H locs → lv_has ls 4 [(0, .ref (mvA V 0)), (1, .int x1), (2, .int x2)] → W p l e ({ frames := 7, cells := 0, slots := 0, locals := 161 } : Room) s m args below meth c H locs 0 0 Q (F0 m 14 ls []) := by
    intro n10
    induction n10 with
    | zero => intro M x1 x2 H locs ls hf; cases hf
    | succ n10 ih10 =>
      intro M x1 x2 H locs ls hf hM hl
      have hf : fX12_cycle_L14_b (fX12_cycle_L14 n10) M x1 x2 = some (r, M') := hf
      unfold fX12_cycle_L14_b at hf
      refine lv_iload_n hC.1 hC.2.1 dX12_cycle_14 rfl (lv_at hl 2 rfl) ?_
      refine lv_bipush hC.1 hC.2.1 dX12_cycle_15 cb_24 ?_
      refine lv_icmp_ge (tgt := 33) hC.1 hC.2.1 dX12_cycle_17 (by decide) (fun hc7 => ?_) (fun hc7 => ?_)
      · have hf := o_t hc7 hf
        refine lv_aload_n hC.1 hC.2.1 dX12_cycle_33 rfl (lv_at hl 0 rfl) ?_
        obtain ⟨r3, M5, hq4, hf⟩ := o_b2 hf
        refine mw_cVv (As := []) (rest := []) hC hM (mcX12_thinks V l M r3 M5 hq4) (mw_kV hC q_1485 q_1487 q_76 q_120 q_1488 ⟨rfl, rfl⟩ kV_X12_thinks ⟨Nat.le_of_ble_eq_true rfl, Nat.le_of_ble_eq_true rfl⟩) (Nat.le_of_ble_eq_true rfl) (eR_0 V) rfl rfl rfl (Nat.le_of_ble_eq_true rfl) hl.1 dX12_cycle_34 (fun H locs hM => ?_)
        refine lv_iconst hC.1 hC.2.1 dX12_cycle_37 ci_0 ?_
        refine lv_istore_n (lv' := [(2, .int 0), (0, .ref (mvA V 0)), (1, .int x1)]) hC.1 hC.2.1 dX12_cycle_38 rfl hl (Nat.le_of_ble_eq_true rfl) rfl (fun ls hl => ?_)
        exact hL39 _ _ _ _ _ _ _ hf hM (lv_sub hl [1, 2, 0] rfl)
      · have hf := o_f hc7 hf
        refine lv_aload_n hC.1 hC.2.1 dX12_cycle_20 rfl (lv_at hl 0 rfl) ?_
        refine mw_get (v := .ref (mvA V 6)) hC hM 0 (Nat.le_of_ble_eq_true rfl) (eR_0 V) inW12 rfl 13 (by decide) q_1159 (fun _ h9 => h9) rfl dX12_cycle_21 ?_
        refine lv_iload_n hC.1 hC.2.1 dX12_cycle_24 rfl (lv_at hl 2 rfl) ?_
        refine lv_iconst hC.1 hC.2.1 dX12_cycle_25 ci_m1 ?_
        obtain ⟨hg6, hf⟩ := o_g hf
        refine mw_iast hC hM 6 0 (Nat.le_of_ble_eq_true rfl) (eR_6 V) rfl hg6 dX12_cycle_26 (fun H locs hM => ?_)
        refine lv_iinc (k := 2) (lv' := [(2, .int (x2 + 1)), (0, .ref (mvA V 0)), (1, .int x1)]) hC.1 hC.2.1 dX12_cycle_27 hl rfl (inc_1 _) (Nat.le_of_ble_eq_true rfl) rfl (fun ls hl => ?_)
        refine lv_goto (tgt := 14) hC.1 hC.2.1 dX12_cycle_30 (by decide) ?_
        exact ih10 _ _ _ _ _ _ hf hM (lv_sub hl [1, 2, 0] rfl)
  refine lv_iload_n hC.1 hC.2.1 dX12_cycle_0 rfl (lv_at hl 1 rfl) ?_
  refine lv_i2l (v := (Int32.toInt64 p1)) hC.1 hC.2.1 dX12_cycle_1 rfl ?_
  refine lv_lconst (v := 0) hC.1 hC.2.1 dX12_cycle_2 rfl ?_
  refine lv_lconst (v := 1) hC.1 hC.2.1 dX12_cycle_3 rfl ?_
  refine mw_cSi (As := [.long (Int32.toInt64 p1), .long 0, .long 1]) (rest := []) hC hM (mcX12_in V l M (Int32.toInt64 p1) 0 1 _ rfl) (mw_kS hC q_1257 q_1258 q_120 q_1259 ⟨rfl, rfl⟩ kS_X12_in ⟨Nat.le_of_ble_eq_true rfl, Nat.le_of_ble_eq_true rfl⟩) rfl rfl (Nat.le_of_ble_eq_true rfl) hl.1 dX12_cycle_4 (fun H locs hM hb1 => ?_)
  refine lv_if_ne (tgt := 12) hC.1 hC.2.1 dX12_cycle_7 (by decide) (fun hc2 => ?_) (fun hc2 => ?_)
  · have hf := o_f hc2 hf
    refine lv_iconst hC.1 hC.2.1 dX12_cycle_12 ci_0 ?_
    refine lv_istore_n (lv' := [(2, .int 0), (0, .ref (mvA V 0)), (1, .int p1)]) hC.1 hC.2.1 dX12_cycle_13 rfl hl (Nat.le_of_ble_eq_true rfl) rfl (fun ls hl => ?_)
    exact hL14 _ _ _ _ _ _ _ hf hM (lv_sub hl [1, 2, 0] rfl)
  · have hf := o_t hc2 hf
    refine lv_iconst hC.1 hC.2.1 dX12_cycle_10 ci_m1 ?_
    exact hret (o_r1 hf) (o_r2 hf hM) dX12_cycle_11
set_option maxHeartbeats 4000000 in
set_option maxRecDepth 100000 in
theorem mcX12_lulls (V : mV) (l : Launch) (M : mM) (p1 : Int32) (p2 : Int32) (r : Int32) (M' : mM) (hf : fX12_lulls M p1 p2 = some (r, M')) : UR V l yX12_lulls cX12_lulls 4 ({ frames := 1, cells := 0, slots := 0, locals := 23 } : Room) [.ref (mvA V 0), .int p1, .int p2] M M' := by
  unfold fX12_lulls at hf
  refine mw_enterV RX12 rfl (by decide +kernel) (Nat.le_of_ble_eq_true rfl) (fun {p e s m args below meth c} ls A Q hC hret hM hl => ?_)
  have hl : lv_has ls 4 [(0, .ref (mvA V 0)), (1, .int p1), (2, .int p2)] := hl
  have hL2 : ∀ (n : Nat) (M : mM) (x1 : Int32) (x2 : Int32) (x3 : Int32) (H : Heap) (locs : List Loc) (ls : Array Slot), fX12_lulls_L2 n M x1 x2 x3 = some (r, M') → PR V M A s H locs → lv_has ls 4 [(0, .ref (mvA V 0)), (1, .int x1), (2, .int x2), (3, .int x3)] → W p l e ({ frames := 1, cells := 0, slots := 0, locals := 23 } : Room) s m args below meth c H locs 0 0 Q (F0 m 2 ls []) := by
    intro n2
    induction n2 with
    | zero => intro M x1 x2 x3 H locs ls hf; cases hf
    | succ n2 ih2 =>
      intro M x1 x2 x3 H locs ls hf hM hl
      have hf : fX12_lulls_L2_b (fX12_lulls_L2 n2) M x1 x2 x3 = some (r, M') := hf
      unfold fX12_lulls_L2_b at hf
      refine lv_iload_n hC.1 hC.2.1 dX12_lulls_2 rfl (lv_at hl 3 rfl) ?_
      refine lv_aload_n hC.1 hC.2.1 dX12_lulls_3 rfl (lv_at hl 0 rfl) ?_
      refine mw_get (v := .ref (mvA V 1)) hC hM 0 (Nat.le_of_ble_eq_true rfl) (eR_0 V) inW12 rfl 0 (by decide) q_1146 (fun _ h9 => h9) rfl dX12_lulls_4 ?_
      refine lv_iconst hC.1 hC.2.1 dX12_lulls_7 ci_0 ?_
      obtain ⟨hg1, hf⟩ := o_g hf
      refine mw_iald hC hM 1 0 (Nat.le_of_ble_eq_true rfl) (eR_1 V) rfl hg1 dX12_lulls_8 ?_
      refine lv_icmp_ge (tgt := 34) hC.1 hC.2.1 dX12_lulls_9 (by decide) (fun hc6 => ?_) (fun hc6 => ?_)
      · have hf := o_t hc6 hf
        exact hret (o_r2 hf hM) dX12_lulls_34
      · have hf := o_f hc6 hf
        refine lv_iload_n hC.1 hC.2.1 dX12_lulls_12 rfl (lv_at hl 1 rfl) ?_
        refine lv_iload_n hC.1 hC.2.1 dX12_lulls_13 rfl (lv_at hl 3 rfl) ?_
        refine lv_ishr hC.1 hC.2.1 dX12_lulls_14 ?_
        refine lv_iconst hC.1 hC.2.1 dX12_lulls_15 ci_1 ?_
        refine lv_iand hC.1 hC.2.1 dX12_lulls_16 ?_
        refine lv_iconst hC.1 hC.2.1 dX12_lulls_17 ci_1 ?_
        refine lv_icmp_ne (tgt := 28) hC.1 hC.2.1 dX12_lulls_18 (by decide) (fun hc5 => ?_) (fun hc5 => ?_)
        · have hf := o_f hc5 hf
          refine lv_iinc (k := 3) (lv' := [(3, .int (x3 + 1)), (0, .ref (mvA V 0)), (1, .int x1), (2, .int x2)]) hC.1 hC.2.1 dX12_lulls_28 hl rfl (inc_1 _) (Nat.le_of_ble_eq_true rfl) rfl (fun ls hl => ?_)
          refine lv_goto (tgt := 2) hC.1 hC.2.1 dX12_lulls_31 (by decide) ?_
          exact ih2 _ _ _ _ _ _ _ hf hM (lv_sub hl [1, 2, 3, 0] rfl)
        · have hf := o_t hc5 hf
          refine lv_aload_n hC.1 hC.2.1 dX12_lulls_21 rfl (lv_at hl 0 rfl) ?_
          refine lv_iload_n hC.1 hC.2.1 dX12_lulls_22 rfl (lv_at hl 3 rfl) ?_
          refine lv_iconst hC.1 hC.2.1 dX12_lulls_23 ci_4 ?_
          refine lv_iload_n hC.1 hC.2.1 dX12_lulls_24 rfl (lv_at hl 2 rfl) ?_
          obtain ⟨r2, M4, hq3, hf⟩ := o_b2 hf
          refine mw_cVv (As := [.int x3, .int 4, .int x2]) (rest := []) hC hM (mcX12_sets V l M x3 4 x2 r2 M4 hq3) (mw_kV hC q_1269 q_1271 q_44 q_120 q_1272 ⟨rfl, rfl⟩ kV_X12_sets ⟨Nat.le_of_ble_eq_true rfl, Nat.le_of_ble_eq_true rfl⟩) (Nat.le_of_ble_eq_true rfl) (eR_0 V) rfl rfl rfl (Nat.le_of_ble_eq_true rfl) hl.1 dX12_lulls_25 (fun H locs hM => ?_)
          refine lv_iinc (k := 3) (lv' := [(3, .int (x3 + 1)), (0, .ref (mvA V 0)), (1, .int x1), (2, .int x2)]) hC.1 hC.2.1 dX12_lulls_28 hl rfl (inc_1 _) (Nat.le_of_ble_eq_true rfl) rfl (fun ls hl => ?_)
          refine lv_goto (tgt := 2) hC.1 hC.2.1 dX12_lulls_31 (by decide) ?_
          exact ih2 _ _ _ _ _ _ _ hf hM (lv_sub hl [1, 2, 3, 0] rfl)
  refine lv_iconst hC.1 hC.2.1 dX12_lulls_0 ci_0 ?_
  refine lv_istore_n (lv' := [(3, .int 0), (0, .ref (mvA V 0)), (1, .int p1), (2, .int p2)]) hC.1 hC.2.1 dX12_lulls_1 rfl hl (Nat.le_of_ble_eq_true rfl) rfl (fun ls hl => ?_)
  exact hL2 _ _ _ _ _ _ _ _ hf hM (lv_sub hl [1, 2, 3, 0] rfl)
set_option maxHeartbeats 4000000 in
set_option maxRecDepth 100000 in
theorem mcX12_priceOf (V : mV) (l : Launch) (M : mM) (p1 : Int32) (r : Int32) (hf : fX12_priceOf M p1 = some r) : IR V l yX12_priceOf cX12_priceOf 4 ({ frames := 1, cells := 0, slots := 0, locals := 22 } : Room) [.ref (mvA V 0), .int p1] M r M := by
  unfold fX12_priceOf at hf
  refine mw_enterI RX12 rfl (by decide +kernel) (Nat.le_of_ble_eq_true rfl) (fun {p e s m args below meth c} ls A Q hC hret hM hl => ?_)
  have hl : lv_has ls 4 [(0, .ref (mvA V 0)), (1, .int p1)] := hl
  have hL4 : ∀ (n : Nat) (x1 : Int32) (x2 : Int32) (x3 : Int32) (H : Heap) (locs : List Loc) (ls : Array Slot), fX12_priceOf_L4 n M x1 x2 x3 = some r → PR V M A s H locs → lv_has ls 4 [(0, .ref (mvA V 0)), (1, .int x1), (2, .int x2), (3, .int x3)] → W p l e ({ frames := 1, cells := 0, slots := 0, locals := 22 } : Room) s m args below meth c H locs 0 0 Q (F0 m 4 ls []) := by
    intro n4
    induction n4 with
    | zero => intro x1 x2 x3 H locs ls hf; cases hf
    | succ n4 ih4 =>
      intro x1 x2 x3 H locs ls hf hM hl
      have hf : fX12_priceOf_L4_b (fX12_priceOf_L4 n4) M x1 x2 x3 = some r := hf
      unfold fX12_priceOf_L4_b at hf
      refine lv_iload_n hC.1 hC.2.1 dX12_priceOf_4 rfl (lv_at hl 3 rfl) ?_
      refine lv_aload_n hC.1 hC.2.1 dX12_priceOf_5 rfl (lv_at hl 0 rfl) ?_
      refine mw_get (v := .ref (mvA V 1)) hC hM 0 (Nat.le_of_ble_eq_true rfl) (eR_0 V) inW12 rfl 0 (by decide) q_1146 (fun _ h9 => h9) rfl dX12_priceOf_6 ?_
      refine lv_iconst hC.1 hC.2.1 dX12_priceOf_9 ci_0 ?_
      obtain ⟨hg1, hf⟩ := o_g hf
      refine mw_iald hC hM 1 0 (Nat.le_of_ble_eq_true rfl) (eR_1 V) rfl hg1 dX12_priceOf_10 ?_
      refine lv_icmp_ge (tgt := 35) hC.1 hC.2.1 dX12_priceOf_11 (by decide) (fun hc4 => ?_) (fun hc4 => ?_)
      · have hf := o_t hc4 hf
        refine lv_iload_n hC.1 hC.2.1 dX12_priceOf_35 rfl (lv_at hl 2 rfl) ?_
        exact hret (Option.some.inj hf) hM dX12_priceOf_36
      · have hf := o_f hc4 hf
        refine lv_iload_n hC.1 hC.2.1 dX12_priceOf_14 rfl (lv_at hl 2 rfl) ?_
        refine lv_iload_n hC.1 hC.2.1 dX12_priceOf_15 rfl (lv_at hl 1 rfl) ?_
        refine lv_iload_n hC.1 hC.2.1 dX12_priceOf_16 rfl (lv_at hl 3 rfl) ?_
        refine lv_ishr hC.1 hC.2.1 dX12_priceOf_17 ?_
        refine lv_iconst hC.1 hC.2.1 dX12_priceOf_18 ci_1 ?_
        refine lv_iand hC.1 hC.2.1 dX12_priceOf_19 ?_
        refine lv_aload_n hC.1 hC.2.1 dX12_priceOf_20 rfl (lv_at hl 0 rfl) ?_
        refine lv_iload_n hC.1 hC.2.1 dX12_priceOf_21 rfl (lv_at hl 3 rfl) ?_
        refine lv_iconst hC.1 hC.2.1 dX12_priceOf_22 ci_3 ?_
        obtain ⟨r2, hq3, hf⟩ := o_b hf
        refine mw_cVi (As := [.int x3, .int 3]) (rest := [.int ((x1 >>> (x3 &&& 31)) &&& 1), .int x2]) hC hM (mcX12_its V l M x3 3 r2 hq3) (mw_kV hC q_1282 q_1284 q_46 q_120 q_1285 ⟨rfl, rfl⟩ kV_X12_its ⟨Nat.le_of_ble_eq_true rfl, Nat.le_of_ble_eq_true rfl⟩) (Nat.le_of_ble_eq_true rfl) (eR_0 V) rfl rfl rfl (Nat.le_of_ble_eq_true rfl) hl.1 dX12_priceOf_23 (fun H locs hM _ => ?_)
        refine lv_imul hC.1 hC.2.1 dX12_priceOf_26 ?_
        refine lv_iadd hC.1 hC.2.1 dX12_priceOf_27 ?_
        refine lv_istore_n (lv' := [(2, .int (x2 + (((x1 >>> (x3 &&& 31)) &&& 1) * r2))), (0, .ref (mvA V 0)), (1, .int x1), (3, .int x3)]) hC.1 hC.2.1 dX12_priceOf_28 rfl hl (Nat.le_of_ble_eq_true rfl) rfl (fun ls hl => ?_)
        refine lv_iinc (k := 3) (lv' := [(3, .int (x3 + 1)), (2, .int (x2 + (((x1 >>> (x3 &&& 31)) &&& 1) * r2))), (0, .ref (mvA V 0)), (1, .int x1)]) hC.1 hC.2.1 dX12_priceOf_29 hl rfl (inc_1 _) (Nat.le_of_ble_eq_true rfl) rfl (fun ls hl => ?_)
        refine lv_goto (tgt := 4) hC.1 hC.2.1 dX12_priceOf_32 (by decide) ?_
        exact ih4 _ _ _ _ _ _ hf hM (lv_sub hl [2, 3, 1, 0] rfl)
  refine lv_iconst hC.1 hC.2.1 dX12_priceOf_0 ci_0 ?_
  refine lv_istore_n (lv' := [(2, .int 0), (0, .ref (mvA V 0)), (1, .int p1)]) hC.1 hC.2.1 dX12_priceOf_1 rfl hl (Nat.le_of_ble_eq_true rfl) rfl (fun ls hl => ?_)
  refine lv_iconst hC.1 hC.2.1 dX12_priceOf_2 ci_0 ?_
  refine lv_istore_n (lv' := [(3, .int 0), (2, .int 0), (0, .ref (mvA V 0)), (1, .int p1)]) hC.1 hC.2.1 dX12_priceOf_3 rfl hl (Nat.le_of_ble_eq_true rfl) rfl (fun ls hl => ?_)
  exact hL4 _ _ _ _ _ _ _ hf hM (lv_sub hl [2, 3, 1, 0] rfl)
set_option maxHeartbeats 4000000 in
set_option maxRecDepth 100000 in
theorem mcX12_ones (V : mV) (l : Launch) (M : mM) (p0 : Int32) (r : Int32) (hf : fX12_ones M p0 = some r) : IR V l yX12_ones cX12_ones 3 ({ frames := 0, cells := 0, slots := 0, locals := 0 } : Room) [.int p0] M r M := by
  unfold fX12_ones at hf
  refine mw_enterI RX12 rfl (by decide +kernel) (Nat.le_of_ble_eq_true rfl) (fun {p e s m args below meth c} ls A Q hC hret hM hl => ?_)
  have hl : lv_has ls 3 [(0, .int p0)] := hl
  have hL4 : ∀ (n : Nat) (x0 : Int32) (x1 : Int32) (x2 : Int32) (H : Heap) (locs : List Loc) (ls : Array Slot), fX12_ones_L4 n M x0 x1 x2 = some r → PR V M A s H locs → lv_has ls 3 [(0, .int x0), (1, .int x1), (2, .int x2)] → W p l e ({ frames := 0, cells := 0, slots := 0, locals := 0 } : Room) s m args below meth c H locs 0 0 Q (F0 m 4 ls []) := by
    intro n4
    induction n4 with
    | zero => intro x0 x1 x2 H locs ls hf; cases hf
    | succ n4 ih4 =>
      intro x0 x1 x2 H locs ls hf hM hl
      have hf : fX12_ones_L4_b (fX12_ones_L4 n4) M x0 x1 x2 = some r := hf
      unfold fX12_ones_L4_b at hf
      refine lv_iload_n hC.1 hC.2.1 dX12_ones_4 rfl (lv_at hl 2 rfl) ?_
      refine lv_bipush hC.1 hC.2.1 dX12_ones_5 cb_7 ?_
      refine lv_icmp_ge (tgt := 24) hC.1 hC.2.1 dX12_ones_7 (by decide) (fun hc1 => ?_) (fun hc1 => ?_)
      · have hf := o_t hc1 hf
        refine lv_iload_n hC.1 hC.2.1 dX12_ones_24 rfl (lv_at hl 1 rfl) ?_
        exact hret (Option.some.inj hf) hM dX12_ones_25
      · have hf := o_f hc1 hf
        refine lv_iload_n hC.1 hC.2.1 dX12_ones_10 rfl (lv_at hl 1 rfl) ?_
        refine lv_iload_n hC.1 hC.2.1 dX12_ones_11 rfl (lv_at hl 0 rfl) ?_
        refine lv_iload_n hC.1 hC.2.1 dX12_ones_12 rfl (lv_at hl 2 rfl) ?_
        refine lv_ishr hC.1 hC.2.1 dX12_ones_13 ?_
        refine lv_iconst hC.1 hC.2.1 dX12_ones_14 ci_1 ?_
        refine lv_iand hC.1 hC.2.1 dX12_ones_15 ?_
        refine lv_iadd hC.1 hC.2.1 dX12_ones_16 ?_
        refine lv_istore_n (lv' := [(1, .int (x1 + ((x0 >>> (x2 &&& 31)) &&& 1))), (0, .int x0), (2, .int x2)]) hC.1 hC.2.1 dX12_ones_17 rfl hl (Nat.le_of_ble_eq_true rfl) rfl (fun ls hl => ?_)
        refine lv_iinc (k := 2) (lv' := [(2, .int (x2 + 1)), (1, .int (x1 + ((x0 >>> (x2 &&& 31)) &&& 1))), (0, .int x0)]) hC.1 hC.2.1 dX12_ones_18 hl rfl (inc_1 _) (Nat.le_of_ble_eq_true rfl) rfl (fun ls hl => ?_)
        refine lv_goto (tgt := 4) hC.1 hC.2.1 dX12_ones_21 (by decide) ?_
        exact ih4 _ _ _ _ _ _ hf hM (lv_sub hl [2, 1, 0] rfl)
  refine lv_iconst hC.1 hC.2.1 dX12_ones_0 ci_0 ?_
  refine lv_istore_n (lv' := [(1, .int 0), (0, .int p0)]) hC.1 hC.2.1 dX12_ones_1 rfl hl (Nat.le_of_ble_eq_true rfl) rfl (fun ls hl => ?_)
  refine lv_iconst hC.1 hC.2.1 dX12_ones_2 ci_0 ?_
  refine lv_istore_n (lv' := [(2, .int 0), (1, .int 0), (0, .int p0)]) hC.1 hC.2.1 dX12_ones_3 rfl hl (Nat.le_of_ble_eq_true rfl) rfl (fun ls hl => ?_)
  exact hL4 _ _ _ _ _ _ _ hf hM (lv_sub hl [2, 1, 0] rfl)
set_option maxHeartbeats 4000000 in
set_option maxRecDepth 100000 in
theorem mcX12_bestFor (V : mV) (l : Launch) (M : mM) (p1 : Int32) (r : Int32) (M' : mM) (hf : fX12_bestFor M p1 = some (r, M')) : IR V l yX12_bestFor cX12_bestFor 7 ({ frames := 7, cells := 0, slots := 0, locals := 161 } : Room) [.ref (mvA V 0), .int p1] M r M' := by
  unfold fX12_bestFor at hf
  refine mw_enterI RX12 rfl (by decide +kernel) (Nat.le_of_ble_eq_true rfl) (fun {p e s m args below meth c} ls A Q hC hret hM hl => ?_)
  have hl : lv_has ls 7 [(0, .ref (mvA V 0)), (1, .int p1)] := hl
  have hL10 : ∀ (n : Nat) (M : mM) (x1 : Int32) (x2 : Int32) (x3 : Int32) (x4 : Int32) (H : Heap) (locs : List Loc) (ls : Array Slot), fX12_bestFor_L10 n M x1 x2 x3 x4 = some (r, M') → PR V M A s H locs → lv_has ls 7 [(0, .ref (mvA V 0)), (1, .int x1), (2, .int x2), (3, .int x3), (4, .int x4)] → W p l e ({ frames := 7, cells := 0, slots := 0, locals := 161 } : Room) s m args below meth c H locs 0 0 Q (F0 m 10 ls []) := by
    intro n7
    induction n7 with
    | zero => intro M x1 x2 x3 x4 H locs ls hf; cases hf
    | succ n7 ih7 =>
      intro M x1 x2 x3 x4 H locs ls hf hM hl
      have hf : fX12_bestFor_L10_b (fX12_bestFor_L10 n7) M x1 x2 x3 x4 = some (r, M') := hf
      unfold fX12_bestFor_L10_b at hf
      have hL98 : ∀ (M : mM) (x1 : Int32) (x2 : Int32) (x3 : Int32) (x4 : Int32) (x5 : Int32) (t0 : Int32) (H : Heap) (locs : List Loc) (ls : Array Slot), fX12_bestFor_L98 (fX12_bestFor_L10 n7) M x1 x2 x3 x4 x5 t0 = some (r, M') → PR V M A s H locs → lv_has ls 7 [(0, .ref (mvA V 0)), (1, .int x1), (2, .int x2), (3, .int x3), (4, .int x4), (5, .int x5)] → W p l e ({ frames := 7, cells := 0, slots := 0, locals := 161 } : Room) s m args below meth c H locs 0 0 Q (F0 m 98 ls [.int t0]) := by
        intro M x1 x2 x3 x4 x5 t0 H locs ls hf hM hl
        unfold fX12_bestFor_L98 at hf
        refine lv_istore (lv' := [(6, .int t0), (0, .ref (mvA V 0)), (1, .int x1), (2, .int x2), (3, .int x3), (4, .int x4), (5, .int x5)]) hC.1 hC.2.1 dX12_bestFor_98 hl (Nat.le_of_ble_eq_true rfl) rfl (fun ls hl => ?_)
        refine lv_iload hC.1 hC.2.1 dX12_bestFor_100 (lv_at hl 6 rfl) ?_
        refine lv_if_eq (tgt := 115) hC.1 hC.2.1 dX12_bestFor_102 (by decide) (fun hc27 => ?_) (fun hc27 => ?_)
        · have hf := o_t hc27 hf
          refine lv_iload_n hC.1 hC.2.1 dX12_bestFor_115 rfl (lv_at hl 4 rfl) ?_
          refine lv_istore_n (lv' := [(3, .int x3), (6, .int t0), (0, .ref (mvA V 0)), (1, .int x1), (2, .int x2), (4, .int x4), (5, .int x5)]) hC.1 hC.2.1 dX12_bestFor_116 rfl hl (Nat.le_of_ble_eq_true rfl) rfl (fun ls hl => ?_)
          refine lv_iinc (k := 5) (lv' := [(4, .int (x4 + 1)), (3, .int x3), (6, .int t0), (0, .ref (mvA V 0)), (1, .int x1), (2, .int x2), (5, .int x5)]) hC.1 hC.2.1 dX12_bestFor_117 hl rfl (inc_1 _) (Nat.le_of_ble_eq_true rfl) rfl (fun ls hl => ?_)
          refine lv_goto (tgt := 10) hC.1 hC.2.1 dX12_bestFor_120 (by decide) ?_
          exact ih7 _ _ _ _ _ _ _ _ hf hM (lv_sub hl [3, 4, 5, 1, 0] rfl)
        · have hf := o_f hc27 hf
          refine lv_iload hC.1 hC.2.1 dX12_bestFor_105 (lv_at hl 0 rfl) ?_
          refine lv_if_ge (tgt := 115) hC.1 hC.2.1 dX12_bestFor_107 (by decide) (fun hc26 => ?_) (fun hc26 => ?_)
          · have hf := o_t hc26 hf
            refine lv_iload_n hC.1 hC.2.1 dX12_bestFor_115 rfl (lv_at hl 4 rfl) ?_
            refine lv_istore_n (lv' := [(3, .int x3), (6, .int t0), (0, .ref (mvA V 0)), (1, .int x1), (2, .int x2), (4, .int x4), (5, .int x5)]) hC.1 hC.2.1 dX12_bestFor_116 rfl hl (Nat.le_of_ble_eq_true rfl) rfl (fun ls hl => ?_)
            refine lv_iinc (k := 5) (lv' := [(4, .int (x4 + 1)), (3, .int x3), (6, .int t0), (0, .ref (mvA V 0)), (1, .int x1), (2, .int x2), (5, .int x5)]) hC.1 hC.2.1 dX12_bestFor_117 hl rfl (inc_1 _) (Nat.le_of_ble_eq_true rfl) rfl (fun ls hl => ?_)
            refine lv_goto (tgt := 10) hC.1 hC.2.1 dX12_bestFor_120 (by decide) ?_
            exact ih7 _ _ _ _ _ _ _ _ hf hM (lv_sub hl [3, 4, 5, 1, 0] rfl)
          · have hf := o_f hc26 hf
            refine lv_iload hC.1 hC.2.1 dX12_bestFor_110 (lv_at hl 5 rfl) ?_
            refine lv_goto (tgt := 116) hC.1 hC.2.1 dX12_bestFor_112 (by decide) ?_
            refine lv_istore_n (lv' := [(3, .int x4), (6, .int t0), (0, .ref (mvA V 0)), (1, .int x1), (2, .int x2), (4, .int x4), (5, .int x5)]) hC.1 hC.2.1 dX12_bestFor_116 rfl hl (Nat.le_of_ble_eq_true rfl) rfl (fun ls hl => ?_)
            refine lv_iinc (k := 5) (lv' := [(4, .int (x4 + 1)), (3, .int x4), (6, .int t0), (0, .ref (mvA V 0)), (1, .int x1), (2, .int x2), (5, .int x5)]) hC.1 hC.2.1 dX12_bestFor_117 hl rfl (inc_1 _) (Nat.le_of_ble_eq_true rfl) rfl (fun ls hl => ?_)
            refine lv_goto (tgt := 10) hC.1 hC.2.1 dX12_bestFor_120 (by decide) ?_
            exact ih7 _ _ _ _ _ _ _ _ hf hM (lv_sub hl [3, 4, 5, 1, 0] rfl)
      have hL54 : ∀ (M : mM) (x1 : Int32) (x2 : Int32) (x3 : Int32) (x4 : Int32) (t0 : Int32) (H : Heap) (locs : List Loc) (ls : Array Slot), fX12_bestFor_L54 (fX12_bestFor_L10 n7) M x1 x2 x3 x4 t0 = some (r, M') → PR V M A s H locs → lv_has ls 7 [(0, .ref (mvA V 0)), (1, .int x1), (2, .int x2), (3, .int x3), (4, .int x4)] → W p l e ({ frames := 7, cells := 0, slots := 0, locals := 161 } : Room) s m args below meth c H locs 0 0 Q (F0 m 54 ls [.int t0]) := by
        intro M x1 x2 x3 x4 t0 H locs ls hf hM hl
        unfold fX12_bestFor_L54 at hf
        refine lv_istore (lv' := [(5, .int t0), (0, .ref (mvA V 0)), (1, .int x1), (2, .int x2), (3, .int x3), (4, .int x4)]) hC.1 hC.2.1 dX12_bestFor_54 hl (Nat.le_of_ble_eq_true rfl) rfl (fun ls hl => ?_)
        refine lv_aload_n hC.1 hC.2.1 dX12_bestFor_56 rfl (lv_at hl 1 rfl) ?_
        refine lv_iload hC.1 hC.2.1 dX12_bestFor_57 (lv_at hl 5 rfl) ?_
        refine lv_iconst hC.1 hC.2.1 dX12_bestFor_59 ci_1 ?_
        obtain ⟨r14, M16, hq15, hf⟩ := o_b2 hf
        refine mw_cVv (As := [.int x4, .int 1]) (rest := []) hC hM (mcX12_lulls V l M x4 1 r14 M16 hq15) (mw_kV hC q_1510 q_1512 q_79 q_120 q_1513 ⟨rfl, rfl⟩ kV_X12_lulls ⟨Nat.le_of_ble_eq_true rfl, Nat.le_of_ble_eq_true rfl⟩) (Nat.le_of_ble_eq_true rfl) (eR_0 V) rfl rfl rfl (Nat.le_of_ble_eq_true rfl) hl.1 dX12_bestFor_60 (fun H locs hM => ?_)
        refine lv_iload_n hC.1 hC.2.1 dX12_bestFor_63 rfl (lv_at hl 4 rfl) ?_
        refine lv_if_ge (tgt := 71) hC.1 hC.2.1 dX12_bestFor_64 (by decide) (fun hc25 => ?_) (fun hc25 => ?_)
        · have hf := o_t hc25 hf
          refine lv_sipush hC.1 hC.2.1 dX12_bestFor_71 cs_1000 ?_
          refine lv_aload_n hC.1 hC.2.1 dX12_bestFor_74 rfl (lv_at hl 1 rfl) ?_
          refine lv_iload hC.1 hC.2.1 dX12_bestFor_75 (lv_at hl 5 rfl) ?_
          obtain ⟨r17, hq18, hf⟩ := o_b hf
          refine mw_cVi (As := [.int x4]) (rest := [.int 1000]) hC hM (mcX12_priceOf V l M16 x4 r17 hq18) (mw_kV hC q_1514 q_1516 q_80 q_120 q_1517 ⟨rfl, rfl⟩ kV_X12_priceOf ⟨Nat.le_of_ble_eq_true rfl, Nat.le_of_ble_eq_true rfl⟩) (Nat.le_of_ble_eq_true rfl) (eR_0 V) rfl rfl rfl (Nat.le_of_ble_eq_true rfl) hl.1 dX12_bestFor_77 (fun H locs hM _ => ?_)
          refine lv_aload_n hC.1 hC.2.1 dX12_bestFor_80 rfl (lv_at hl 1 rfl) ?_
          refine lv_iload_n hC.1 hC.2.1 dX12_bestFor_81 rfl (lv_at hl 4 rfl) ?_
          obtain ⟨r19, hq20, hf⟩ := o_b hf
          refine mw_cVi (As := [.int x3]) (rest := [.int r17, .int 1000]) hC hM (mcX12_priceOf V l M16 x3 r19 hq20) (mw_kV hC q_1514 q_1516 q_80 q_120 q_1517 ⟨rfl, rfl⟩ kV_X12_priceOf ⟨Nat.le_of_ble_eq_true rfl, Nat.le_of_ble_eq_true rfl⟩) (Nat.le_of_ble_eq_true rfl) (eR_0 V) rfl rfl rfl (Nat.le_of_ble_eq_true rfl) hl.1 dX12_bestFor_82 (fun H locs hM _ => ?_)
          refine lv_isub hC.1 hC.2.1 dX12_bestFor_85 ?_
          refine lv_imul hC.1 hC.2.1 dX12_bestFor_86 ?_
          refine lv_iload hC.1 hC.2.1 dX12_bestFor_87 (lv_at hl 5 rfl) ?_
          obtain ⟨r21, hq22, hf⟩ := o_b hf
          refine mw_cSi (As := [.int x4]) (rest := [.int (1000 * (r17 - r19))]) hC hM (mcX12_ones V l M16 x4 r21 hq22) (mw_kS hC q_1518 q_1519 q_120 q_1520 ⟨rfl, rfl⟩ kS_X12_ones ⟨Nat.le_of_ble_eq_true rfl, Nat.le_of_ble_eq_true rfl⟩) rfl rfl (Nat.le_of_ble_eq_true rfl) hl.1 dX12_bestFor_89 (fun H locs hM _ => ?_)
          refine lv_iadd hC.1 hC.2.1 dX12_bestFor_92 ?_
          refine lv_iload_n hC.1 hC.2.1 dX12_bestFor_93 rfl (lv_at hl 4 rfl) ?_
          obtain ⟨r23, hq24, hf⟩ := o_b hf
          refine mw_cSi (As := [.int x3]) (rest := [.int ((1000 * (r17 - r19)) + r21)]) hC hM (mcX12_ones V l M16 x3 r23 hq24) (mw_kS hC q_1518 q_1519 q_120 q_1520 ⟨rfl, rfl⟩ kS_X12_ones ⟨Nat.le_of_ble_eq_true rfl, Nat.le_of_ble_eq_true rfl⟩) rfl rfl (Nat.le_of_ble_eq_true rfl) hl.1 dX12_bestFor_94 (fun H locs hM _ => ?_)
          refine lv_isub hC.1 hC.2.1 dX12_bestFor_97 ?_
          exact hL98 _ _ _ _ _ _ _ _ _ _ hf hM (lv_sub hl [1, 2, 3, 4, 5, 0] rfl)
        · have hf := o_f hc25 hf
          refine lv_iconst hC.1 hC.2.1 dX12_bestFor_67 ci_m1 ?_
          refine lv_goto (tgt := 98) hC.1 hC.2.1 dX12_bestFor_68 (by decide) ?_
          exact hL98 _ _ _ _ _ _ _ _ _ _ hf hM (lv_sub hl [1, 2, 3, 4, 5, 0] rfl)
      refine lv_iload hC.1 hC.2.1 dX12_bestFor_10 (lv_at hl 4 rfl) ?_
      refine lv_iload_n hC.1 hC.2.1 dX12_bestFor_12 rfl (lv_at hl 2 rfl) ?_
      refine lv_icmp_gt (tgt := 123) hC.1 hC.2.1 dX12_bestFor_13 (by decide) (fun hc13 => ?_) (fun hc13 => ?_)
      · have hf := o_t hc13 hf
        refine lv_iload_n hC.1 hC.2.1 dX12_bestFor_123 rfl (lv_at hl 3 rfl) ?_
        exact hret (o_r1 hf) (o_r2 hf hM) dX12_bestFor_124
      · have hf := o_f hc13 hf
        refine lv_iload hC.1 hC.2.1 dX12_bestFor_16 (lv_at hl 4 rfl) ?_
        refine lv_iload_n hC.1 hC.2.1 dX12_bestFor_18 rfl (lv_at hl 2 rfl) ?_
        refine lv_iconst hC.1 hC.2.1 dX12_bestFor_19 ci_m1 ?_
        refine lv_ixor hC.1 hC.2.1 dX12_bestFor_20 ?_
        refine lv_iand hC.1 hC.2.1 dX12_bestFor_21 ?_
        refine lv_if_eq (tgt := 28) hC.1 hC.2.1 dX12_bestFor_22 (by decide) (fun hc12 => ?_) (fun hc12 => ?_)
        · have hf := o_t hc12 hf
          refine lv_aload_n hC.1 hC.2.1 dX12_bestFor_28 rfl (lv_at hl 0 rfl) ?_
          refine lv_iload hC.1 hC.2.1 dX12_bestFor_29 (lv_at hl 4 rfl) ?_
          refine lv_iconst hC.1 hC.2.1 dX12_bestFor_31 ci_0 ?_
          obtain ⟨r3, M5, hq4, hf⟩ := o_b2 hf
          refine mw_cVv (As := [.int x4, .int 0]) (rest := []) hC hM (mcX12_lulls V l M x4 0 r3 M5 hq4) (mw_kV hC q_1510 q_1512 q_79 q_120 q_1513 ⟨rfl, rfl⟩ kV_X12_lulls ⟨Nat.le_of_ble_eq_true rfl, Nat.le_of_ble_eq_true rfl⟩) (Nat.le_of_ble_eq_true rfl) (eR_0 V) rfl rfl rfl (Nat.le_of_ble_eq_true rfl) hl.1 dX12_bestFor_32 (fun H locs hM => ?_)
          refine lv_aload_n hC.1 hC.2.1 dX12_bestFor_35 rfl (lv_at hl 0 rfl) ?_
          refine lv_aload_n hC.1 hC.2.1 dX12_bestFor_36 rfl (lv_at hl 0 rfl) ?_
          obtain ⟨r6, M8, hq7, hf⟩ := o_b2 hf
          refine mw_cVi (As := []) (rest := [.ref (mvA V 0)]) hC hM (mcX12_sumNow V l M5 r6 M8 hq7) (mw_kV hC q_1460 q_1462 q_72 q_120 q_1463 ⟨rfl, rfl⟩ kV_X12_sumNow ⟨Nat.le_of_ble_eq_true rfl, Nat.le_of_ble_eq_true rfl⟩) (Nat.le_of_ble_eq_true rfl) (eR_0 V) rfl rfl rfl (Nat.le_of_ble_eq_true rfl) hl.1 dX12_bestFor_37 (fun H locs hM _ => ?_)
          obtain ⟨r9, hq10, hf⟩ := o_b hf
          refine mw_cVi (As := [.int r6]) (rest := []) hC hM (mcX12_moveBy V l M8 r6 r9 hq10) (mw_kV hC q_1472 q_1474 q_74 q_120 q_1475 ⟨rfl, rfl⟩ kV_X12_moveBy ⟨Nat.le_of_ble_eq_true rfl, Nat.le_of_ble_eq_true rfl⟩) (Nat.le_of_ble_eq_true rfl) (eR_0 V) rfl rfl rfl (Nat.le_of_ble_eq_true rfl) hl.1 dX12_bestFor_40 (fun H locs hM _ => ?_)
          refine lv_iload_n hC.1 hC.2.1 dX12_bestFor_43 rfl (lv_at hl 1 rfl) ?_
          refine lv_iconst hC.1 hC.2.1 dX12_bestFor_44 ci_1 ?_
          refine lv_isub hC.1 hC.2.1 dX12_bestFor_45 ?_
          refine lv_icmp_ne (tgt := 53) hC.1 hC.2.1 dX12_bestFor_46 (by decide) (fun hc11 => ?_) (fun hc11 => ?_)
          · have hf := o_f hc11 hf
            refine lv_iconst hC.1 hC.2.1 dX12_bestFor_53 ci_0 ?_
            exact hL54 _ _ _ _ _ _ _ _ _ hf hM (lv_sub hl [0, 1, 2, 3, 4] rfl)
          · have hf := o_t hc11 hf
            refine lv_iconst hC.1 hC.2.1 dX12_bestFor_49 ci_1 ?_
            refine lv_goto (tgt := 54) hC.1 hC.2.1 dX12_bestFor_50 (by decide) ?_
            exact hL54 _ _ _ _ _ _ _ _ _ hf hM (lv_sub hl [0, 1, 2, 3, 4] rfl)
        · have hf := o_f hc12 hf
          refine lv_goto (tgt := 117) hC.1 hC.2.1 dX12_bestFor_25 (by decide) ?_
          refine lv_iinc (k := 4) (lv' := [(4, .int (x4 + 1)), (0, .ref (mvA V 0)), (1, .int x1), (2, .int x2), (3, .int x3)]) hC.1 hC.2.1 dX12_bestFor_117 hl rfl (inc_1 _) (Nat.le_of_ble_eq_true rfl) rfl (fun ls hl => ?_)
          refine lv_goto (tgt := 10) hC.1 hC.2.1 dX12_bestFor_120 (by decide) ?_
          exact ih7 _ _ _ _ _ _ _ _ hf hM (lv_sub hl [1, 2, 3, 4, 0] rfl)
  refine lv_aload_n hC.1 hC.2.1 dX12_bestFor_0 rfl (lv_at hl 0 rfl) ?_
  obtain ⟨r1, hq2, hf⟩ := o_b hf
  refine mw_cVi (As := []) (rest := []) hC hM (mcX12_awakeSet V l M r1 hq2) (mw_kV hC q_1348 q_1350 q_54 q_120 q_1351 ⟨rfl, rfl⟩ kV_X12_awakeSet ⟨Nat.le_of_ble_eq_true rfl, Nat.le_of_ble_eq_true rfl⟩) (Nat.le_of_ble_eq_true rfl) (eR_0 V) rfl rfl rfl (Nat.le_of_ble_eq_true rfl) hl.1 dX12_bestFor_1 (fun H locs hM _ => ?_)
  refine lv_istore_n (lv' := [(2, .int r1), (0, .ref (mvA V 0)), (1, .int p1)]) hC.1 hC.2.1 dX12_bestFor_4 rfl hl (Nat.le_of_ble_eq_true rfl) rfl (fun ls hl => ?_)
  refine lv_iconst hC.1 hC.2.1 dX12_bestFor_5 ci_m1 ?_
  refine lv_istore_n (lv' := [(3, .int (-1)), (2, .int r1), (0, .ref (mvA V 0)), (1, .int p1)]) hC.1 hC.2.1 dX12_bestFor_6 rfl hl (Nat.le_of_ble_eq_true rfl) rfl (fun ls hl => ?_)
  refine lv_iconst hC.1 hC.2.1 dX12_bestFor_7 ci_0 ?_
  refine lv_istore (lv' := [(4, .int 0), (3, .int (-1)), (2, .int r1), (0, .ref (mvA V 0)), (1, .int p1)]) hC.1 hC.2.1 dX12_bestFor_8 hl (Nat.le_of_ble_eq_true rfl) rfl (fun ls hl => ?_)
  exact hL10 _ _ _ _ _ _ _ _ _ hf hM (lv_sub hl [3, 4, 2, 1, 0] rfl)
set_option maxHeartbeats 4000000 in
set_option maxRecDepth 100000 in
theorem mcX12_buys (V : mV) (l : Launch) (M : mM) (p1 : Int32) (r : Int32) (M' : mM) (hf : fX12_buys M p1 = some (r, M')) : IR V l yX12_buys cX12_buys 3 ({ frames := 8, cells := 0, slots := 0, locals := 187 } : Room) [.ref (mvA V 0), .int p1] M r M' := by
  unfold fX12_buys at hf
  refine mw_enterI RX12 rfl (by decide +kernel) (Nat.le_of_ble_eq_true rfl) (fun {p e s m args below meth c} ls A Q hC hret hM hl => ?_)
  have hl : lv_has ls 3 [(0, .ref (mvA V 0)), (1, .int p1)] := hl
  refine lv_iload_n hC.1 hC.2.1 dX12_buys_0 rfl (lv_at hl 1 rfl) ?_
  refine lv_i2l (v := (Int32.toInt64 p1)) hC.1 hC.2.1 dX12_buys_1 rfl ?_
  refine lv_lconst (v := 0) hC.1 hC.2.1 dX12_buys_2 rfl ?_
  refine lv_ldc2 hC.1 hC.2.1 hC.2.2.2.1 (mw_w hC q_1505) dX12_buys_3 ?_
  refine mw_cSi (As := [.long (Int32.toInt64 p1), .long 0, .long 2]) (rest := []) hC hM (mcX12_in V l M (Int32.toInt64 p1) 0 2 _ rfl) (mw_kS hC q_1257 q_1258 q_120 q_1259 ⟨rfl, rfl⟩ kS_X12_in ⟨Nat.le_of_ble_eq_true rfl, Nat.le_of_ble_eq_true rfl⟩) rfl rfl (Nat.le_of_ble_eq_true rfl) hl.1 dX12_buys_6 (fun H locs hM hb1 => ?_)
  refine lv_if_ne (tgt := 14) hC.1 hC.2.1 dX12_buys_9 (by decide) (fun hc8 => ?_) (fun hc8 => ?_)
  · have hf := o_f hc8 hf
    refine lv_aload_n hC.1 hC.2.1 dX12_buys_14 rfl (lv_at hl 0 rfl) ?_
    refine lv_iload_n hC.1 hC.2.1 dX12_buys_15 rfl (lv_at hl 1 rfl) ?_
    obtain ⟨r2, M4, hq3, hf⟩ := o_b2 hf
    refine mw_cVi (As := [.int p1]) (rest := []) hC hM (mcX12_bestFor V l M p1 r2 M4 hq3) (mw_kV hC q_1506 q_1508 q_78 q_120 q_1509 ⟨rfl, rfl⟩ kV_X12_bestFor ⟨Nat.le_of_ble_eq_true rfl, Nat.le_of_ble_eq_true rfl⟩) (Nat.le_of_ble_eq_true rfl) (eR_0 V) rfl rfl rfl (Nat.le_of_ble_eq_true rfl) hl.1 dX12_buys_16 (fun H locs hM _ => ?_)
    refine lv_istore_n (lv' := [(2, .int r2), (0, .ref (mvA V 0)), (1, .int p1)]) hC.1 hC.2.1 dX12_buys_19 rfl hl (Nat.le_of_ble_eq_true rfl) rfl (fun ls hl => ?_)
    refine lv_iload_n hC.1 hC.2.1 dX12_buys_20 rfl (lv_at hl 0 rfl) ?_
    refine lv_if_ge (tgt := 29) hC.1 hC.2.1 dX12_buys_21 (by decide) (fun hc7 => ?_) (fun hc7 => ?_)
    · have hf := o_t hc7 hf
      refine lv_aload_n hC.1 hC.2.1 dX12_buys_29 rfl (lv_at hl 1 rfl) ?_
      refine lv_iload_n hC.1 hC.2.1 dX12_buys_30 rfl (lv_at hl 0 rfl) ?_
      obtain ⟨r5, hq6, hf⟩ := o_b hf
      refine mw_cVi (As := [.int r2]) (rest := []) hC hM (mcX12_priceOf V l M4 r2 r5 hq6) (mw_kV hC q_1514 q_1516 q_80 q_120 q_1517 ⟨rfl, rfl⟩ kV_X12_priceOf ⟨Nat.le_of_ble_eq_true rfl, Nat.le_of_ble_eq_true rfl⟩) (Nat.le_of_ble_eq_true rfl) (eR_0 V) rfl rfl rfl (Nat.le_of_ble_eq_true rfl) hl.1 dX12_buys_31 (fun H locs hM _ => ?_)
      exact hret (o_r1 hf) (o_r2 hf hM) dX12_buys_34
    · have hf := o_f hc7 hf
      refine lv_bipush hC.1 hC.2.1 dX12_buys_24 cb_m3 ?_
      refine lv_goto (tgt := 34) hC.1 hC.2.1 dX12_buys_26 (by decide) ?_
      exact hret (o_r1 hf) (o_r2 hf hM) dX12_buys_34
  · have hf := o_t hc8 hf
    refine lv_iconst hC.1 hC.2.1 dX12_buys_12 ci_m1 ?_
    exact hret (o_r1 hf) (o_r2 hf hM) dX12_buys_13
set_option maxHeartbeats 4000000 in
set_option maxRecDepth 100000 in
theorem mcX12_whom (V : mV) (l : Launch) (M : mM) (p1 : Int32) (r : Int32) (M' : mM) (hf : fX12_whom M p1 = some (r, M')) : IR V l yX12_whom cX12_whom 3 ({ frames := 8, cells := 0, slots := 0, locals := 187 } : Room) [.ref (mvA V 0), .int p1] M r M' := by
  unfold fX12_whom at hf
  refine mw_enterI RX12 rfl (by decide +kernel) (Nat.le_of_ble_eq_true rfl) (fun {p e s m args below meth c} ls A Q hC hret hM hl => ?_)
  have hl : lv_has ls 3 [(0, .ref (mvA V 0)), (1, .int p1)] := hl
  refine lv_iload_n hC.1 hC.2.1 dX12_whom_0 rfl (lv_at hl 1 rfl) ?_
  refine lv_i2l (v := (Int32.toInt64 p1)) hC.1 hC.2.1 dX12_whom_1 rfl ?_
  refine lv_lconst (v := 0) hC.1 hC.2.1 dX12_whom_2 rfl ?_
  refine lv_ldc2 hC.1 hC.2.1 hC.2.2.2.1 (mw_w hC q_1505) dX12_whom_3 ?_
  refine mw_cSi (As := [.long (Int32.toInt64 p1), .long 0, .long 2]) (rest := []) hC hM (mcX12_in V l M (Int32.toInt64 p1) 0 2 _ rfl) (mw_kS hC q_1257 q_1258 q_120 q_1259 ⟨rfl, rfl⟩ kS_X12_in ⟨Nat.le_of_ble_eq_true rfl, Nat.le_of_ble_eq_true rfl⟩) rfl rfl (Nat.le_of_ble_eq_true rfl) hl.1 dX12_whom_6 (fun H locs hM hb1 => ?_)
  refine lv_if_ne (tgt := 14) hC.1 hC.2.1 dX12_whom_9 (by decide) (fun hc6 => ?_) (fun hc6 => ?_)
  · have hf := o_f hc6 hf
    refine lv_aload_n hC.1 hC.2.1 dX12_whom_14 rfl (lv_at hl 0 rfl) ?_
    refine lv_iload_n hC.1 hC.2.1 dX12_whom_15 rfl (lv_at hl 1 rfl) ?_
    obtain ⟨r2, M4, hq3, hf⟩ := o_b2 hf
    refine mw_cVi (As := [.int p1]) (rest := []) hC hM (mcX12_bestFor V l M p1 r2 M4 hq3) (mw_kV hC q_1506 q_1508 q_78 q_120 q_1509 ⟨rfl, rfl⟩ kV_X12_bestFor ⟨Nat.le_of_ble_eq_true rfl, Nat.le_of_ble_eq_true rfl⟩) (Nat.le_of_ble_eq_true rfl) (eR_0 V) rfl rfl rfl (Nat.le_of_ble_eq_true rfl) hl.1 dX12_whom_16 (fun H locs hM _ => ?_)
    refine lv_istore_n (lv' := [(2, .int r2), (0, .ref (mvA V 0)), (1, .int p1)]) hC.1 hC.2.1 dX12_whom_19 rfl hl (Nat.le_of_ble_eq_true rfl) rfl (fun ls hl => ?_)
    refine lv_iload_n hC.1 hC.2.1 dX12_whom_20 rfl (lv_at hl 0 rfl) ?_
    refine lv_if_ge (tgt := 29) hC.1 hC.2.1 dX12_whom_21 (by decide) (fun hc5 => ?_) (fun hc5 => ?_)
    · have hf := o_t hc5 hf
      refine lv_iload_n hC.1 hC.2.1 dX12_whom_29 rfl (lv_at hl 0 rfl) ?_
      exact hret (o_r1 hf) (o_r2 hf hM) dX12_whom_30
    · have hf := o_f hc5 hf
      refine lv_bipush hC.1 hC.2.1 dX12_whom_24 cb_m3 ?_
      refine lv_goto (tgt := 30) hC.1 hC.2.1 dX12_whom_26 (by decide) ?_
      exact hret (o_r1 hf) (o_r2 hf hM) dX12_whom_30
  · have hf := o_t hc6 hf
    refine lv_iconst hC.1 hC.2.1 dX12_whom_12 ci_m1 ?_
    exact hret (o_r1 hf) (o_r2 hf hM) dX12_whom_13
set_option maxHeartbeats 4000000 in
set_option maxRecDepth 100000 in
theorem mcX12_apart (V : mV) (l : Launch) (M : mM) (p0 : Int32) (p1 : Int32) (r : Int32) (hf : fX12_apart p0 p1 = r) : IR V l yX12_apart cX12_apart 3 ({ frames := 1, cells := 0, slots := 0, locals := 30 } : Room) [.int p0, .int p1] M r M := by
  unfold fX12_apart at hf
  refine mw_enterI RX12 rfl (by decide +kernel) (Nat.le_of_ble_eq_true rfl) (fun {p e s m args below meth c} ls A Q hC hret hM hl => ?_)
  have hl : lv_has ls 3 [(0, .int p0), (1, .int p1)] := hl
  refine lv_iload_n hC.1 hC.2.1 dX12_apart_0 rfl (lv_at hl 0 rfl) ?_
  refine lv_iload_n hC.1 hC.2.1 dX12_apart_1 rfl (lv_at hl 1 rfl) ?_
  refine lv_isub hC.1 hC.2.1 dX12_apart_2 ?_
  refine mw_cSi (As := [.int (p0 - p1)]) (rest := []) hC hM (mcX12_around V l M (p0 - p1) _ rfl) (mw_kS hC q_1290 q_1291 q_120 q_1292 ⟨rfl, rfl⟩ kS_X12_around ⟨Nat.le_of_ble_eq_true rfl, Nat.le_of_ble_eq_true rfl⟩) rfl rfl (Nat.le_of_ble_eq_true rfl) hl.1 dX12_apart_3 (fun H locs hM _ => ?_)
  refine lv_istore_n (lv' := [(2, .int (fX12_around (p0 - p1))), (0, .int p0), (1, .int p1)]) hC.1 hC.2.1 dX12_apart_6 rfl hl (Nat.le_of_ble_eq_true rfl) rfl (fun ls hl => ?_)
  refine lv_iload_n hC.1 hC.2.1 dX12_apart_7 rfl (lv_at hl 0 rfl) ?_
  refine lv_bipush hC.1 hC.2.1 dX12_apart_8 cb_24 ?_
  refine lv_iload_n hC.1 hC.2.1 dX12_apart_10 rfl (lv_at hl 0 rfl) ?_
  refine lv_isub hC.1 hC.2.1 dX12_apart_11 ?_
  refine mw_min hC hl.1 q_1532 q_814 q_121 q_815 (Nat.le_of_ble_eq_true rfl) (Nat.le_of_ble_eq_true rfl) dX12_apart_12 ?_
  exact hret hf hM dX12_apart_15
set_option maxHeartbeats 4000000 in
set_option maxRecDepth 100000 in
theorem mcX12_liars (V : mV) (l : Launch) (M : mM) (r : Int32) (M' : mM) (hf : fX12_liars M = some (r, M')) : IR V l yX12_liars cX12_liars 9 ({ frames := 7, cells := 0, slots := 0, locals := 161 } : Room) [.ref (mvA V 0)] M r M' := by
  unfold fX12_liars at hf
  refine mw_enterI RX12 rfl (by decide +kernel) (Nat.le_of_ble_eq_true rfl) (fun {p e s m args below meth c} ls A Q hC hret hM hl => ?_)
  have hl : lv_has ls 9 [(0, .ref (mvA V 0))] := hl
  have hL9 : ∀ (n : Nat) (M : mM) (x1 : Int32) (x2 : Int32) (x3 : Int32) (H : Heap) (locs : List Loc) (ls : Array Slot), fX12_liars_L9 n M x1 x2 x3 = some (r, M') → PR V M A s H locs → lv_has ls 9 [(0, .ref (mvA V 0)), (1, .int x1), (2, .int x2), (3, .int x3)] → W p l e ({ frames := 7, cells := 0, slots := 0, locals := 161 } : Room) s m args below meth c H locs 0 0 Q (F0 m 9 ls []) := by
    intro n7
    induction n7 with
    | zero => intro M x1 x2 x3 H locs ls hf; cases hf
    | succ n7 ih7 =>
      intro M x1 x2 x3 H locs ls hf hM hl
      have hf : fX12_liars_L9_b (fX12_liars_L9 n7) M x1 x2 x3 = some (r, M') := hf
      unfold fX12_liars_L9_b at hf
      have hL67 : ∀ (n : Nat) (M : mM) (x1 : Int32) (x2 : Int32) (x3 : Int32) (x4 : Int32) (x5 : Int32) (x6 : Int32) (x7 : Int32) (x8 : Int32) (H : Heap) (locs : List Loc) (ls : Array Slot), fX12_liars_L67 (fX12_liars_L9 n7) n M x1 x2 x3 x4 x5 x6 x7 x8 = some (r, M') → PR V M A s H locs → lv_has ls 9 [(0, .ref (mvA V 0)), (1, .int x1), (2, .int x2), (3, .int x3), (4, .int x4), (5, .int x5), (6, .int x6), (7, .int x7), (8, .int x8)] → W p l e ({ frames := 7, cells := 0, slots := 0, locals := 161 } : Room) s m args below meth c H locs 0 0 Q (F0 m 67 ls []) := by
        intro n43
        induction n43 with
        | zero => intro M x1 x2 x3 x4 x5 x6 x7 x8 H locs ls hf; cases hf
        | succ n43 ih43 =>
          intro M x1 x2 x3 x4 x5 x6 x7 x8 H locs ls hf hM hl
          have hf : fX12_liars_L67_b (fX12_liars_L9 n7) (fX12_liars_L67 (fX12_liars_L9 n7) n43) M x1 x2 x3 x4 x5 x6 x7 x8 = some (r, M') := hf
          unfold fX12_liars_L67_b at hf
          refine lv_iload hC.1 hC.2.1 dX12_liars_67 (lv_at hl 8 rfl) ?_
          refine lv_iconst hC.1 hC.2.1 dX12_liars_69 ci_1 ?_
          refine lv_icmp_gt (tgt := 124) hC.1 hC.2.1 dX12_liars_70 (by decide) (fun hc27 => ?_) (fun hc27 => ?_)
          · have hf := o_t hc27 hf
            refine lv_iload_n hC.1 hC.2.1 dX12_liars_124 rfl (lv_at hl 2 rfl) ?_
            refine lv_iload hC.1 hC.2.1 dX12_liars_125 (lv_at hl 7 rfl) ?_
            refine lv_if_eq (tgt := 146) hC.1 hC.2.1 dX12_liars_127 (by decide) (fun hc19 => ?_) (fun hc19 => ?_)
            · have hf := o_t hc19 hf
              refine lv_iconst hC.1 hC.2.1 dX12_liars_146 ci_0 ?_
              refine lv_ior hC.1 hC.2.1 dX12_liars_147 ?_
              refine lv_istore_n (lv' := [(2, .int (x2 ||| 0)), (0, .ref (mvA V 0)), (1, .int x1), (3, .int x3), (4, .int x4), (5, .int x5), (6, .int x6), (7, .int x7), (8, .int x8)]) hC.1 hC.2.1 dX12_liars_148 rfl hl (Nat.le_of_ble_eq_true rfl) rfl (fun ls hl => ?_)
              refine lv_iinc (k := 3) (lv' := [(3, .int (x3 + 1)), (2, .int (x2 ||| 0)), (0, .ref (mvA V 0)), (1, .int x1), (4, .int x4), (5, .int x5), (6, .int x6), (7, .int x7), (8, .int x8)]) hC.1 hC.2.1 dX12_liars_149 hl rfl (inc_1 _) (Nat.le_of_ble_eq_true rfl) rfl (fun ls hl => ?_)
              refine lv_goto (tgt := 9) hC.1 hC.2.1 dX12_liars_152 (by decide) ?_
              exact ih7 _ _ _ _ _ _ _ hf hM (lv_sub hl [2, 3, 1, 0] rfl)
            · have hf := o_f hc19 hf
              refine lv_aload_n hC.1 hC.2.1 dX12_liars_130 rfl (lv_at hl 0 rfl) ?_
              refine lv_iload_n hC.1 hC.2.1 dX12_liars_131 rfl (lv_at hl 3 rfl) ?_
              refine lv_iconst hC.1 hC.2.1 dX12_liars_132 ci_4 ?_
              obtain ⟨r16, hq17, hf⟩ := o_b hf
              refine mw_cVi (As := [.int x3, .int 4]) (rest := [.int x2]) hC hM (mcX12_its V l M x3 4 r16 hq17) (mw_kV hC q_1282 q_1284 q_46 q_120 q_1285 ⟨rfl, rfl⟩ kV_X12_its ⟨Nat.le_of_ble_eq_true rfl, Nat.le_of_ble_eq_true rfl⟩) (Nat.le_of_ble_eq_true rfl) (eR_0 V) rfl rfl rfl (Nat.le_of_ble_eq_true rfl) hl.1 dX12_liars_133 (fun H locs hM _ => ?_)
              refine lv_iconst hC.1 hC.2.1 dX12_liars_136 ci_1 ?_
              refine lv_icmp_ne (tgt := 146) hC.1 hC.2.1 dX12_liars_137 (by decide) (fun hc18 => ?_) (fun hc18 => ?_)
              · have hf := o_f hc18 hf
                refine lv_iconst hC.1 hC.2.1 dX12_liars_146 ci_0 ?_
                refine lv_ior hC.1 hC.2.1 dX12_liars_147 ?_
                refine lv_istore_n (lv' := [(2, .int (x2 ||| 0)), (0, .ref (mvA V 0)), (1, .int x1), (3, .int x3), (4, .int x4), (5, .int x5), (6, .int x6), (7, .int x7), (8, .int x8)]) hC.1 hC.2.1 dX12_liars_148 rfl hl (Nat.le_of_ble_eq_true rfl) rfl (fun ls hl => ?_)
                refine lv_iinc (k := 3) (lv' := [(3, .int (x3 + 1)), (2, .int (x2 ||| 0)), (0, .ref (mvA V 0)), (1, .int x1), (4, .int x4), (5, .int x5), (6, .int x6), (7, .int x7), (8, .int x8)]) hC.1 hC.2.1 dX12_liars_149 hl rfl (inc_1 _) (Nat.le_of_ble_eq_true rfl) rfl (fun ls hl => ?_)
                refine lv_goto (tgt := 9) hC.1 hC.2.1 dX12_liars_152 (by decide) ?_
                exact ih7 _ _ _ _ _ _ _ hf hM (lv_sub hl [2, 3, 1, 0] rfl)
              · have hf := o_t hc18 hf
                refine lv_iconst hC.1 hC.2.1 dX12_liars_140 ci_1 ?_
                refine lv_iload_n hC.1 hC.2.1 dX12_liars_141 rfl (lv_at hl 3 rfl) ?_
                refine lv_ishl hC.1 hC.2.1 dX12_liars_142 ?_
                refine lv_goto (tgt := 147) hC.1 hC.2.1 dX12_liars_143 (by decide) ?_
                refine lv_ior hC.1 hC.2.1 dX12_liars_147 ?_
                refine lv_istore_n (lv' := [(2, .int (x2 ||| (1 <<< (x3 &&& 31)))), (0, .ref (mvA V 0)), (1, .int x1), (3, .int x3), (4, .int x4), (5, .int x5), (6, .int x6), (7, .int x7), (8, .int x8)]) hC.1 hC.2.1 dX12_liars_148 rfl hl (Nat.le_of_ble_eq_true rfl) rfl (fun ls hl => ?_)
                refine lv_iinc (k := 3) (lv' := [(3, .int (x3 + 1)), (2, .int (x2 ||| (1 <<< (x3 &&& 31)))), (0, .ref (mvA V 0)), (1, .int x1), (4, .int x4), (5, .int x5), (6, .int x6), (7, .int x7), (8, .int x8)]) hC.1 hC.2.1 dX12_liars_149 hl rfl (inc_1 _) (Nat.le_of_ble_eq_true rfl) rfl (fun ls hl => ?_)
                refine lv_goto (tgt := 9) hC.1 hC.2.1 dX12_liars_152 (by decide) ?_
                exact ih7 _ _ _ _ _ _ _ hf hM (lv_sub hl [2, 3, 1, 0] rfl)
          · have hf := o_f hc27 hf
            refine lv_iload hC.1 hC.2.1 dX12_liars_73 (lv_at hl 7 rfl) ?_
            refine lv_if_ne (tgt := 111) hC.1 hC.2.1 dX12_liars_75 (by decide) (fun hc26 => ?_) (fun hc26 => ?_)
            · have hf := o_f hc26 hf
              refine lv_iconst hC.1 hC.2.1 dX12_liars_111 ci_1 ?_
              refine lv_goto (tgt := 116) hC.1 hC.2.1 dX12_liars_112 (by decide) ?_
              refine lv_istore (lv' := [(7, .int 1), (0, .ref (mvA V 0)), (1, .int x1), (2, .int x2), (3, .int x3), (4, .int x4), (5, .int x5), (6, .int x6), (8, .int x8)]) hC.1 hC.2.1 dX12_liars_116 hl (Nat.le_of_ble_eq_true rfl) rfl (fun ls hl => ?_)
              refine lv_iinc (k := 8) (lv' := [(8, .int (x8 + 1)), (7, .int 1), (0, .ref (mvA V 0)), (1, .int x1), (2, .int x2), (3, .int x3), (4, .int x4), (5, .int x5), (6, .int x6)]) hC.1 hC.2.1 dX12_liars_118 hl rfl (inc_1 _) (Nat.le_of_ble_eq_true rfl) rfl (fun ls hl => ?_)
              refine lv_goto (tgt := 67) hC.1 hC.2.1 dX12_liars_121 (by decide) ?_
              exact ih43 _ _ _ _ _ _ _ _ _ _ _ _ hf hM (lv_sub hl [2, 3, 4, 5, 6, 7, 8, 1, 0] rfl)
            · have hf := o_t hc26 hf
              refine lv_aload_n hC.1 hC.2.1 dX12_liars_78 rfl (lv_at hl 0 rfl) ?_
              refine mw_get (v := .ref (mvA V 1)) hC hM 0 (Nat.le_of_ble_eq_true rfl) (eR_0 V) inW12 rfl 0 (by decide) q_1146 (fun _ h9 => h9) rfl dX12_liars_79 ?_
              refine lv_iconst hC.1 hC.2.1 dX12_liars_82 ci_1 ?_
              obtain ⟨hg20, hf⟩ := o_g hf
              refine mw_iald hC hM 1 0 (Nat.le_of_ble_eq_true rfl) (eR_1 V) rfl hg20 dX12_liars_83 ?_
              refine lv_aload_n hC.1 hC.2.1 dX12_liars_84 rfl (lv_at hl 0 rfl) ?_
              refine lv_iload hC.1 hC.2.1 dX12_liars_85 (lv_at hl 5 rfl) ?_
              refine lv_iload hC.1 hC.2.1 dX12_liars_87 (lv_at hl 8 rfl) ?_
              refine lv_iload hC.1 hC.2.1 dX12_liars_89 (lv_at hl 4 rfl) ?_
              refine lv_imul hC.1 hC.2.1 dX12_liars_91 ?_
              refine lv_iadd hC.1 hC.2.1 dX12_liars_92 ?_
              obtain ⟨r21, hq22, hf⟩ := o_b hf
              refine mw_cVi (As := [.int (x5 + (x8 * x4))]) (rest := [.int (M 1 (Int32.toNatClampNeg 1))]) hC hM (mcX12_moveBy V l M (x5 + (x8 * x4)) r21 hq22) (mw_kV hC q_1472 q_1474 q_74 q_120 q_1475 ⟨rfl, rfl⟩ kV_X12_moveBy ⟨Nat.le_of_ble_eq_true rfl, Nat.le_of_ble_eq_true rfl⟩) (Nat.le_of_ble_eq_true rfl) (eR_0 V) rfl rfl rfl (Nat.le_of_ble_eq_true rfl) hl.1 dX12_liars_93 (fun H locs hM _ => ?_)
              refine lv_iadd hC.1 hC.2.1 dX12_liars_96 ?_
              refine lv_aload_n hC.1 hC.2.1 dX12_liars_97 rfl (lv_at hl 0 rfl) ?_
              refine lv_iload_n hC.1 hC.2.1 dX12_liars_98 rfl (lv_at hl 3 rfl) ?_
              refine lv_iconst hC.1 hC.2.1 dX12_liars_99 ci_1 ?_
              obtain ⟨r23, hq24, hf⟩ := o_b hf
              refine mw_cVi (As := [.int x3, .int 1]) (rest := [.int ((M 1 (Int32.toNatClampNeg 1)) + r21)]) hC hM (mcX12_its V l M x3 1 r23 hq24) (mw_kV hC q_1282 q_1284 q_46 q_120 q_1285 ⟨rfl, rfl⟩ kV_X12_its ⟨Nat.le_of_ble_eq_true rfl, Nat.le_of_ble_eq_true rfl⟩) (Nat.le_of_ble_eq_true rfl) (eR_0 V) rfl rfl rfl (Nat.le_of_ble_eq_true rfl) hl.1 dX12_liars_100 (fun H locs hM _ => ?_)
              refine mw_cSi (As := [.int ((M 1 (Int32.toNatClampNeg 1)) + r21), .int r23]) (rest := []) hC hM (mcX12_apart V l M ((M 1 (Int32.toNatClampNeg 1)) + r21) r23 _ rfl) (mw_kS hC q_1529 q_1530 q_120 q_1531 ⟨rfl, rfl⟩ kS_X12_apart ⟨Nat.le_of_ble_eq_true rfl, Nat.le_of_ble_eq_true rfl⟩) rfl rfl (Nat.le_of_ble_eq_true rfl) hl.1 dX12_liars_103 (fun H locs hM _ => ?_)
              refine lv_iload hC.1 hC.2.1 dX12_liars_106 (lv_at hl 6 rfl) ?_
              refine lv_icmp_ge (tgt := 115) hC.1 hC.2.1 dX12_liars_108 (by decide) (fun hc25 => ?_) (fun hc25 => ?_)
              · have hf := o_t hc25 hf
                refine lv_iconst hC.1 hC.2.1 dX12_liars_115 ci_0 ?_
                refine lv_istore (lv' := [(7, .int 0), (0, .ref (mvA V 0)), (1, .int x1), (2, .int x2), (3, .int x3), (4, .int x4), (5, .int x5), (6, .int x6), (8, .int x8)]) hC.1 hC.2.1 dX12_liars_116 hl (Nat.le_of_ble_eq_true rfl) rfl (fun ls hl => ?_)
                refine lv_iinc (k := 8) (lv' := [(8, .int (x8 + 1)), (7, .int 0), (0, .ref (mvA V 0)), (1, .int x1), (2, .int x2), (3, .int x3), (4, .int x4), (5, .int x5), (6, .int x6)]) hC.1 hC.2.1 dX12_liars_118 hl rfl (inc_1 _) (Nat.le_of_ble_eq_true rfl) rfl (fun ls hl => ?_)
                refine lv_goto (tgt := 67) hC.1 hC.2.1 dX12_liars_121 (by decide) ?_
                exact ih43 _ _ _ _ _ _ _ _ _ _ _ _ hf hM (lv_sub hl [2, 3, 4, 5, 6, 7, 8, 1, 0] rfl)
              · have hf := o_f hc25 hf
                refine lv_iconst hC.1 hC.2.1 dX12_liars_111 ci_1 ?_
                refine lv_goto (tgt := 116) hC.1 hC.2.1 dX12_liars_112 (by decide) ?_
                refine lv_istore (lv' := [(7, .int 1), (0, .ref (mvA V 0)), (1, .int x1), (2, .int x2), (3, .int x3), (4, .int x4), (5, .int x5), (6, .int x6), (8, .int x8)]) hC.1 hC.2.1 dX12_liars_116 hl (Nat.le_of_ble_eq_true rfl) rfl (fun ls hl => ?_)
                refine lv_iinc (k := 8) (lv' := [(8, .int (x8 + 1)), (7, .int 1), (0, .ref (mvA V 0)), (1, .int x1), (2, .int x2), (3, .int x3), (4, .int x4), (5, .int x5), (6, .int x6)]) hC.1 hC.2.1 dX12_liars_118 hl rfl (inc_1 _) (Nat.le_of_ble_eq_true rfl) rfl (fun ls hl => ?_)
                refine lv_goto (tgt := 67) hC.1 hC.2.1 dX12_liars_121 (by decide) ?_
                exact ih43 _ _ _ _ _ _ _ _ _ _ _ _ hf hM (lv_sub hl [2, 3, 4, 5, 6, 7, 8, 1, 0] rfl)
      refine lv_iload_n hC.1 hC.2.1 dX12_liars_9 rfl (lv_at hl 3 rfl) ?_
      refine lv_aload_n hC.1 hC.2.1 dX12_liars_10 rfl (lv_at hl 0 rfl) ?_
      refine mw_get (v := .ref (mvA V 1)) hC hM 0 (Nat.le_of_ble_eq_true rfl) (eR_0 V) inW12 rfl 0 (by decide) q_1146 (fun _ h9 => h9) rfl dX12_liars_11 ?_
      refine lv_iconst hC.1 hC.2.1 dX12_liars_14 ci_0 ?_
      obtain ⟨hg4, hf⟩ := o_g hf
      refine mw_iald hC hM 1 0 (Nat.le_of_ble_eq_true rfl) (eR_1 V) rfl hg4 dX12_liars_15 ?_
      refine lv_icmp_ge (tgt := 155) hC.1 hC.2.1 dX12_liars_16 (by decide) (fun hc15 => ?_) (fun hc15 => ?_)
      · have hf := o_t hc15 hf
        refine lv_iload_n hC.1 hC.2.1 dX12_liars_155 rfl (lv_at hl 2 rfl) ?_
        exact hret (o_r1 hf) (o_r2 hf hM) dX12_liars_156
      · have hf := o_f hc15 hf
        refine lv_aload_n hC.1 hC.2.1 dX12_liars_19 rfl (lv_at hl 0 rfl) ?_
        refine lv_iload_n hC.1 hC.2.1 dX12_liars_20 rfl (lv_at hl 3 rfl) ?_
        obtain ⟨r5, M7, hq6, hf⟩ := o_b2 hf
        refine mw_cVi (As := [.int x3]) (rest := []) hC hM (mcX12_powerOf V l M x3 r5 M7 hq6) (mw_kV hC q_1293 q_1295 q_48 q_120 q_1296 ⟨rfl, rfl⟩ kV_X12_powerOf ⟨Nat.le_of_ble_eq_true rfl, Nat.le_of_ble_eq_true rfl⟩) (Nat.le_of_ble_eq_true rfl) (eR_0 V) rfl rfl rfl (Nat.le_of_ble_eq_true rfl) hl.1 dX12_liars_21 (fun H locs hM _ => ?_)
        refine lv_istore (lv' := [(4, .int r5), (0, .ref (mvA V 0)), (1, .int x1), (2, .int x2), (3, .int x3)]) hC.1 hC.2.1 dX12_liars_24 hl (Nat.le_of_ble_eq_true rfl) rfl (fun ls hl => ?_)
        refine lv_iload_n hC.1 hC.2.1 dX12_liars_26 rfl (lv_at hl 2 rfl) ?_
        refine lv_aload_n hC.1 hC.2.1 dX12_liars_27 rfl (lv_at hl 1 rfl) ?_
        refine lv_iload_n hC.1 hC.2.1 dX12_liars_28 rfl (lv_at hl 4 rfl) ?_
        obtain ⟨r8, hq9, hf⟩ := o_b hf
        refine mw_cVi (As := [.int x3]) (rest := [.int x1]) hC hM (mcX12_voteOf V l M7 x3 r8 hq9) (mw_kV hC q_1286 q_1288 q_47 q_120 q_1289 ⟨rfl, rfl⟩ kV_X12_voteOf ⟨Nat.le_of_ble_eq_true rfl, Nat.le_of_ble_eq_true rfl⟩) (Nat.le_of_ble_eq_true rfl) (eR_0 V) rfl rfl rfl (Nat.le_of_ble_eq_true rfl) hl.1 dX12_liars_29 (fun H locs hM _ => ?_)
        refine lv_iload hC.1 hC.2.1 dX12_liars_32 (lv_at hl 0 rfl) ?_
        refine lv_imul hC.1 hC.2.1 dX12_liars_34 ?_
        refine lv_isub hC.1 hC.2.1 dX12_liars_35 ?_
        refine lv_istore (lv' := [(5, .int (x1 - (r8 * r5))), (4, .int r5), (0, .ref (mvA V 0)), (1, .int x1), (2, .int x2), (3, .int x3)]) hC.1 hC.2.1 dX12_liars_36 hl (Nat.le_of_ble_eq_true rfl) rfl (fun ls hl => ?_)
        refine lv_aload_n hC.1 hC.2.1 dX12_liars_38 rfl (lv_at hl 2 rfl) ?_
        refine mw_get (v := .ref (mvA V 1)) hC hM 0 (Nat.le_of_ble_eq_true rfl) (eR_0 V) inW12 rfl 0 (by decide) q_1146 (fun _ h9 => h9) rfl dX12_liars_39 ?_
        refine lv_iconst hC.1 hC.2.1 dX12_liars_42 ci_1 ?_
        obtain ⟨hg10, hf⟩ := o_g hf
        refine mw_iald hC hM 1 0 (Nat.le_of_ble_eq_true rfl) (eR_1 V) rfl hg10 dX12_liars_43 ?_
        refine lv_aload_n hC.1 hC.2.1 dX12_liars_44 rfl (lv_at hl 2 rfl) ?_
        refine lv_iload_n hC.1 hC.2.1 dX12_liars_45 rfl (lv_at hl 3 rfl) ?_
        obtain ⟨r11, hq12, hf⟩ := o_b hf
        refine mw_cVi (As := [.int x1]) (rest := [.int (M7 1 (Int32.toNatClampNeg 1))]) hC hM (mcX12_moveBy V l M7 x1 r11 hq12) (mw_kV hC q_1472 q_1474 q_74 q_120 q_1475 ⟨rfl, rfl⟩ kV_X12_moveBy ⟨Nat.le_of_ble_eq_true rfl, Nat.le_of_ble_eq_true rfl⟩) (Nat.le_of_ble_eq_true rfl) (eR_0 V) rfl rfl rfl (Nat.le_of_ble_eq_true rfl) hl.1 dX12_liars_46 (fun H locs hM _ => ?_)
        refine lv_iadd hC.1 hC.2.1 dX12_liars_49 ?_
        refine lv_aload_n hC.1 hC.2.1 dX12_liars_50 rfl (lv_at hl 2 rfl) ?_
        refine lv_iload_n hC.1 hC.2.1 dX12_liars_51 rfl (lv_at hl 5 rfl) ?_
        refine lv_iconst hC.1 hC.2.1 dX12_liars_52 ci_1 ?_
        obtain ⟨r13, hq14, hf⟩ := o_b hf
        refine mw_cVi (As := [.int x3, .int 1]) (rest := [.int ((M7 1 (Int32.toNatClampNeg 1)) + r11)]) hC hM (mcX12_its V l M7 x3 1 r13 hq14) (mw_kV hC q_1282 q_1284 q_46 q_120 q_1285 ⟨rfl, rfl⟩ kV_X12_its ⟨Nat.le_of_ble_eq_true rfl, Nat.le_of_ble_eq_true rfl⟩) (Nat.le_of_ble_eq_true rfl) (eR_0 V) rfl rfl rfl (Nat.le_of_ble_eq_true rfl) hl.1 dX12_liars_53 (fun H locs hM _ => ?_)
        refine mw_cSi (As := [.int ((M7 1 (Int32.toNatClampNeg 1)) + r11), .int r13]) (rest := []) hC hM (mcX12_apart V l M7 ((M7 1 (Int32.toNatClampNeg 1)) + r11) r13 _ rfl) (mw_kS hC q_1529 q_1530 q_120 q_1531 ⟨rfl, rfl⟩ kS_X12_apart ⟨Nat.le_of_ble_eq_true rfl, Nat.le_of_ble_eq_true rfl⟩) rfl rfl (Nat.le_of_ble_eq_true rfl) hl.1 dX12_liars_56 (fun H locs hM _ => ?_)
        refine lv_istore (lv' := [(6, .int (fX12_apart ((M7 1 (Int32.toNatClampNeg 1)) + r11) r13)), (5, .int (x1 - (r8 * r5))), (4, .int r5), (0, .ref (mvA V 0)), (1, .int x1), (2, .int x2), (3, .int x3)]) hC.1 hC.2.1 dX12_liars_59 hl (Nat.le_of_ble_eq_true rfl) rfl (fun ls hl => ?_)
        refine lv_iconst hC.1 hC.2.1 dX12_liars_61 ci_0 ?_
        refine lv_istore (lv' := [(7, .int 0), (6, .int (fX12_apart ((M7 1 (Int32.toNatClampNeg 1)) + r11) r13)), (5, .int (x1 - (r8 * r5))), (4, .int r5), (0, .ref (mvA V 0)), (1, .int x1), (2, .int x2), (3, .int x3)]) hC.1 hC.2.1 dX12_liars_62 hl (Nat.le_of_ble_eq_true rfl) rfl (fun ls hl => ?_)
        refine lv_iconst hC.1 hC.2.1 dX12_liars_64 ci_m1 ?_
        refine lv_istore (lv' := [(8, .int (-1)), (7, .int 0), (6, .int (fX12_apart ((M7 1 (Int32.toNatClampNeg 1)) + r11) r13)), (5, .int (x1 - (r8 * r5))), (4, .int r5), (0, .ref (mvA V 0)), (1, .int x1), (2, .int x2), (3, .int x3)]) hC.1 hC.2.1 dX12_liars_65 hl (Nat.le_of_ble_eq_true rfl) rfl (fun ls hl => ?_)
        exact hL67 _ _ _ _ _ _ _ _ _ _ _ _ _ hf hM (lv_sub hl [5, 6, 7, 8, 4, 3, 2, 1, 0] rfl)
  refine lv_aload_n hC.1 hC.2.1 dX12_liars_0 rfl (lv_at hl 0 rfl) ?_
  obtain ⟨r1, M3, hq2, hf⟩ := o_b2 hf
  refine mw_cVi (As := []) (rest := []) hC hM (mcX12_sumNow V l M r1 M3 hq2) (mw_kV hC q_1460 q_1462 q_72 q_120 q_1463 ⟨rfl, rfl⟩ kV_X12_sumNow ⟨Nat.le_of_ble_eq_true rfl, Nat.le_of_ble_eq_true rfl⟩) (Nat.le_of_ble_eq_true rfl) (eR_0 V) rfl rfl rfl (Nat.le_of_ble_eq_true rfl) hl.1 dX12_liars_1 (fun H locs hM _ => ?_)
  refine lv_istore_n (lv' := [(1, .int r1), (0, .ref (mvA V 0))]) hC.1 hC.2.1 dX12_liars_4 rfl hl (Nat.le_of_ble_eq_true rfl) rfl (fun ls hl => ?_)
  refine lv_iconst hC.1 hC.2.1 dX12_liars_5 ci_0 ?_
  refine lv_istore_n (lv' := [(2, .int 0), (1, .int r1), (0, .ref (mvA V 0))]) hC.1 hC.2.1 dX12_liars_6 rfl hl (Nat.le_of_ble_eq_true rfl) rfl (fun ls hl => ?_)
  refine lv_iconst hC.1 hC.2.1 dX12_liars_7 ci_0 ?_
  refine lv_istore_n (lv' := [(3, .int 0), (2, .int 0), (1, .int r1), (0, .ref (mvA V 0))]) hC.1 hC.2.1 dX12_liars_8 rfl hl (Nat.le_of_ble_eq_true rfl) rfl (fun ls hl => ?_)
  exact hL9 _ _ _ _ _ _ _ _ hf hM (lv_sub hl [3, 2, 1, 0] rfl)
