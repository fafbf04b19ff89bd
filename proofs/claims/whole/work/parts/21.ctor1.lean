set_option maxHeartbeats 4000000 in
set_option maxRecDepth 100000 in
theorem kX10_init (V : mV) (l : Launch) (h0 : Nat) : nw_Mv (mvD V) vwCl (mvY V) ssL (mvK V) (mvW V) l yX10_init cX10_init 1 ({ frames := 1, cells := 1, slots := 30, locals := 12 } : Room) [.ref h0] [(h0, .inr (10, [.int 0, .int 0, .null]))] (fun w => ∃ (z1 : Nat), w = [(h0, .inr (10, [.int 0, .int 0, .ref z1])), (z1, .inl (mvI V, 30, .inl (fun _ => 0)))]) 1 30 := by
  refine nw_enter RX10 rfl (by decide +kernel) rfl (Nat.le_of_ble_eq_true rfl) (fun {p e s m args below meth c} ls A Q hC hin hret hP hl => ?_)
  have hl : lv_has ls 1 [(0, .ref h0)] := hl
  have hP : nw_P (mvD V) vwCl [(h0, .inr (10, [.int 0, .int 0, .null]))] A s.heap s.heap [] := hP
  refine lv_aload_n hC.1 hC.2.1 dX10_init_0 rfl (lv_at hl 0 rfl) ?_
  refine nw_obj hC hl.1 q_141 q_134 q_135 dX10_init_1 (Nat.le_of_ble_eq_true rfl) (Nat.le_of_ble_eq_true rfl) ?_
  refine lv_aload_n hC.1 hC.2.1 dX10_init_4 rfl (lv_at hl 0 rfl) ?_
  refine lv_bipush hC.1 hC.2.1 dX10_init_5 cb_30 ?_
  refine nw_newa (n' := 30) hC hP 0 rfl (by decide) rfl (Nat.le_of_ble_eq_true rfl) (Nat.le_of_ble_eq_true rfl) (Nat.le_of_ble_eq_true rfl) dX10_init_7 (fun z1 H hP => ?_)
  have hP : nw_P (mvD V) vwCl [(h0, .inr (10, [.int 0, .int 0, .null])), (z1, .inl (mvI V, 30, .inl (fun _ => 0)))] A s.heap H _ := hP
  refine nw_putF hC hP hin 0 rfl inW10 tyX10 tyX10_ok nmX10 rfl 2 (by decide) q_147 (fun _ h9 => h9) rfl rfl (by rfl) (by rfl) (Nat.le_of_ble_eq_true rfl) dX10_init_9 (fun H locs hP => ?_)
  have hP : nw_P (mvD V) vwCl [(h0, .inr (10, [.int 0, .int 0, .ref z1])), (z1, .inl (mvI V, 30, .inl (fun _ => 0)))] A s.heap H _ := hP
  exact hret (w := [(h0, .inr (10, [.int 0, .int 0, .ref z1])), (z1, .inl (mvI V, 30, .inl (fun _ => 0)))]) ⟨z1, rfl⟩ hP dX10_init_12
set_option maxHeartbeats 4000000 in
set_option maxRecDepth 100000 in
theorem kX6_init (V : mV) (l : Launch) (h0 : Nat) : nw_Mv (mvD V) vwCl (mvY V) ssL (mvK V) (mvW V) l yX6_init cX6_init 1 ({ frames := 1, cells := 8, slots := 837, locals := 12 } : Room) [.ref h0] [(h0, .inr (6, [.int 0, .null, .null, .null, .null, .int 0, .null, .null, .null, .int 0, .null]))] (fun w => ∃ (z1 z2 z3 z4 z5 z6 z7 z8 : Nat), w = [(h0, .inr (6, [.int 0, .ref z1, .ref z2, .ref z3, .ref z4, .int 0, .ref z5, .ref z6, .ref z7, .int 5, .ref z8])), (z1, .inl (mvI V, 8, .inl (fun _ => 0))), (z2, .inl (mvI V, 8, .inl (fun _ => 0))), (z3, .inl (mvI V, 8, .inl (fun _ => 0))), (z4, .inl (mvI V, 8, .inl (fun _ => 0))), (z5, .inl (mvI V, 200, .inl (fun _ => 0))), (z6, .inl (mvI V, 200, .inl (fun _ => 0))), (z7, .inl (mvI V, 200, .inl (fun _ => 0))), (z8, .inl (mvI V, 205, .inl (fun _ => 0)))]) 8 837 := by
  refine nw_enter RX6 rfl (by decide +kernel) rfl (Nat.le_of_ble_eq_true rfl) (fun {p e s m args below meth c} ls A Q hC hin hret hP hl => ?_)
  have hl : lv_has ls 1 [(0, .ref h0)] := hl
  have hP : nw_P (mvD V) vwCl [(h0, .inr (6, [.int 0, .null, .null, .null, .null, .int 0, .null, .null, .null, .int 0, .null]))] A s.heap s.heap [] := hP
  refine lv_aload_n hC.1 hC.2.1 dX6_init_0 rfl (lv_at hl 0 rfl) ?_
  refine nw_obj hC hl.1 q_168 q_134 q_135 dX6_init_1 (Nat.le_of_ble_eq_true rfl) (Nat.le_of_ble_eq_true rfl) ?_
  refine lv_aload_n hC.1 hC.2.1 dX6_init_4 rfl (lv_at hl 0 rfl) ?_
  refine lv_bipush hC.1 hC.2.1 dX6_init_5 cb_8 ?_
  refine nw_newa (n' := 8) hC hP 0 rfl (by decide) rfl (Nat.le_of_ble_eq_true rfl) (Nat.le_of_ble_eq_true rfl) (Nat.le_of_ble_eq_true rfl) dX6_init_7 (fun z1 H hP => ?_)
  have hP : nw_P (mvD V) vwCl [(h0, .inr (6, [.int 0, .null, .null, .null, .null, .int 0, .null, .null, .null, .int 0, .null])), (z1, .inl (mvI V, 8, .inl (fun _ => 0)))] A s.heap H _ := hP
  refine nw_putF hC hP hin 0 rfl inW6 tyX6 tyX6_ok nmX6 rfl 1 (by decide) q_171 (fun _ h9 => h9) rfl rfl (by rfl) (by rfl) (Nat.le_of_ble_eq_true rfl) dX6_init_9 (fun H locs hP => ?_)
  have hP : nw_P (mvD V) vwCl [(h0, .inr (6, [.int 0, .ref z1, .null, .null, .null, .int 0, .null, .null, .null, .int 0, .null])), (z1, .inl (mvI V, 8, .inl (fun _ => 0)))] A s.heap H _ := hP
  refine lv_aload_n hC.1 hC.2.1 dX6_init_12 rfl (lv_at hl 0 rfl) ?_
  refine lv_bipush hC.1 hC.2.1 dX6_init_13 cb_8 ?_
  refine nw_newa (n' := 8) hC hP 0 rfl (by decide) rfl (Nat.le_of_ble_eq_true rfl) (Nat.le_of_ble_eq_true rfl) (Nat.le_of_ble_eq_true rfl) dX6_init_15 (fun z2 H hP => ?_)
  have hP : nw_P (mvD V) vwCl [(h0, .inr (6, [.int 0, .ref z1, .null, .null, .null, .int 0, .null, .null, .null, .int 0, .null])), (z1, .inl (mvI V, 8, .inl (fun _ => 0))), (z2, .inl (mvI V, 8, .inl (fun _ => 0)))] A s.heap H _ := hP
  refine nw_putF hC hP hin 0 rfl inW6 tyX6 tyX6_ok nmX6 rfl 2 (by decide) q_172 (fun _ h9 => h9) rfl rfl (by rfl) (by rfl) (Nat.le_of_ble_eq_true rfl) dX6_init_17 (fun H locs hP => ?_)
  have hP : nw_P (mvD V) vwCl [(h0, .inr (6, [.int 0, .ref z1, .ref z2, .null, .null, .int 0, .null, .null, .null, .int 0, .null])), (z1, .inl (mvI V, 8, .inl (fun _ => 0))), (z2, .inl (mvI V, 8, .inl (fun _ => 0)))] A s.heap H _ := hP
  refine lv_aload_n hC.1 hC.2.1 dX6_init_20 rfl (lv_at hl 0 rfl) ?_
  refine lv_bipush hC.1 hC.2.1 dX6_init_21 cb_8 ?_
  refine nw_newa (n' := 8) hC hP 0 rfl (by decide) rfl (Nat.le_of_ble_eq_true rfl) (Nat.le_of_ble_eq_true rfl) (Nat.le_of_ble_eq_true rfl) dX6_init_23 (fun z3 H hP => ?_)
  have hP : nw_P (mvD V) vwCl [(h0, .inr (6, [.int 0, .ref z1, .ref z2, .null, .null, .int 0, .null, .null, .null, .int 0, .null])), (z1, .inl (mvI V, 8, .inl (fun _ => 0))), (z2, .inl (mvI V, 8, .inl (fun _ => 0))), (z3, .inl (mvI V, 8, .inl (fun _ => 0)))] A s.heap H _ := hP
  refine nw_putF hC hP hin 0 rfl inW6 tyX6 tyX6_ok nmX6 rfl 3 (by decide) q_173 (fun _ h9 => h9) rfl rfl (by rfl) (by rfl) (Nat.le_of_ble_eq_true rfl) dX6_init_25 (fun H locs hP => ?_)
  have hP : nw_P (mvD V) vwCl [(h0, .inr (6, [.int 0, .ref z1, .ref z2, .ref z3, .null, .int 0, .null, .null, .null, .int 0, .null])), (z1, .inl (mvI V, 8, .inl (fun _ => 0))), (z2, .inl (mvI V, 8, .inl (fun _ => 0))), (z3, .inl (mvI V, 8, .inl (fun _ => 0)))] A s.heap H _ := hP
  refine lv_aload_n hC.1 hC.2.1 dX6_init_28 rfl (lv_at hl 0 rfl) ?_
  refine lv_bipush hC.1 hC.2.1 dX6_init_29 cb_8 ?_
  refine nw_newa (n' := 8) hC hP 0 rfl (by decide) rfl (Nat.le_of_ble_eq_true rfl) (Nat.le_of_ble_eq_true rfl) (Nat.le_of_ble_eq_true rfl) dX6_init_31 (fun z4 H hP => ?_)
  have hP : nw_P (mvD V) vwCl [(h0, .inr (6, [.int 0, .ref z1, .ref z2, .ref z3, .null, .int 0, .null, .null, .null, .int 0, .null])), (z1, .inl (mvI V, 8, .inl (fun _ => 0))), (z2, .inl (mvI V, 8, .inl (fun _ => 0))), (z3, .inl (mvI V, 8, .inl (fun _ => 0))), (z4, .inl (mvI V, 8, .inl (fun _ => 0)))] A s.heap H _ := hP
  refine nw_putF hC hP hin 0 rfl inW6 tyX6 tyX6_ok nmX6 rfl 4 (by decide) q_174 (fun _ h9 => h9) rfl rfl (by rfl) (by rfl) (Nat.le_of_ble_eq_true rfl) dX6_init_33 (fun H locs hP => ?_)
  have hP : nw_P (mvD V) vwCl [(h0, .inr (6, [.int 0, .ref z1, .ref z2, .ref z3, .ref z4, .int 0, .null, .null, .null, .int 0, .null])), (z1, .inl (mvI V, 8, .inl (fun _ => 0))), (z2, .inl (mvI V, 8, .inl (fun _ => 0))), (z3, .inl (mvI V, 8, .inl (fun _ => 0))), (z4, .inl (mvI V, 8, .inl (fun _ => 0)))] A s.heap H _ := hP
  refine lv_aload_n hC.1 hC.2.1 dX6_init_36 rfl (lv_at hl 0 rfl) ?_
  refine lv_sipush hC.1 hC.2.1 dX6_init_37 cs_200 ?_
  refine nw_newa (n' := 200) hC hP 0 rfl (by decide) rfl (Nat.le_of_ble_eq_true rfl) (Nat.le_of_ble_eq_true rfl) (Nat.le_of_ble_eq_true rfl) dX6_init_40 (fun z5 H hP => ?_)
  have hP : nw_P (mvD V) vwCl [(h0, .inr (6, [.int 0, .ref z1, .ref z2, .ref z3, .ref z4, .int 0, .null, .null, .null, .int 0, .null])), (z1, .inl (mvI V, 8, .inl (fun _ => 0))), (z2, .inl (mvI V, 8, .inl (fun _ => 0))), (z3, .inl (mvI V, 8, .inl (fun _ => 0))), (z4, .inl (mvI V, 8, .inl (fun _ => 0))), (z5, .inl (mvI V, 200, .inl (fun _ => 0)))] A s.heap H _ := hP
  refine nw_putF hC hP hin 0 rfl inW6 tyX6 tyX6_ok nmX6 rfl 6 (by decide) q_176 (fun _ h9 => h9) rfl rfl (by rfl) (by rfl) (Nat.le_of_ble_eq_true rfl) dX6_init_42 (fun H locs hP => ?_)
  have hP : nw_P (mvD V) vwCl [(h0, .inr (6, [.int 0, .ref z1, .ref z2, .ref z3, .ref z4, .int 0, .ref z5, .null, .null, .int 0, .null])), (z1, .inl (mvI V, 8, .inl (fun _ => 0))), (z2, .inl (mvI V, 8, .inl (fun _ => 0))), (z3, .inl (mvI V, 8, .inl (fun _ => 0))), (z4, .inl (mvI V, 8, .inl (fun _ => 0))), (z5, .inl (mvI V, 200, .inl (fun _ => 0)))] A s.heap H _ := hP
  refine lv_aload_n hC.1 hC.2.1 dX6_init_45 rfl (lv_at hl 0 rfl) ?_
  refine lv_sipush hC.1 hC.2.1 dX6_init_46 cs_200 ?_
  refine nw_newa (n' := 200) hC hP 0 rfl (by decide) rfl (Nat.le_of_ble_eq_true rfl) (Nat.le_of_ble_eq_true rfl) (Nat.le_of_ble_eq_true rfl) dX6_init_49 (fun z6 H hP => ?_)
  have hP : nw_P (mvD V) vwCl [(h0, .inr (6, [.int 0, .ref z1, .ref z2, .ref z3, .ref z4, .int 0, .ref z5, .null, .null, .int 0, .null])), (z1, .inl (mvI V, 8, .inl (fun _ => 0))), (z2, .inl (mvI V, 8, .inl (fun _ => 0))), (z3, .inl (mvI V, 8, .inl (fun _ => 0))), (z4, .inl (mvI V, 8, .inl (fun _ => 0))), (z5, .inl (mvI V, 200, .inl (fun _ => 0))), (z6, .inl (mvI V, 200, .inl (fun _ => 0)))] A s.heap H _ := hP
  refine nw_putF hC hP hin 0 rfl inW6 tyX6 tyX6_ok nmX6 rfl 7 (by decide) q_177 (fun _ h9 => h9) rfl rfl (by rfl) (by rfl) (Nat.le_of_ble_eq_true rfl) dX6_init_51 (fun H locs hP => ?_)
  have hP : nw_P (mvD V) vwCl [(h0, .inr (6, [.int 0, .ref z1, .ref z2, .ref z3, .ref z4, .int 0, .ref z5, .ref z6, .null, .int 0, .null])), (z1, .inl (mvI V, 8, .inl (fun _ => 0))), (z2, .inl (mvI V, 8, .inl (fun _ => 0))), (z3, .inl (mvI V, 8, .inl (fun _ => 0))), (z4, .inl (mvI V, 8, .inl (fun _ => 0))), (z5, .inl (mvI V, 200, .inl (fun _ => 0))), (z6, .inl (mvI V, 200, .inl (fun _ => 0)))] A s.heap H _ := hP
  refine lv_aload_n hC.1 hC.2.1 dX6_init_54 rfl (lv_at hl 0 rfl) ?_
  refine lv_sipush hC.1 hC.2.1 dX6_init_55 cs_200 ?_
  refine nw_newa (n' := 200) hC hP 0 rfl (by decide) rfl (Nat.le_of_ble_eq_true rfl) (Nat.le_of_ble_eq_true rfl) (Nat.le_of_ble_eq_true rfl) dX6_init_58 (fun z7 H hP => ?_)
  have hP : nw_P (mvD V) vwCl [(h0, .inr (6, [.int 0, .ref z1, .ref z2, .ref z3, .ref z4, .int 0, .ref z5, .ref z6, .null, .int 0, .null])), (z1, .inl (mvI V, 8, .inl (fun _ => 0))), (z2, .inl (mvI V, 8, .inl (fun _ => 0))), (z3, .inl (mvI V, 8, .inl (fun _ => 0))), (z4, .inl (mvI V, 8, .inl (fun _ => 0))), (z5, .inl (mvI V, 200, .inl (fun _ => 0))), (z6, .inl (mvI V, 200, .inl (fun _ => 0))), (z7, .inl (mvI V, 200, .inl (fun _ => 0)))] A s.heap H _ := hP
  refine nw_putF hC hP hin 0 rfl inW6 tyX6 tyX6_ok nmX6 rfl 8 (by decide) q_178 (fun _ h9 => h9) rfl rfl (by rfl) (by rfl) (Nat.le_of_ble_eq_true rfl) dX6_init_60 (fun H locs hP => ?_)
  have hP : nw_P (mvD V) vwCl [(h0, .inr (6, [.int 0, .ref z1, .ref z2, .ref z3, .ref z4, .int 0, .ref z5, .ref z6, .ref z7, .int 0, .null])), (z1, .inl (mvI V, 8, .inl (fun _ => 0))), (z2, .inl (mvI V, 8, .inl (fun _ => 0))), (z3, .inl (mvI V, 8, .inl (fun _ => 0))), (z4, .inl (mvI V, 8, .inl (fun _ => 0))), (z5, .inl (mvI V, 200, .inl (fun _ => 0))), (z6, .inl (mvI V, 200, .inl (fun _ => 0))), (z7, .inl (mvI V, 200, .inl (fun _ => 0)))] A s.heap H _ := hP
  refine lv_aload_n hC.1 hC.2.1 dX6_init_63 rfl (lv_at hl 0 rfl) ?_
  refine lv_iconst hC.1 hC.2.1 dX6_init_64 ci_5 ?_
  refine nw_put hC hP 0 rfl inW6 tyX6 tyX6_ok nmX6 rfl 9 (by decide) q_179 (fun _ h9 => h9) rfl (by rfl) (by rfl) (Nat.le_of_ble_eq_true rfl) dX6_init_65 (fun H locs hP => ?_)
  have hP : nw_P (mvD V) vwCl [(h0, .inr (6, [.int 0, .ref z1, .ref z2, .ref z3, .ref z4, .int 0, .ref z5, .ref z6, .ref z7, .int 5, .null])), (z1, .inl (mvI V, 8, .inl (fun _ => 0))), (z2, .inl (mvI V, 8, .inl (fun _ => 0))), (z3, .inl (mvI V, 8, .inl (fun _ => 0))), (z4, .inl (mvI V, 8, .inl (fun _ => 0))), (z5, .inl (mvI V, 200, .inl (fun _ => 0))), (z6, .inl (mvI V, 200, .inl (fun _ => 0))), (z7, .inl (mvI V, 200, .inl (fun _ => 0)))] A s.heap H _ := hP
  refine lv_aload_n hC.1 hC.2.1 dX6_init_68 rfl (lv_at hl 0 rfl) ?_
  refine lv_sipush hC.1 hC.2.1 dX6_init_69 cs_205 ?_
  refine nw_newa (n' := 205) hC hP 0 rfl (by decide) rfl (Nat.le_of_ble_eq_true rfl) (Nat.le_of_ble_eq_true rfl) (Nat.le_of_ble_eq_true rfl) dX6_init_72 (fun z8 H hP => ?_)
  have hP : nw_P (mvD V) vwCl [(h0, .inr (6, [.int 0, .ref z1, .ref z2, .ref z3, .ref z4, .int 0, .ref z5, .ref z6, .ref z7, .int 5, .null])), (z1, .inl (mvI V, 8, .inl (fun _ => 0))), (z2, .inl (mvI V, 8, .inl (fun _ => 0))), (z3, .inl (mvI V, 8, .inl (fun _ => 0))), (z4, .inl (mvI V, 8, .inl (fun _ => 0))), (z5, .inl (mvI V, 200, .inl (fun _ => 0))), (z6, .inl (mvI V, 200, .inl (fun _ => 0))), (z7, .inl (mvI V, 200, .inl (fun _ => 0))), (z8, .inl (mvI V, 205, .inl (fun _ => 0)))] A s.heap H _ := hP
  refine nw_putF hC hP hin 0 rfl inW6 tyX6 tyX6_ok nmX6 rfl 10 (by decide) q_180 (fun _ h9 => h9) rfl rfl (by rfl) (by rfl) (Nat.le_of_ble_eq_true rfl) dX6_init_74 (fun H locs hP => ?_)
  have hP : nw_P (mvD V) vwCl [(h0, .inr (6, [.int 0, .ref z1, .ref z2, .ref z3, .ref z4, .int 0, .ref z5, .ref z6, .ref z7, .int 5, .ref z8])), (z1, .inl (mvI V, 8, .inl (fun _ => 0))), (z2, .inl (mvI V, 8, .inl (fun _ => 0))), (z3, .inl (mvI V, 8, .inl (fun _ => 0))), (z4, .inl (mvI V, 8, .inl (fun _ => 0))), (z5, .inl (mvI V, 200, .inl (fun _ => 0))), (z6, .inl (mvI V, 200, .inl (fun _ => 0))), (z7, .inl (mvI V, 200, .inl (fun _ => 0))), (z8, .inl (mvI V, 205, .inl (fun _ => 0)))] A s.heap H _ := hP
  exact hret (w := [(h0, .inr (6, [.int 0, .ref z1, .ref z2, .ref z3, .ref z4, .int 0, .ref z5, .ref z6, .ref z7, .int 5, .ref z8])), (z1, .inl (mvI V, 8, .inl (fun _ => 0))), (z2, .inl (mvI V, 8, .inl (fun _ => 0))), (z3, .inl (mvI V, 8, .inl (fun _ => 0))), (z4, .inl (mvI V, 8, .inl (fun _ => 0))), (z5, .inl (mvI V, 200, .inl (fun _ => 0))), (z6, .inl (mvI V, 200, .inl (fun _ => 0))), (z7, .inl (mvI V, 200, .inl (fun _ => 0))), (z8, .inl (mvI V, 205, .inl (fun _ => 0)))]) ⟨z1, z2, z3, z4, z5, z6, z7, z8, rfl⟩ hP dX6_init_77
set_option maxHeartbeats 4000000 in
set_option maxRecDepth 100000 in
theorem kX4_init (V : mV) (l : Launch) (h0 : Nat) : nw_Mv (mvD V) vwCl (mvY V) ssL (mvK V) (mvW V) l yX4_init cX4_init 1 ({ frames := 2, cells := 15, slots := 888, locals := 32 } : Room) [.ref h0] [(h0, .inr (4, [.int 0, .null, .null, .null, .null, .int 0, .int 0, .int 0, .int 0, .int 0, .int 0, .int 0, .null, .null, .null]))] (fun w => ∃ (z1 z2 z3 z4 z5 z6 z7 z8 z9 z10 z11 z12 z13 z14 z15 : Nat), w = [(h0, .inr (4, [.int 0, .ref z1, .ref z2, .ref z3, .ref z4, .int 0, .int 0, .int 0, .int 0, .int 0, .int 1, .int 0, .ref z5, .ref z6, .ref z7])), (z1, .inl (mvI V, 7, .inl (fun _ => 0))), (z2, .inl (mvI V, 7, .inl (fun _ => 0))), (z3, .inl (mvI V, 7, .inl (fun _ => 0))), (z4, .inl (mvI V, 7, .inl (fun _ => 0))), (z5, .inl (mvI V, 6, .inl (fun _ => 0))), (z6, .inl (mvI V, 6, .inl (fun _ => 0))), (z7, .inr (6, [.int 0, .ref z8, .ref z9, .ref z10, .ref z11, .int 0, .ref z12, .ref z13, .ref z14, .int 5, .ref z15])), (z8, .inl (mvI V, 8, .inl (fun _ => 0))), (z9, .inl (mvI V, 8, .inl (fun _ => 0))), (z10, .inl (mvI V, 8, .inl (fun _ => 0))), (z11, .inl (mvI V, 8, .inl (fun _ => 0))), (z12, .inl (mvI V, 200, .inl (fun _ => 0))), (z13, .inl (mvI V, 200, .inl (fun _ => 0))), (z14, .inl (mvI V, 200, .inl (fun _ => 0))), (z15, .inl (mvI V, 205, .inl (fun _ => 0)))]) 15 888 := by
  refine nw_enter RX4 rfl (by decide +kernel) rfl (Nat.le_of_ble_eq_true rfl) (fun {p e s m args below meth c} ls A Q hC hin hret hP hl => ?_)
  have hl : lv_has ls 1 [(0, .ref h0)] := hl
  have hP : nw_P (mvD V) vwCl [(h0, .inr (4, [.int 0, .null, .null, .null, .null, .int 0, .int 0, .int 0, .int 0, .int 0, .int 0, .int 0, .null, .null, .null]))] A s.heap s.heap [] := hP
  refine lv_aload_n hC.1 hC.2.1 dX4_init_0 rfl (lv_at hl 0 rfl) ?_
  refine nw_obj hC hl.1 q_162 q_134 q_135 dX4_init_1 (Nat.le_of_ble_eq_true rfl) (Nat.le_of_ble_eq_true rfl) ?_
  refine lv_aload_n hC.1 hC.2.1 dX4_init_4 rfl (lv_at hl 0 rfl) ?_
  refine lv_bipush hC.1 hC.2.1 dX4_init_5 cb_7 ?_
  refine nw_newa (n' := 7) hC hP 0 rfl (by decide) rfl (Nat.le_of_ble_eq_true rfl) (Nat.le_of_ble_eq_true rfl) (Nat.le_of_ble_eq_true rfl) dX4_init_7 (fun z1 H hP => ?_)
  have hP : nw_P (mvD V) vwCl [(h0, .inr (4, [.int 0, .null, .null, .null, .null, .int 0, .int 0, .int 0, .int 0, .int 0, .int 0, .int 0, .null, .null, .null])), (z1, .inl (mvI V, 7, .inl (fun _ => 0)))] A s.heap H _ := hP
  refine nw_putF hC hP hin 0 rfl inW4 tyX4 tyX4_ok nmX4 rfl 1 (by decide) q_208 (fun _ h9 => h9) rfl rfl (by rfl) (by rfl) (Nat.le_of_ble_eq_true rfl) dX4_init_9 (fun H locs hP => ?_)
  have hP : nw_P (mvD V) vwCl [(h0, .inr (4, [.int 0, .ref z1, .null, .null, .null, .int 0, .int 0, .int 0, .int 0, .int 0, .int 0, .int 0, .null, .null, .null])), (z1, .inl (mvI V, 7, .inl (fun _ => 0)))] A s.heap H _ := hP
  refine lv_aload_n hC.1 hC.2.1 dX4_init_12 rfl (lv_at hl 0 rfl) ?_
  refine lv_bipush hC.1 hC.2.1 dX4_init_13 cb_7 ?_
  refine nw_newa (n' := 7) hC hP 0 rfl (by decide) rfl (Nat.le_of_ble_eq_true rfl) (Nat.le_of_ble_eq_true rfl) (Nat.le_of_ble_eq_true rfl) dX4_init_15 (fun z2 H hP => ?_)
  have hP : nw_P (mvD V) vwCl [(h0, .inr (4, [.int 0, .ref z1, .null, .null, .null, .int 0, .int 0, .int 0, .int 0, .int 0, .int 0, .int 0, .null, .null, .null])), (z1, .inl (mvI V, 7, .inl (fun _ => 0))), (z2, .inl (mvI V, 7, .inl (fun _ => 0)))] A s.heap H _ := hP
  refine nw_putF hC hP hin 0 rfl inW4 tyX4 tyX4_ok nmX4 rfl 2 (by decide) q_210 (fun _ h9 => h9) rfl rfl (by rfl) (by rfl) (Nat.le_of_ble_eq_true rfl) dX4_init_17 (fun H locs hP => ?_)
  have hP : nw_P (mvD V) vwCl [(h0, .inr (4, [.int 0, .ref z1, .ref z2, .null, .null, .int 0, .int 0, .int 0, .int 0, .int 0, .int 0, .int 0, .null, .null, .null])), (z1, .inl (mvI V, 7, .inl (fun _ => 0))), (z2, .inl (mvI V, 7, .inl (fun _ => 0)))] A s.heap H _ := hP
  refine lv_aload_n hC.1 hC.2.1 dX4_init_20 rfl (lv_at hl 0 rfl) ?_
  refine lv_bipush hC.1 hC.2.1 dX4_init_21 cb_7 ?_
  refine nw_newa (n' := 7) hC hP 0 rfl (by decide) rfl (Nat.le_of_ble_eq_true rfl) (Nat.le_of_ble_eq_true rfl) (Nat.le_of_ble_eq_true rfl) dX4_init_23 (fun z3 H hP => ?_)
  have hP : nw_P (mvD V) vwCl [(h0, .inr (4, [.int 0, .ref z1, .ref z2, .null, .null, .int 0, .int 0, .int 0, .int 0, .int 0, .int 0, .int 0, .null, .null, .null])), (z1, .inl (mvI V, 7, .inl (fun _ => 0))), (z2, .inl (mvI V, 7, .inl (fun _ => 0))), (z3, .inl (mvI V, 7, .inl (fun _ => 0)))] A s.heap H _ := hP
  refine nw_putF hC hP hin 0 rfl inW4 tyX4 tyX4_ok nmX4 rfl 3 (by decide) q_212 (fun _ h9 => h9) rfl rfl (by rfl) (by rfl) (Nat.le_of_ble_eq_true rfl) dX4_init_25 (fun H locs hP => ?_)
  have hP : nw_P (mvD V) vwCl [(h0, .inr (4, [.int 0, .ref z1, .ref z2, .ref z3, .null, .int 0, .int 0, .int 0, .int 0, .int 0, .int 0, .int 0, .null, .null, .null])), (z1, .inl (mvI V, 7, .inl (fun _ => 0))), (z2, .inl (mvI V, 7, .inl (fun _ => 0))), (z3, .inl (mvI V, 7, .inl (fun _ => 0)))] A s.heap H _ := hP
  refine lv_aload_n hC.1 hC.2.1 dX4_init_28 rfl (lv_at hl 0 rfl) ?_
  refine lv_bipush hC.1 hC.2.1 dX4_init_29 cb_7 ?_
  refine nw_newa (n' := 7) hC hP 0 rfl (by decide) rfl (Nat.le_of_ble_eq_true rfl) (Nat.le_of_ble_eq_true rfl) (Nat.le_of_ble_eq_true rfl) dX4_init_31 (fun z4 H hP => ?_)
  have hP : nw_P (mvD V) vwCl [(h0, .inr (4, [.int 0, .ref z1, .ref z2, .ref z3, .null, .int 0, .int 0, .int 0, .int 0, .int 0, .int 0, .int 0, .null, .null, .null])), (z1, .inl (mvI V, 7, .inl (fun _ => 0))), (z2, .inl (mvI V, 7, .inl (fun _ => 0))), (z3, .inl (mvI V, 7, .inl (fun _ => 0))), (z4, .inl (mvI V, 7, .inl (fun _ => 0)))] A s.heap H _ := hP
  refine nw_putF hC hP hin 0 rfl inW4 tyX4 tyX4_ok nmX4 rfl 4 (by decide) q_214 (fun _ h9 => h9) rfl rfl (by rfl) (by rfl) (Nat.le_of_ble_eq_true rfl) dX4_init_33 (fun H locs hP => ?_)
  have hP : nw_P (mvD V) vwCl [(h0, .inr (4, [.int 0, .ref z1, .ref z2, .ref z3, .ref z4, .int 0, .int 0, .int 0, .int 0, .int 0, .int 0, .int 0, .null, .null, .null])), (z1, .inl (mvI V, 7, .inl (fun _ => 0))), (z2, .inl (mvI V, 7, .inl (fun _ => 0))), (z3, .inl (mvI V, 7, .inl (fun _ => 0))), (z4, .inl (mvI V, 7, .inl (fun _ => 0)))] A s.heap H _ := hP
  refine lv_aload_n hC.1 hC.2.1 dX4_init_36 rfl (lv_at hl 0 rfl) ?_
  refine lv_iconst hC.1 hC.2.1 dX4_init_37 ci_1 ?_
  refine nw_put hC hP 0 rfl inW4 tyX4 tyX4_ok nmX4 rfl 10 (by decide) q_226 (fun _ h9 => h9) rfl (by rfl) (by rfl) (Nat.le_of_ble_eq_true rfl) dX4_init_38 (fun H locs hP => ?_)
  have hP : nw_P (mvD V) vwCl [(h0, .inr (4, [.int 0, .ref z1, .ref z2, .ref z3, .ref z4, .int 0, .int 0, .int 0, .int 0, .int 0, .int 1, .int 0, .null, .null, .null])), (z1, .inl (mvI V, 7, .inl (fun _ => 0))), (z2, .inl (mvI V, 7, .inl (fun _ => 0))), (z3, .inl (mvI V, 7, .inl (fun _ => 0))), (z4, .inl (mvI V, 7, .inl (fun _ => 0)))] A s.heap H _ := hP
  refine lv_aload_n hC.1 hC.2.1 dX4_init_41 rfl (lv_at hl 0 rfl) ?_
  refine lv_bipush hC.1 hC.2.1 dX4_init_42 cb_6 ?_
  refine nw_newa (n' := 6) hC hP 0 rfl (by decide) rfl (Nat.le_of_ble_eq_true rfl) (Nat.le_of_ble_eq_true rfl) (Nat.le_of_ble_eq_true rfl) dX4_init_44 (fun z5 H hP => ?_)
  have hP : nw_P (mvD V) vwCl [(h0, .inr (4, [.int 0, .ref z1, .ref z2, .ref z3, .ref z4, .int 0, .int 0, .int 0, .int 0, .int 0, .int 1, .int 0, .null, .null, .null])), (z1, .inl (mvI V, 7, .inl (fun _ => 0))), (z2, .inl (mvI V, 7, .inl (fun _ => 0))), (z3, .inl (mvI V, 7, .inl (fun _ => 0))), (z4, .inl (mvI V, 7, .inl (fun _ => 0))), (z5, .inl (mvI V, 6, .inl (fun _ => 0)))] A s.heap H _ := hP
  refine nw_putF hC hP hin 0 rfl inW4 tyX4 tyX4_ok nmX4 rfl 12 (by decide) q_230 (fun _ h9 => h9) rfl rfl (by rfl) (by rfl) (Nat.le_of_ble_eq_true rfl) dX4_init_46 (fun H locs hP => ?_)
  have hP : nw_P (mvD V) vwCl [(h0, .inr (4, [.int 0, .ref z1, .ref z2, .ref z3, .ref z4, .int 0, .int 0, .int 0, .int 0, .int 0, .int 1, .int 0, .ref z5, .null, .null])), (z1, .inl (mvI V, 7, .inl (fun _ => 0))), (z2, .inl (mvI V, 7, .inl (fun _ => 0))), (z3, .inl (mvI V, 7, .inl (fun _ => 0))), (z4, .inl (mvI V, 7, .inl (fun _ => 0))), (z5, .inl (mvI V, 6, .inl (fun _ => 0)))] A s.heap H _ := hP
  refine lv_aload_n hC.1 hC.2.1 dX4_init_49 rfl (lv_at hl 0 rfl) ?_
  refine lv_bipush hC.1 hC.2.1 dX4_init_50 cb_6 ?_
  refine nw_newa (n' := 6) hC hP 0 rfl (by decide) rfl (Nat.le_of_ble_eq_true rfl) (Nat.le_of_ble_eq_true rfl) (Nat.le_of_ble_eq_true rfl) dX4_init_52 (fun z6 H hP => ?_)
  have hP : nw_P (mvD V) vwCl [(h0, .inr (4, [.int 0, .ref z1, .ref z2, .ref z3, .ref z4, .int 0, .int 0, .int 0, .int 0, .int 0, .int 1, .int 0, .ref z5, .null, .null])), (z1, .inl (mvI V, 7, .inl (fun _ => 0))), (z2, .inl (mvI V, 7, .inl (fun _ => 0))), (z3, .inl (mvI V, 7, .inl (fun _ => 0))), (z4, .inl (mvI V, 7, .inl (fun _ => 0))), (z5, .inl (mvI V, 6, .inl (fun _ => 0))), (z6, .inl (mvI V, 6, .inl (fun _ => 0)))] A s.heap H _ := hP
  refine nw_putF hC hP hin 0 rfl inW4 tyX4 tyX4_ok nmX4 rfl 13 (by decide) q_232 (fun _ h9 => h9) rfl rfl (by rfl) (by rfl) (Nat.le_of_ble_eq_true rfl) dX4_init_54 (fun H locs hP => ?_)
  have hP : nw_P (mvD V) vwCl [(h0, .inr (4, [.int 0, .ref z1, .ref z2, .ref z3, .ref z4, .int 0, .int 0, .int 0, .int 0, .int 0, .int 1, .int 0, .ref z5, .ref z6, .null])), (z1, .inl (mvI V, 7, .inl (fun _ => 0))), (z2, .inl (mvI V, 7, .inl (fun _ => 0))), (z3, .inl (mvI V, 7, .inl (fun _ => 0))), (z4, .inl (mvI V, 7, .inl (fun _ => 0))), (z5, .inl (mvI V, 6, .inl (fun _ => 0))), (z6, .inl (mvI V, 6, .inl (fun _ => 0)))] A s.heap H _ := hP
  refine lv_aload_n hC.1 hC.2.1 dX4_init_57 rfl (lv_at hl 0 rfl) ?_
  refine nw_new (ci := 6) (fs := [.int 0, .null, .null, .null, .null, .int 0, .null, .null, .null, .int 0, .null]) hC hP inW6 tyX6 tyX6_ok q_163 q_164 q_110 rfl (by decide) (Nat.le_of_ble_eq_true rfl) (Nat.le_of_ble_eq_true rfl) dX4_init_58 (fun z7 H hP => ?_)
  have hP : nw_P (mvD V) vwCl [(h0, .inr (4, [.int 0, .ref z1, .ref z2, .ref z3, .ref z4, .int 0, .int 0, .int 0, .int 0, .int 0, .int 1, .int 0, .ref z5, .ref z6, .null])), (z1, .inl (mvI V, 7, .inl (fun _ => 0))), (z2, .inl (mvI V, 7, .inl (fun _ => 0))), (z3, .inl (mvI V, 7, .inl (fun _ => 0))), (z4, .inl (mvI V, 7, .inl (fun _ => 0))), (z5, .inl (mvI V, 6, .inl (fun _ => 0))), (z6, .inl (mvI V, 6, .inl (fun _ => 0))), (z7, .inr (6, [.int 0, .null, .null, .null, .null, .int 0, .null, .null, .null, .int 0, .null]))] A s.heap H _ := hP
  refine lv_dup hC.1 hC.2.1 dX4_init_61 rfl ?_
  refine nw_cIN (As := []) (rest := [.ref z7, .ref h0]) (wc := [(z7, .inr (6, [.int 0, .null, .null, .null, .null, .int 0, .null, .null, .null, .int 0, .null]))]) (wr := [(h0, .inr (4, [.int 0, .ref z1, .ref z2, .ref z3, .ref z4, .int 0, .int 0, .int 0, .int 0, .int 0, .int 1, .int 0, .ref z5, .ref z6, .null])), (z1, .inl (mvI V, 7, .inl (fun _ => 0))), (z2, .inl (mvI V, 7, .inl (fun _ => 0))), (z3, .inl (mvI V, 7, .inl (fun _ => 0))), (z4, .inl (mvI V, 7, .inl (fun _ => 0))), (z5, .inl (mvI V, 6, .inl (fun _ => 0))), (z6, .inl (mvI V, 6, .inl (fun _ => 0)))]) hC hP (kX6_init V l z7) [7] [0, 1, 2, 3, 4, 5, 6] rfl rfl (by decide) (by decide) (by decide) (mw_nw hC 5 rfl) q_166 q_110 q_167 ⟨rfl, rfl⟩ kS_X6_init ⟨Nat.le_of_ble_eq_true rfl, Nat.le_of_ble_eq_true rfl⟩ rfl rfl rfl (Nat.le_of_ble_eq_true rfl) hl.1 ⟨Nat.le_of_ble_eq_true rfl, Nat.le_of_ble_eq_true rfl⟩ dX4_init_62 (fun w H locs hw hP => ?_)
  obtain ⟨z8, z9, z10, z11, z12, z13, z14, z15, rfl⟩ := hw
  have hP : nw_P (mvD V) vwCl [(h0, .inr (4, [.int 0, .ref z1, .ref z2, .ref z3, .ref z4, .int 0, .int 0, .int 0, .int 0, .int 0, .int 1, .int 0, .ref z5, .ref z6, .null])), (z1, .inl (mvI V, 7, .inl (fun _ => 0))), (z2, .inl (mvI V, 7, .inl (fun _ => 0))), (z3, .inl (mvI V, 7, .inl (fun _ => 0))), (z4, .inl (mvI V, 7, .inl (fun _ => 0))), (z5, .inl (mvI V, 6, .inl (fun _ => 0))), (z6, .inl (mvI V, 6, .inl (fun _ => 0))), (z7, .inr (6, [.int 0, .ref z8, .ref z9, .ref z10, .ref z11, .int 0, .ref z12, .ref z13, .ref z14, .int 5, .ref z15])), (z8, .inl (mvI V, 8, .inl (fun _ => 0))), (z9, .inl (mvI V, 8, .inl (fun _ => 0))), (z10, .inl (mvI V, 8, .inl (fun _ => 0))), (z11, .inl (mvI V, 8, .inl (fun _ => 0))), (z12, .inl (mvI V, 200, .inl (fun _ => 0))), (z13, .inl (mvI V, 200, .inl (fun _ => 0))), (z14, .inl (mvI V, 200, .inl (fun _ => 0))), (z15, .inl (mvI V, 205, .inl (fun _ => 0)))] A s.heap H _ := hP
  refine nw_putF hC hP hin 0 rfl inW4 tyX4 tyX4_ok nmX4 rfl 14 (by decide) q_234 (fun _ h9 => h9) rfl rfl (by rfl) (by rfl) (Nat.le_of_ble_eq_true rfl) dX4_init_65 (fun H locs hP => ?_)
  have hP : nw_P (mvD V) vwCl [(h0, .inr (4, [.int 0, .ref z1, .ref z2, .ref z3, .ref z4, .int 0, .int 0, .int 0, .int 0, .int 0, .int 1, .int 0, .ref z5, .ref z6, .ref z7])), (z1, .inl (mvI V, 7, .inl (fun _ => 0))), (z2, .inl (mvI V, 7, .inl (fun _ => 0))), (z3, .inl (mvI V, 7, .inl (fun _ => 0))), (z4, .inl (mvI V, 7, .inl (fun _ => 0))), (z5, .inl (mvI V, 6, .inl (fun _ => 0))), (z6, .inl (mvI V, 6, .inl (fun _ => 0))), (z7, .inr (6, [.int 0, .ref z8, .ref z9, .ref z10, .ref z11, .int 0, .ref z12, .ref z13, .ref z14, .int 5, .ref z15])), (z8, .inl (mvI V, 8, .inl (fun _ => 0))), (z9, .inl (mvI V, 8, .inl (fun _ => 0))), (z10, .inl (mvI V, 8, .inl (fun _ => 0))), (z11, .inl (mvI V, 8, .inl (fun _ => 0))), (z12, .inl (mvI V, 200, .inl (fun _ => 0))), (z13, .inl (mvI V, 200, .inl (fun _ => 0))), (z14, .inl (mvI V, 200, .inl (fun _ => 0))), (z15, .inl (mvI V, 205, .inl (fun _ => 0)))] A s.heap H _ := hP
  exact hret (w := [(h0, .inr (4, [.int 0, .ref z1, .ref z2, .ref z3, .ref z4, .int 0, .int 0, .int 0, .int 0, .int 0, .int 1, .int 0, .ref z5, .ref z6, .ref z7])), (z1, .inl (mvI V, 7, .inl (fun _ => 0))), (z2, .inl (mvI V, 7, .inl (fun _ => 0))), (z3, .inl (mvI V, 7, .inl (fun _ => 0))), (z4, .inl (mvI V, 7, .inl (fun _ => 0))), (z5, .inl (mvI V, 6, .inl (fun _ => 0))), (z6, .inl (mvI V, 6, .inl (fun _ => 0))), (z7, .inr (6, [.int 0, .ref z8, .ref z9, .ref z10, .ref z11, .int 0, .ref z12, .ref z13, .ref z14, .int 5, .ref z15])), (z8, .inl (mvI V, 8, .inl (fun _ => 0))), (z9, .inl (mvI V, 8, .inl (fun _ => 0))), (z10, .inl (mvI V, 8, .inl (fun _ => 0))), (z11, .inl (mvI V, 8, .inl (fun _ => 0))), (z12, .inl (mvI V, 200, .inl (fun _ => 0))), (z13, .inl (mvI V, 200, .inl (fun _ => 0))), (z14, .inl (mvI V, 200, .inl (fun _ => 0))), (z15, .inl (mvI V, 205, .inl (fun _ => 0)))]) ⟨z1, z2, z3, z4, z5, z6, z7, z8, z9, z10, z11, z12, z13, z14, z15, rfl⟩ hP dX4_init_68
set_option maxHeartbeats 4000000 in
set_option maxRecDepth 100000 in
theorem kX5_init (V : mV) (l : Launch) (h0 : Nat) : nw_Mv (mvD V) vwCl (mvY V) ssL (mvK V) (mvW V) l yX5_init cX5_init 1 ({ frames := 2, cells := 13, slots := 1651, locals := 32 } : Room) [.ref h0] [(h0, .inr (5, [.int 0, .null, .null, .int 0, .null, .null, .null, .int 0]))] (fun w => ∃ (z1 z2 z3 z4 z5 z6 z7 z8 z9 z10 z11 z12 z13 : Nat), w = [(h0, .inr (5, [.int 0, .ref z1, .ref z10, .int 0, .ref z11, .ref z12, .ref z13, .int 0])), (z1, .inr (6, [.int 0, .ref z2, .ref z3, .ref z4, .ref z5, .int 0, .ref z6, .ref z7, .ref z8, .int 5, .ref z9])), (z2, .inl (mvI V, 8, .inl (fun _ => 0))), (z3, .inl (mvI V, 8, .inl (fun _ => 0))), (z4, .inl (mvI V, 8, .inl (fun _ => 0))), (z5, .inl (mvI V, 8, .inl (fun _ => 0))), (z6, .inl (mvI V, 200, .inl (fun _ => 0))), (z7, .inl (mvI V, 200, .inl (fun _ => 0))), (z8, .inl (mvI V, 200, .inl (fun _ => 0))), (z9, .inl (mvI V, 205, .inl (fun _ => 0))), (z10, .inl (mvI V, 200, .inl (fun _ => 0))), (z11, .inl (mvI V, 201, .inl (fun _ => 0))), (z12, .inl (mvI V, 201, .inl (fun _ => 0))), (z13, .inl (mvI V, 201, .inl (fun _ => 0)))]) 13 1651 := by
  refine nw_enter RX5 rfl (by decide +kernel) rfl (Nat.le_of_ble_eq_true rfl) (fun {p e s m args below meth c} ls A Q hC hin hret hP hl => ?_)
  have hl : lv_has ls 1 [(0, .ref h0)] := hl
  have hP : nw_P (mvD V) vwCl [(h0, .inr (5, [.int 0, .null, .null, .int 0, .null, .null, .null, .int 0]))] A s.heap s.heap [] := hP
  refine lv_aload_n hC.1 hC.2.1 dX5_init_0 rfl (lv_at hl 0 rfl) ?_
  refine nw_obj hC hl.1 q_272 q_134 q_135 dX5_init_1 (Nat.le_of_ble_eq_true rfl) (Nat.le_of_ble_eq_true rfl) ?_
  refine lv_aload_n hC.1 hC.2.1 dX5_init_4 rfl (lv_at hl 0 rfl) ?_
  refine nw_new (ci := 6) (fs := [.int 0, .null, .null, .null, .null, .int 0, .null, .null, .null, .int 0, .null]) hC hP inW6 tyX6 tyX6_ok q_273 q_164 q_110 rfl (by decide) (Nat.le_of_ble_eq_true rfl) (Nat.le_of_ble_eq_true rfl) dX5_init_5 (fun z1 H hP => ?_)
  have hP : nw_P (mvD V) vwCl [(h0, .inr (5, [.int 0, .null, .null, .int 0, .null, .null, .null, .int 0])), (z1, .inr (6, [.int 0, .null, .null, .null, .null, .int 0, .null, .null, .null, .int 0, .null]))] A s.heap H _ := hP
  refine lv_dup hC.1 hC.2.1 dX5_init_8 rfl ?_
  refine nw_cIN (As := []) (rest := [.ref z1, .ref h0]) (wc := [(z1, .inr (6, [.int 0, .null, .null, .null, .null, .int 0, .null, .null, .null, .int 0, .null]))]) (wr := [(h0, .inr (5, [.int 0, .null, .null, .int 0, .null, .null, .null, .int 0]))]) hC hP (kX6_init V l z1) [1] [0] rfl rfl (by decide) (by decide) (by decide) (mw_nw hC 7 rfl) q_166 q_110 q_167 ⟨rfl, rfl⟩ kS_X6_init ⟨Nat.le_of_ble_eq_true rfl, Nat.le_of_ble_eq_true rfl⟩ rfl rfl rfl (Nat.le_of_ble_eq_true rfl) hl.1 ⟨Nat.le_of_ble_eq_true rfl, Nat.le_of_ble_eq_true rfl⟩ dX5_init_9 (fun w H locs hw hP => ?_)
  obtain ⟨z2, z3, z4, z5, z6, z7, z8, z9, rfl⟩ := hw
  have hP : nw_P (mvD V) vwCl [(h0, .inr (5, [.int 0, .null, .null, .int 0, .null, .null, .null, .int 0])), (z1, .inr (6, [.int 0, .ref z2, .ref z3, .ref z4, .ref z5, .int 0, .ref z6, .ref z7, .ref z8, .int 5, .ref z9])), (z2, .inl (mvI V, 8, .inl (fun _ => 0))), (z3, .inl (mvI V, 8, .inl (fun _ => 0))), (z4, .inl (mvI V, 8, .inl (fun _ => 0))), (z5, .inl (mvI V, 8, .inl (fun _ => 0))), (z6, .inl (mvI V, 200, .inl (fun _ => 0))), (z7, .inl (mvI V, 200, .inl (fun _ => 0))), (z8, .inl (mvI V, 200, .inl (fun _ => 0))), (z9, .inl (mvI V, 205, .inl (fun _ => 0)))] A s.heap H _ := hP
  refine nw_putF hC hP hin 0 rfl inW5 tyX5 tyX5_ok nmX5 rfl 1 (by decide) q_277 (fun _ h9 => h9) rfl rfl (by rfl) (by rfl) (Nat.le_of_ble_eq_true rfl) dX5_init_12 (fun H locs hP => ?_)
  have hP : nw_P (mvD V) vwCl [(h0, .inr (5, [.int 0, .ref z1, .null, .int 0, .null, .null, .null, .int 0])), (z1, .inr (6, [.int 0, .ref z2, .ref z3, .ref z4, .ref z5, .int 0, .ref z6, .ref z7, .ref z8, .int 5, .ref z9])), (z2, .inl (mvI V, 8, .inl (fun _ => 0))), (z3, .inl (mvI V, 8, .inl (fun _ => 0))), (z4, .inl (mvI V, 8, .inl (fun _ => 0))), (z5, .inl (mvI V, 8, .inl (fun _ => 0))), (z6, .inl (mvI V, 200, .inl (fun _ => 0))), (z7, .inl (mvI V, 200, .inl (fun _ => 0))), (z8, .inl (mvI V, 200, .inl (fun _ => 0))), (z9, .inl (mvI V, 205, .inl (fun _ => 0)))] A s.heap H _ := hP
  refine lv_aload_n hC.1 hC.2.1 dX5_init_15 rfl (lv_at hl 0 rfl) ?_
  refine lv_sipush hC.1 hC.2.1 dX5_init_16 cs_200 ?_
  refine nw_newa (n' := 200) hC hP 0 rfl (by decide) rfl (Nat.le_of_ble_eq_true rfl) (Nat.le_of_ble_eq_true rfl) (Nat.le_of_ble_eq_true rfl) dX5_init_19 (fun z10 H hP => ?_)
  have hP : nw_P (mvD V) vwCl [(h0, .inr (5, [.int 0, .ref z1, .null, .int 0, .null, .null, .null, .int 0])), (z1, .inr (6, [.int 0, .ref z2, .ref z3, .ref z4, .ref z5, .int 0, .ref z6, .ref z7, .ref z8, .int 5, .ref z9])), (z2, .inl (mvI V, 8, .inl (fun _ => 0))), (z3, .inl (mvI V, 8, .inl (fun _ => 0))), (z4, .inl (mvI V, 8, .inl (fun _ => 0))), (z5, .inl (mvI V, 8, .inl (fun _ => 0))), (z6, .inl (mvI V, 200, .inl (fun _ => 0))), (z7, .inl (mvI V, 200, .inl (fun _ => 0))), (z8, .inl (mvI V, 200, .inl (fun _ => 0))), (z9, .inl (mvI V, 205, .inl (fun _ => 0))), (z10, .inl (mvI V, 200, .inl (fun _ => 0)))] A s.heap H _ := hP
  refine nw_putF hC hP hin 0 rfl inW5 tyX5 tyX5_ok nmX5 rfl 2 (by decide) q_279 (fun _ h9 => h9) rfl rfl (by rfl) (by rfl) (Nat.le_of_ble_eq_true rfl) dX5_init_21 (fun H locs hP => ?_)
  have hP : nw_P (mvD V) vwCl [(h0, .inr (5, [.int 0, .ref z1, .ref z10, .int 0, .null, .null, .null, .int 0])), (z1, .inr (6, [.int 0, .ref z2, .ref z3, .ref z4, .ref z5, .int 0, .ref z6, .ref z7, .ref z8, .int 5, .ref z9])), (z2, .inl (mvI V, 8, .inl (fun _ => 0))), (z3, .inl (mvI V, 8, .inl (fun _ => 0))), (z4, .inl (mvI V, 8, .inl (fun _ => 0))), (z5, .inl (mvI V, 8, .inl (fun _ => 0))), (z6, .inl (mvI V, 200, .inl (fun _ => 0))), (z7, .inl (mvI V, 200, .inl (fun _ => 0))), (z8, .inl (mvI V, 200, .inl (fun _ => 0))), (z9, .inl (mvI V, 205, .inl (fun _ => 0))), (z10, .inl (mvI V, 200, .inl (fun _ => 0)))] A s.heap H _ := hP
  refine lv_aload_n hC.1 hC.2.1 dX5_init_24 rfl (lv_at hl 0 rfl) ?_
  refine lv_sipush hC.1 hC.2.1 dX5_init_25 cs_201 ?_
  refine nw_newa (n' := 201) hC hP 0 rfl (by decide) rfl (Nat.le_of_ble_eq_true rfl) (Nat.le_of_ble_eq_true rfl) (Nat.le_of_ble_eq_true rfl) dX5_init_28 (fun z11 H hP => ?_)
  have hP : nw_P (mvD V) vwCl [(h0, .inr (5, [.int 0, .ref z1, .ref z10, .int 0, .null, .null, .null, .int 0])), (z1, .inr (6, [.int 0, .ref z2, .ref z3, .ref z4, .ref z5, .int 0, .ref z6, .ref z7, .ref z8, .int 5, .ref z9])), (z2, .inl (mvI V, 8, .inl (fun _ => 0))), (z3, .inl (mvI V, 8, .inl (fun _ => 0))), (z4, .inl (mvI V, 8, .inl (fun _ => 0))), (z5, .inl (mvI V, 8, .inl (fun _ => 0))), (z6, .inl (mvI V, 200, .inl (fun _ => 0))), (z7, .inl (mvI V, 200, .inl (fun _ => 0))), (z8, .inl (mvI V, 200, .inl (fun _ => 0))), (z9, .inl (mvI V, 205, .inl (fun _ => 0))), (z10, .inl (mvI V, 200, .inl (fun _ => 0))), (z11, .inl (mvI V, 201, .inl (fun _ => 0)))] A s.heap H _ := hP
  refine nw_putF hC hP hin 0 rfl inW5 tyX5 tyX5_ok nmX5 rfl 4 (by decide) q_281 (fun _ h9 => h9) rfl rfl (by rfl) (by rfl) (Nat.le_of_ble_eq_true rfl) dX5_init_30 (fun H locs hP => ?_)
  have hP : nw_P (mvD V) vwCl [(h0, .inr (5, [.int 0, .ref z1, .ref z10, .int 0, .ref z11, .null, .null, .int 0])), (z1, .inr (6, [.int 0, .ref z2, .ref z3, .ref z4, .ref z5, .int 0, .ref z6, .ref z7, .ref z8, .int 5, .ref z9])), (z2, .inl (mvI V, 8, .inl (fun _ => 0))), (z3, .inl (mvI V, 8, .inl (fun _ => 0))), (z4, .inl (mvI V, 8, .inl (fun _ => 0))), (z5, .inl (mvI V, 8, .inl (fun _ => 0))), (z6, .inl (mvI V, 200, .inl (fun _ => 0))), (z7, .inl (mvI V, 200, .inl (fun _ => 0))), (z8, .inl (mvI V, 200, .inl (fun _ => 0))), (z9, .inl (mvI V, 205, .inl (fun _ => 0))), (z10, .inl (mvI V, 200, .inl (fun _ => 0))), (z11, .inl (mvI V, 201, .inl (fun _ => 0)))] A s.heap H _ := hP
  refine lv_aload_n hC.1 hC.2.1 dX5_init_33 rfl (lv_at hl 0 rfl) ?_
  refine lv_sipush hC.1 hC.2.1 dX5_init_34 cs_201 ?_
  refine nw_newa (n' := 201) hC hP 0 rfl (by decide) rfl (Nat.le_of_ble_eq_true rfl) (Nat.le_of_ble_eq_true rfl) (Nat.le_of_ble_eq_true rfl) dX5_init_37 (fun z12 H hP => ?_)
  have hP : nw_P (mvD V) vwCl [(h0, .inr (5, [.int 0, .ref z1, .ref z10, .int 0, .ref z11, .null, .null, .int 0])), (z1, .inr (6, [.int 0, .ref z2, .ref z3, .ref z4, .ref z5, .int 0, .ref z6, .ref z7, .ref z8, .int 5, .ref z9])), (z2, .inl (mvI V, 8, .inl (fun _ => 0))), (z3, .inl (mvI V, 8, .inl (fun _ => 0))), (z4, .inl (mvI V, 8, .inl (fun _ => 0))), (z5, .inl (mvI V, 8, .inl (fun _ => 0))), (z6, .inl (mvI V, 200, .inl (fun _ => 0))), (z7, .inl (mvI V, 200, .inl (fun _ => 0))), (z8, .inl (mvI V, 200, .inl (fun _ => 0))), (z9, .inl (mvI V, 205, .inl (fun _ => 0))), (z10, .inl (mvI V, 200, .inl (fun _ => 0))), (z11, .inl (mvI V, 201, .inl (fun _ => 0))), (z12, .inl (mvI V, 201, .inl (fun _ => 0)))] A s.heap H _ := hP
  refine nw_putF hC hP hin 0 rfl inW5 tyX5 tyX5_ok nmX5 rfl 5 (by decide) q_282 (fun _ h9 => h9) rfl rfl (by rfl) (by rfl) (Nat.le_of_ble_eq_true rfl) dX5_init_39 (fun H locs hP => ?_)
  have hP : nw_P (mvD V) vwCl [(h0, .inr (5, [.int 0, .ref z1, .ref z10, .int 0, .ref z11, .ref z12, .null, .int 0])), (z1, .inr (6, [.int 0, .ref z2, .ref z3, .ref z4, .ref z5, .int 0, .ref z6, .ref z7, .ref z8, .int 5, .ref z9])), (z2, .inl (mvI V, 8, .inl (fun _ => 0))), (z3, .inl (mvI V, 8, .inl (fun _ => 0))), (z4, .inl (mvI V, 8, .inl (fun _ => 0))), (z5, .inl (mvI V, 8, .inl (fun _ => 0))), (z6, .inl (mvI V, 200, .inl (fun _ => 0))), (z7, .inl (mvI V, 200, .inl (fun _ => 0))), (z8, .inl (mvI V, 200, .inl (fun _ => 0))), (z9, .inl (mvI V, 205, .inl (fun _ => 0))), (z10, .inl (mvI V, 200, .inl (fun _ => 0))), (z11, .inl (mvI V, 201, .inl (fun _ => 0))), (z12, .inl (mvI V, 201, .inl (fun _ => 0)))] A s.heap H _ := hP
  refine lv_aload_n hC.1 hC.2.1 dX5_init_42 rfl (lv_at hl 0 rfl) ?_
  refine lv_sipush hC.1 hC.2.1 dX5_init_43 cs_201 ?_
  refine nw_newa (n' := 201) hC hP 0 rfl (by decide) rfl (Nat.le_of_ble_eq_true rfl) (Nat.le_of_ble_eq_true rfl) (Nat.le_of_ble_eq_true rfl) dX5_init_46 (fun z13 H hP => ?_)
  have hP : nw_P (mvD V) vwCl [(h0, .inr (5, [.int 0, .ref z1, .ref z10, .int 0, .ref z11, .ref z12, .null, .int 0])), (z1, .inr (6, [.int 0, .ref z2, .ref z3, .ref z4, .ref z5, .int 0, .ref z6, .ref z7, .ref z8, .int 5, .ref z9])), (z2, .inl (mvI V, 8, .inl (fun _ => 0))), (z3, .inl (mvI V, 8, .inl (fun _ => 0))), (z4, .inl (mvI V, 8, .inl (fun _ => 0))), (z5, .inl (mvI V, 8, .inl (fun _ => 0))), (z6, .inl (mvI V, 200, .inl (fun _ => 0))), (z7, .inl (mvI V, 200, .inl (fun _ => 0))), (z8, .inl (mvI V, 200, .inl (fun _ => 0))), (z9, .inl (mvI V, 205, .inl (fun _ => 0))), (z10, .inl (mvI V, 200, .inl (fun _ => 0))), (z11, .inl (mvI V, 201, .inl (fun _ => 0))), (z12, .inl (mvI V, 201, .inl (fun _ => 0))), (z13, .inl (mvI V, 201, .inl (fun _ => 0)))] A s.heap H _ := hP
  refine nw_putF hC hP hin 0 rfl inW5 tyX5 tyX5_ok nmX5 rfl 6 (by decide) q_283 (fun _ h9 => h9) rfl rfl (by rfl) (by rfl) (Nat.le_of_ble_eq_true rfl) dX5_init_48 (fun H locs hP => ?_)
  have hP : nw_P (mvD V) vwCl [(h0, .inr (5, [.int 0, .ref z1, .ref z10, .int 0, .ref z11, .ref z12, .ref z13, .int 0])), (z1, .inr (6, [.int 0, .ref z2, .ref z3, .ref z4, .ref z5, .int 0, .ref z6, .ref z7, .ref z8, .int 5, .ref z9])), (z2, .inl (mvI V, 8, .inl (fun _ => 0))), (z3, .inl (mvI V, 8, .inl (fun _ => 0))), (z4, .inl (mvI V, 8, .inl (fun _ => 0))), (z5, .inl (mvI V, 8, .inl (fun _ => 0))), (z6, .inl (mvI V, 200, .inl (fun _ => 0))), (z7, .inl (mvI V, 200, .inl (fun _ => 0))), (z8, .inl (mvI V, 200, .inl (fun _ => 0))), (z9, .inl (mvI V, 205, .inl (fun _ => 0))), (z10, .inl (mvI V, 200, .inl (fun _ => 0))), (z11, .inl (mvI V, 201, .inl (fun _ => 0))), (z12, .inl (mvI V, 201, .inl (fun _ => 0))), (z13, .inl (mvI V, 201, .inl (fun _ => 0)))] A s.heap H _ := hP
  exact hret (w := [(h0, .inr (5, [.int 0, .ref z1, .ref z10, .int 0, .ref z11, .ref z12, .ref z13, .int 0])), (z1, .inr (6, [.int 0, .ref z2, .ref z3, .ref z4, .ref z5, .int 0, .ref z6, .ref z7, .ref z8, .int 5, .ref z9])), (z2, .inl (mvI V, 8, .inl (fun _ => 0))), (z3, .inl (mvI V, 8, .inl (fun _ => 0))), (z4, .inl (mvI V, 8, .inl (fun _ => 0))), (z5, .inl (mvI V, 8, .inl (fun _ => 0))), (z6, .inl (mvI V, 200, .inl (fun _ => 0))), (z7, .inl (mvI V, 200, .inl (fun _ => 0))), (z8, .inl (mvI V, 200, .inl (fun _ => 0))), (z9, .inl (mvI V, 205, .inl (fun _ => 0))), (z10, .inl (mvI V, 200, .inl (fun _ => 0))), (z11, .inl (mvI V, 201, .inl (fun _ => 0))), (z12, .inl (mvI V, 201, .inl (fun _ => 0))), (z13, .inl (mvI V, 201, .inl (fun _ => 0)))]) ⟨z1, z2, z3, z4, z5, z6, z7, z8, z9, z10, z11, z12, z13, rfl⟩ hP dX5_init_51
set_option maxHeartbeats 4000000 in
set_option maxRecDepth 100000 in
theorem kX9_init (V : mV) (l : Launch) (h0 : Nat) (tr : Nat) : nw_Mv (mvD V) vwCl (mvY V) ssL (mvK V) (mvW V) l yX9_init cX9_init 2 ({ frames := 1, cells := 0, slots := 0, locals := 12 } : Room) [.ref h0, .ref tr] [(h0, .inr (9, [.null, .int 0, .int 0]))] (fun w => w = [(h0, .inr (9, [.ref tr, .int 0, .int 0]))]) 0 0 := by
  refine nw_enter RX9 rfl (by decide +kernel) rfl (Nat.le_of_ble_eq_true rfl) (fun {p e s m args below meth c} ls A Q hC hin hret hP hl => ?_)
  have hl : lv_has ls 2 [(0, .ref h0), (1, .ref tr)] := hl
  have hP : nw_P (mvD V) vwCl [(h0, .inr (9, [.null, .int 0, .int 0]))] A s.heap s.heap [] := hP
  refine lv_aload_n hC.1 hC.2.1 dX9_init_0 rfl (lv_at hl 0 rfl) ?_
  refine nw_obj hC hl.1 q_308 q_134 q_135 dX9_init_1 (Nat.le_of_ble_eq_true rfl) (Nat.le_of_ble_eq_true rfl) ?_
  refine lv_aload_n hC.1 hC.2.1 dX9_init_4 rfl (lv_at hl 0 rfl) ?_
  refine lv_aload_n hC.1 hC.2.1 dX9_init_5 rfl (lv_at hl 1 rfl) ?_
  refine nw_putF hC hP hin 0 rfl inW9 tyX9 tyX9_ok nmX9 rfl 0 (by decide) q_309 (fun _ h9 => h9) rfl rfl (by rfl) (by rfl) (Nat.le_of_ble_eq_true rfl) dX9_init_6 (fun H locs hP => ?_)
  have hP : nw_P (mvD V) vwCl [(h0, .inr (9, [.ref tr, .int 0, .int 0]))] A s.heap H _ := hP
  exact hret (w := [(h0, .inr (9, [.ref tr, .int 0, .int 0]))]) rfl hP dX9_init_9
set_option maxHeartbeats 4000000 in
set_option maxRecDepth 100000 in
theorem kX9_init_Lover (V : mV) (l : Launch) (h0 : Nat) (tr : Nat) : nw_Mv (mvD V) vwCl (mvY V) ssL (mvK V) (mvW V) l yX9_init cX9_init 2 ({ frames := 1, cells := 0, slots := 0, locals := 12 } : Room) [.ref h0, .ref tr] [(h0, .inr (3, [.null, .int 0, .int 0]))] (fun w => w = [(h0, .inr (3, [.ref tr, .int 0, .int 0]))]) 0 0 := by
  refine nw_enter RX9 rfl (by decide +kernel) rfl (Nat.le_of_ble_eq_true rfl) (fun {p e s m args below meth c} ls A Q hC hin hret hP hl => ?_)
  have hl : lv_has ls 2 [(0, .ref h0), (1, .ref tr)] := hl
  have hP : nw_P (mvD V) vwCl [(h0, .inr (3, [.null, .int 0, .int 0]))] A s.heap s.heap [] := hP
  refine lv_aload_n hC.1 hC.2.1 dX9_init_0 rfl (lv_at hl 0 rfl) ?_
  refine nw_obj hC hl.1 q_308 q_134 q_135 dX9_init_1 (Nat.le_of_ble_eq_true rfl) (Nat.le_of_ble_eq_true rfl) ?_
  refine lv_aload_n hC.1 hC.2.1 dX9_init_4 rfl (lv_at hl 0 rfl) ?_
  refine lv_aload_n hC.1 hC.2.1 dX9_init_5 rfl (lv_at hl 1 rfl) ?_
  refine nw_putF hC hP hin 0 rfl inW3 tyX3 tyX3_ok nmX3 rfl 0 (by decide) q_309 (fun _ h9 => h9) rfl rfl (by rfl) (by rfl) (Nat.le_of_ble_eq_true rfl) dX9_init_6 (fun H locs hP => ?_)
  have hP : nw_P (mvD V) vwCl [(h0, .inr (3, [.ref tr, .int 0, .int 0]))] A s.heap H _ := hP
  exact hret (w := [(h0, .inr (3, [.ref tr, .int 0, .int 0]))]) rfl hP dX9_init_9
set_option maxHeartbeats 4000000 in
set_option maxRecDepth 100000 in
theorem kX3_init (V : mV) (l : Launch) (h0 : Nat) (tr : Nat) : nw_Mv (mvD V) vwCl (mvY V) ssL (mvK V) (mvW V) l yX3_init cX3_init 2 ({ frames := 2, cells := 0, slots := 0, locals := 33 } : Room) [.ref h0, .ref tr] [(h0, .inr (3, [.null, .int 0, .int 0]))] (fun w => w = [(h0, .inr (3, [.ref tr, .int 0, .int 0]))]) 0 0 := by
  refine nw_enter RX3 rfl (by decide +kernel) rfl (Nat.le_of_ble_eq_true rfl) (fun {p e s m args below meth c} ls A Q hC hin hret hP hl => ?_)
  have hl : lv_has ls 2 [(0, .ref h0), (1, .ref tr)] := hl
  have hP : nw_P (mvD V) vwCl [(h0, .inr (3, [.null, .int 0, .int 0]))] A s.heap s.heap [] := hP
  refine lv_aload_n hC.1 hC.2.1 dX3_init_0 rfl (lv_at hl 0 rfl) ?_
  refine lv_aload_n hC.1 hC.2.1 dX3_init_1 rfl (lv_at hl 1 rfl) ?_
  refine nw_cI (As := [.ref tr]) (rest := []) (wc := [(h0, .inr (3, [.null, .int 0, .int 0]))]) (wr := []) hC hP (kX9_init_Lover V l h0 tr) [0] [] rfl rfl (by decide) (by decide) (by decide) q_342 q_306 q_112 q_307 ⟨rfl, rfl⟩ kS_X9_init ⟨Nat.le_of_ble_eq_true rfl, Nat.le_of_ble_eq_true rfl⟩ rfl rfl rfl (Nat.le_of_ble_eq_true rfl) hl.1 ⟨Nat.le_of_ble_eq_true rfl, Nat.le_of_ble_eq_true rfl⟩ dX3_init_2 (fun w H locs hw hP => ?_)
  obtain rfl := hw
  have hP : nw_P (mvD V) vwCl [(h0, .inr (3, [.ref tr, .int 0, .int 0]))] A s.heap H _ := hP
  exact hret (w := [(h0, .inr (3, [.ref tr, .int 0, .int 0]))]) rfl hP dX3_init_5
set_option maxHeartbeats 4000000 in
set_option maxRecDepth 100000 in
theorem kX9_init_Debtor (V : mV) (l : Launch) (h0 : Nat) (tr : Nat) : nw_Mv (mvD V) vwCl (mvY V) ssL (mvK V) (mvW V) l yX9_init cX9_init 2 ({ frames := 1, cells := 0, slots := 0, locals := 12 } : Room) [.ref h0, .ref tr] [(h0, .inr (1, [.null, .int 0, .int 0]))] (fun w => w = [(h0, .inr (1, [.ref tr, .int 0, .int 0]))]) 0 0 := by
  refine nw_enter RX9 rfl (by decide +kernel) rfl (Nat.le_of_ble_eq_true rfl) (fun {p e s m args below meth c} ls A Q hC hin hret hP hl => ?_)
  have hl : lv_has ls 2 [(0, .ref h0), (1, .ref tr)] := hl
  have hP : nw_P (mvD V) vwCl [(h0, .inr (1, [.null, .int 0, .int 0]))] A s.heap s.heap [] := hP
  refine lv_aload_n hC.1 hC.2.1 dX9_init_0 rfl (lv_at hl 0 rfl) ?_
  refine nw_obj hC hl.1 q_308 q_134 q_135 dX9_init_1 (Nat.le_of_ble_eq_true rfl) (Nat.le_of_ble_eq_true rfl) ?_
  refine lv_aload_n hC.1 hC.2.1 dX9_init_4 rfl (lv_at hl 0 rfl) ?_
  refine lv_aload_n hC.1 hC.2.1 dX9_init_5 rfl (lv_at hl 1 rfl) ?_
  refine nw_putF hC hP hin 0 rfl inW1 tyX1 tyX1_ok nmX1 rfl 0 (by decide) q_309 (fun _ h9 => h9) rfl rfl (by rfl) (by rfl) (Nat.le_of_ble_eq_true rfl) dX9_init_6 (fun H locs hP => ?_)
  have hP : nw_P (mvD V) vwCl [(h0, .inr (1, [.ref tr, .int 0, .int 0]))] A s.heap H _ := hP
  exact hret (w := [(h0, .inr (1, [.ref tr, .int 0, .int 0]))]) rfl hP dX9_init_9
set_option maxHeartbeats 4000000 in
set_option maxRecDepth 100000 in
theorem kX1_init (V : mV) (l : Launch) (h0 : Nat) (tr : Nat) : nw_Mv (mvD V) vwCl (mvY V) ssL (mvK V) (mvW V) l yX1_init cX1_init 2 ({ frames := 2, cells := 0, slots := 0, locals := 33 } : Room) [.ref h0, .ref tr] [(h0, .inr (1, [.null, .int 0, .int 0]))] (fun w => w = [(h0, .inr (1, [.ref tr, .int 0, .int 0]))]) 0 0 := by
  refine nw_enter RX1 rfl (by decide +kernel) rfl (Nat.le_of_ble_eq_true rfl) (fun {p e s m args below meth c} ls A Q hC hin hret hP hl => ?_)
  have hl : lv_has ls 2 [(0, .ref h0), (1, .ref tr)] := hl
  have hP : nw_P (mvD V) vwCl [(h0, .inr (1, [.null, .int 0, .int 0]))] A s.heap s.heap [] := hP
  refine lv_aload_n hC.1 hC.2.1 dX1_init_0 rfl (lv_at hl 0 rfl) ?_
  refine lv_aload_n hC.1 hC.2.1 dX1_init_1 rfl (lv_at hl 1 rfl) ?_
  refine nw_cI (As := [.ref tr]) (rest := []) (wc := [(h0, .inr (1, [.null, .int 0, .int 0]))]) (wr := []) hC hP (kX9_init_Debtor V l h0 tr) [0] [] rfl rfl (by decide) (by decide) (by decide) q_352 q_306 q_112 q_307 ⟨rfl, rfl⟩ kS_X9_init ⟨Nat.le_of_ble_eq_true rfl, Nat.le_of_ble_eq_true rfl⟩ rfl rfl rfl (Nat.le_of_ble_eq_true rfl) hl.1 ⟨Nat.le_of_ble_eq_true rfl, Nat.le_of_ble_eq_true rfl⟩ dX1_init_2 (fun w H locs hw hP => ?_)
  obtain rfl := hw
  have hP : nw_P (mvD V) vwCl [(h0, .inr (1, [.ref tr, .int 0, .int 0]))] A s.heap H _ := hP
  exact hret (w := [(h0, .inr (1, [.ref tr, .int 0, .int 0]))]) rfl hP dX1_init_5
set_option maxHeartbeats 4000000 in
set_option maxRecDepth 100000 in
theorem kX9_init_Shift (V : mV) (l : Launch) (h0 : Nat) (tr : Nat) : nw_Mv (mvD V) vwCl (mvY V) ssL (mvK V) (mvW V) l yX9_init cX9_init 2 ({ frames := 1, cells := 0, slots := 0, locals := 12 } : Room) [.ref h0, .ref tr] [(h0, .inr (7, [.null, .int 0, .int 0]))] (fun w => w = [(h0, .inr (7, [.ref tr, .int 0, .int 0]))]) 0 0 := by
  refine nw_enter RX9 rfl (by decide +kernel) rfl (Nat.le_of_ble_eq_true rfl) (fun {p e s m args below meth c} ls A Q hC hin hret hP hl => ?_)
  have hl : lv_has ls 2 [(0, .ref h0), (1, .ref tr)] := hl
  have hP : nw_P (mvD V) vwCl [(h0, .inr (7, [.null, .int 0, .int 0]))] A s.heap s.heap [] := hP
  refine lv_aload_n hC.1 hC.2.1 dX9_init_0 rfl (lv_at hl 0 rfl) ?_
  refine nw_obj hC hl.1 q_308 q_134 q_135 dX9_init_1 (Nat.le_of_ble_eq_true rfl) (Nat.le_of_ble_eq_true rfl) ?_
  refine lv_aload_n hC.1 hC.2.1 dX9_init_4 rfl (lv_at hl 0 rfl) ?_
  refine lv_aload_n hC.1 hC.2.1 dX9_init_5 rfl (lv_at hl 1 rfl) ?_
  refine nw_putF hC hP hin 0 rfl inW7 tyX7 tyX7_ok nmX7 rfl 0 (by decide) q_309 (fun _ h9 => h9) rfl rfl (by rfl) (by rfl) (Nat.le_of_ble_eq_true rfl) dX9_init_6 (fun H locs hP => ?_)
  have hP : nw_P (mvD V) vwCl [(h0, .inr (7, [.ref tr, .int 0, .int 0]))] A s.heap H _ := hP
  exact hret (w := [(h0, .inr (7, [.ref tr, .int 0, .int 0]))]) rfl hP dX9_init_9
set_option maxHeartbeats 4000000 in
set_option maxRecDepth 100000 in
theorem kX1_init_Shift (V : mV) (l : Launch) (h0 : Nat) (tr : Nat) : nw_Mv (mvD V) vwCl (mvY V) ssL (mvK V) (mvW V) l yX1_init cX1_init 2 ({ frames := 2, cells := 0, slots := 0, locals := 33 } : Room) [.ref h0, .ref tr] [(h0, .inr (7, [.null, .int 0, .int 0]))] (fun w => w = [(h0, .inr (7, [.ref tr, .int 0, .int 0]))]) 0 0 := by
  refine nw_enter RX1 rfl (by decide +kernel) rfl (Nat.le_of_ble_eq_true rfl) (fun {p e s m args below meth c} ls A Q hC hin hret hP hl => ?_)
  have hl : lv_has ls 2 [(0, .ref h0), (1, .ref tr)] := hl
  have hP : nw_P (mvD V) vwCl [(h0, .inr (7, [.null, .int 0, .int 0]))] A s.heap s.heap [] := hP
  refine lv_aload_n hC.1 hC.2.1 dX1_init_0 rfl (lv_at hl 0 rfl) ?_
  refine lv_aload_n hC.1 hC.2.1 dX1_init_1 rfl (lv_at hl 1 rfl) ?_
  refine nw_cI (As := [.ref tr]) (rest := []) (wc := [(h0, .inr (7, [.null, .int 0, .int 0]))]) (wr := []) hC hP (kX9_init_Shift V l h0 tr) [0] [] rfl rfl (by decide) (by decide) (by decide) q_352 q_306 q_112 q_307 ⟨rfl, rfl⟩ kS_X9_init ⟨Nat.le_of_ble_eq_true rfl, Nat.le_of_ble_eq_true rfl⟩ rfl rfl rfl (Nat.le_of_ble_eq_true rfl) hl.1 ⟨Nat.le_of_ble_eq_true rfl, Nat.le_of_ble_eq_true rfl⟩ dX1_init_2 (fun w H locs hw hP => ?_)
  obtain rfl := hw
  have hP : nw_P (mvD V) vwCl [(h0, .inr (7, [.ref tr, .int 0, .int 0]))] A s.heap H _ := hP
  exact hret (w := [(h0, .inr (7, [.ref tr, .int 0, .int 0]))]) rfl hP dX1_init_5
set_option maxHeartbeats 4000000 in
set_option maxRecDepth 100000 in
theorem kX7_init (V : mV) (l : Launch) (h0 : Nat) (tr : Nat) : nw_Mv (mvD V) vwCl (mvY V) ssL (mvK V) (mvW V) l yX7_init cX7_init 2 ({ frames := 3, cells := 0, slots := 0, locals := 54 } : Room) [.ref h0, .ref tr] [(h0, .inr (7, [.null, .int 0, .int 0]))] (fun w => w = [(h0, .inr (7, [.ref tr, .int 0, .int 0]))]) 0 0 := by
  refine nw_enter RX7 rfl (by decide +kernel) rfl (Nat.le_of_ble_eq_true rfl) (fun {p e s m args below meth c} ls A Q hC hin hret hP hl => ?_)
  have hl : lv_has ls 2 [(0, .ref h0), (1, .ref tr)] := hl
  have hP : nw_P (mvD V) vwCl [(h0, .inr (7, [.null, .int 0, .int 0]))] A s.heap s.heap [] := hP
  refine lv_aload_n hC.1 hC.2.1 dX7_init_0 rfl (lv_at hl 0 rfl) ?_
  refine lv_aload_n hC.1 hC.2.1 dX7_init_1 rfl (lv_at hl 1 rfl) ?_
  refine nw_cI (As := [.ref tr]) (rest := []) (wc := [(h0, .inr (7, [.null, .int 0, .int 0]))]) (wr := []) hC hP (kX1_init_Shift V l h0 tr) [0] [] rfl rfl (by decide) (by decide) (by decide) q_362 q_350 q_114 q_351 ⟨rfl, rfl⟩ kS_X1_init ⟨Nat.le_of_ble_eq_true rfl, Nat.le_of_ble_eq_true rfl⟩ rfl rfl rfl (Nat.le_of_ble_eq_true rfl) hl.1 ⟨Nat.le_of_ble_eq_true rfl, Nat.le_of_ble_eq_true rfl⟩ dX7_init_2 (fun w H locs hw hP => ?_)
  obtain rfl := hw
  have hP : nw_P (mvD V) vwCl [(h0, .inr (7, [.ref tr, .int 0, .int 0]))] A s.heap H _ := hP
  exact hret (w := [(h0, .inr (7, [.ref tr, .int 0, .int 0]))]) rfl hP dX7_init_5
set_option maxHeartbeats 4000000 in
set_option maxRecDepth 100000 in
theorem kX9_init_Baker (V : mV) (l : Launch) (h0 : Nat) (tr : Nat) : nw_Mv (mvD V) vwCl (mvY V) ssL (mvK V) (mvW V) l yX9_init cX9_init 2 ({ frames := 1, cells := 0, slots := 0, locals := 12 } : Room) [.ref h0, .ref tr] [(h0, .inr (0, [.null, .int 0, .int 0]))] (fun w => w = [(h0, .inr (0, [.ref tr, .int 0, .int 0]))]) 0 0 := by
  refine nw_enter RX9 rfl (by decide +kernel) rfl (Nat.le_of_ble_eq_true rfl) (fun {p e s m args below meth c} ls A Q hC hin hret hP hl => ?_)
  have hl : lv_has ls 2 [(0, .ref h0), (1, .ref tr)] := hl
  have hP : nw_P (mvD V) vwCl [(h0, .inr (0, [.null, .int 0, .int 0]))] A s.heap s.heap [] := hP
  refine lv_aload_n hC.1 hC.2.1 dX9_init_0 rfl (lv_at hl 0 rfl) ?_
  refine nw_obj hC hl.1 q_308 q_134 q_135 dX9_init_1 (Nat.le_of_ble_eq_true rfl) (Nat.le_of_ble_eq_true rfl) ?_
  refine lv_aload_n hC.1 hC.2.1 dX9_init_4 rfl (lv_at hl 0 rfl) ?_
  refine lv_aload_n hC.1 hC.2.1 dX9_init_5 rfl (lv_at hl 1 rfl) ?_
  refine nw_putF hC hP hin 0 rfl inW0 tyX0 tyX0_ok nmX0 rfl 0 (by decide) q_309 (fun _ h9 => h9) rfl rfl (by rfl) (by rfl) (Nat.le_of_ble_eq_true rfl) dX9_init_6 (fun H locs hP => ?_)
  have hP : nw_P (mvD V) vwCl [(h0, .inr (0, [.ref tr, .int 0, .int 0]))] A s.heap H _ := hP
  exact hret (w := [(h0, .inr (0, [.ref tr, .int 0, .int 0]))]) rfl hP dX9_init_9
set_option maxHeartbeats 4000000 in
set_option maxRecDepth 100000 in
theorem kX0_init (V : mV) (l : Launch) (h0 : Nat) (tr : Nat) : nw_Mv (mvD V) vwCl (mvY V) ssL (mvK V) (mvW V) l yX0_init cX0_init 2 ({ frames := 2, cells := 0, slots := 0, locals := 33 } : Room) [.ref h0, .ref tr] [(h0, .inr (0, [.null, .int 0, .int 0]))] (fun w => w = [(h0, .inr (0, [.ref tr, .int 0, .int 0]))]) 0 0 := by
  refine nw_enter RX0 rfl (by decide +kernel) rfl (Nat.le_of_ble_eq_true rfl) (fun {p e s m args below meth c} ls A Q hC hin hret hP hl => ?_)
  have hl : lv_has ls 2 [(0, .ref h0), (1, .ref tr)] := hl
  have hP : nw_P (mvD V) vwCl [(h0, .inr (0, [.null, .int 0, .int 0]))] A s.heap s.heap [] := hP
  refine lv_aload_n hC.1 hC.2.1 dX0_init_0 rfl (lv_at hl 0 rfl) ?_
  refine lv_aload_n hC.1 hC.2.1 dX0_init_1 rfl (lv_at hl 1 rfl) ?_
  refine nw_cI (As := [.ref tr]) (rest := []) (wc := [(h0, .inr (0, [.null, .int 0, .int 0]))]) (wr := []) hC hP (kX9_init_Baker V l h0 tr) [0] [] rfl rfl (by decide) (by decide) (by decide) q_372 q_306 q_112 q_307 ⟨rfl, rfl⟩ kS_X9_init ⟨Nat.le_of_ble_eq_true rfl, Nat.le_of_ble_eq_true rfl⟩ rfl rfl rfl (Nat.le_of_ble_eq_true rfl) hl.1 ⟨Nat.le_of_ble_eq_true rfl, Nat.le_of_ble_eq_true rfl⟩ dX0_init_2 (fun w H locs hw hP => ?_)
  obtain rfl := hw
  have hP : nw_P (mvD V) vwCl [(h0, .inr (0, [.ref tr, .int 0, .int 0]))] A s.heap H _ := hP
  exact hret (w := [(h0, .inr (0, [.ref tr, .int 0, .int 0]))]) rfl hP dX0_init_5
set_option maxHeartbeats 4000000 in
set_option maxRecDepth 100000 in
theorem kX9_init_Sleeper (V : mV) (l : Launch) (h0 : Nat) (tr : Nat) : nw_Mv (mvD V) vwCl (mvY V) ssL (mvK V) (mvW V) l yX9_init cX9_init 2 ({ frames := 1, cells := 0, slots := 0, locals := 12 } : Room) [.ref h0, .ref tr] [(h0, .inr (8, [.null, .int 0, .int 0]))] (fun w => w = [(h0, .inr (8, [.ref tr, .int 0, .int 0]))]) 0 0 := by
  refine nw_enter RX9 rfl (by decide +kernel) rfl (Nat.le_of_ble_eq_true rfl) (fun {p e s m args below meth c} ls A Q hC hin hret hP hl => ?_)
  have hl : lv_has ls 2 [(0, .ref h0), (1, .ref tr)] := hl
  have hP : nw_P (mvD V) vwCl [(h0, .inr (8, [.null, .int 0, .int 0]))] A s.heap s.heap [] := hP
  refine lv_aload_n hC.1 hC.2.1 dX9_init_0 rfl (lv_at hl 0 rfl) ?_
  refine nw_obj hC hl.1 q_308 q_134 q_135 dX9_init_1 (Nat.le_of_ble_eq_true rfl) (Nat.le_of_ble_eq_true rfl) ?_
  refine lv_aload_n hC.1 hC.2.1 dX9_init_4 rfl (lv_at hl 0 rfl) ?_
  refine lv_aload_n hC.1 hC.2.1 dX9_init_5 rfl (lv_at hl 1 rfl) ?_
  refine nw_putF hC hP hin 0 rfl inW8 tyX8 tyX8_ok nmX8 rfl 0 (by decide) q_309 (fun _ h9 => h9) rfl rfl (by rfl) (by rfl) (Nat.le_of_ble_eq_true rfl) dX9_init_6 (fun H locs hP => ?_)
  have hP : nw_P (mvD V) vwCl [(h0, .inr (8, [.ref tr, .int 0, .int 0]))] A s.heap H _ := hP
  exact hret (w := [(h0, .inr (8, [.ref tr, .int 0, .int 0]))]) rfl hP dX9_init_9
set_option maxHeartbeats 4000000 in
set_option maxRecDepth 100000 in
theorem kX0_init_Sleeper (V : mV) (l : Launch) (h0 : Nat) (tr : Nat) : nw_Mv (mvD V) vwCl (mvY V) ssL (mvK V) (mvW V) l yX0_init cX0_init 2 ({ frames := 2, cells := 0, slots := 0, locals := 33 } : Room) [.ref h0, .ref tr] [(h0, .inr (8, [.null, .int 0, .int 0]))] (fun w => w = [(h0, .inr (8, [.ref tr, .int 0, .int 0]))]) 0 0 := by
  refine nw_enter RX0 rfl (by decide +kernel) rfl (Nat.le_of_ble_eq_true rfl) (fun {p e s m args below meth c} ls A Q hC hin hret hP hl => ?_)
  have hl : lv_has ls 2 [(0, .ref h0), (1, .ref tr)] := hl
  have hP : nw_P (mvD V) vwCl [(h0, .inr (8, [.null, .int 0, .int 0]))] A s.heap s.heap [] := hP
  refine lv_aload_n hC.1 hC.2.1 dX0_init_0 rfl (lv_at hl 0 rfl) ?_
  refine lv_aload_n hC.1 hC.2.1 dX0_init_1 rfl (lv_at hl 1 rfl) ?_
  refine nw_cI (As := [.ref tr]) (rest := []) (wc := [(h0, .inr (8, [.null, .int 0, .int 0]))]) (wr := []) hC hP (kX9_init_Sleeper V l h0 tr) [0] [] rfl rfl (by decide) (by decide) (by decide) q_372 q_306 q_112 q_307 ⟨rfl, rfl⟩ kS_X9_init ⟨Nat.le_of_ble_eq_true rfl, Nat.le_of_ble_eq_true rfl⟩ rfl rfl rfl (Nat.le_of_ble_eq_true rfl) hl.1 ⟨Nat.le_of_ble_eq_true rfl, Nat.le_of_ble_eq_true rfl⟩ dX0_init_2 (fun w H locs hw hP => ?_)
  obtain rfl := hw
  have hP : nw_P (mvD V) vwCl [(h0, .inr (8, [.ref tr, .int 0, .int 0]))] A s.heap H _ := hP
  exact hret (w := [(h0, .inr (8, [.ref tr, .int 0, .int 0]))]) rfl hP dX0_init_5
set_option maxHeartbeats 4000000 in
set_option maxRecDepth 100000 in
theorem kX8_init (V : mV) (l : Launch) (h0 : Nat) (tr : Nat) : nw_Mv (mvD V) vwCl (mvY V) ssL (mvK V) (mvW V) l yX8_init cX8_init 2 ({ frames := 3, cells := 0, slots := 0, locals := 54 } : Room) [.ref h0, .ref tr] [(h0, .inr (8, [.null, .int 0, .int 0]))] (fun w => w = [(h0, .inr (8, [.ref tr, .int 0, .int 0]))]) 0 0 := by
  refine nw_enter RX8 rfl (by decide +kernel) rfl (Nat.le_of_ble_eq_true rfl) (fun {p e s m args below meth c} ls A Q hC hin hret hP hl => ?_)
  have hl : lv_has ls 2 [(0, .ref h0), (1, .ref tr)] := hl
  have hP : nw_P (mvD V) vwCl [(h0, .inr (8, [.null, .int 0, .int 0]))] A s.heap s.heap [] := hP
  refine lv_aload_n hC.1 hC.2.1 dX8_init_0 rfl (lv_at hl 0 rfl) ?_
  refine lv_aload_n hC.1 hC.2.1 dX8_init_1 rfl (lv_at hl 1 rfl) ?_
  refine nw_cI (As := [.ref tr]) (rest := []) (wc := [(h0, .inr (8, [.null, .int 0, .int 0]))]) (wr := []) hC hP (kX0_init_Sleeper V l h0 tr) [0] [] rfl rfl (by decide) (by decide) (by decide) q_382 q_370 q_116 q_371 ⟨rfl, rfl⟩ kS_X0_init ⟨Nat.le_of_ble_eq_true rfl, Nat.le_of_ble_eq_true rfl⟩ rfl rfl rfl (Nat.le_of_ble_eq_true rfl) hl.1 ⟨Nat.le_of_ble_eq_true rfl, Nat.le_of_ble_eq_true rfl⟩ dX8_init_2 (fun w H locs hw hP => ?_)
  obtain rfl := hw
  have hP : nw_P (mvD V) vwCl [(h0, .inr (8, [.ref tr, .int 0, .int 0]))] A s.heap H _ := hP
  exact hret (w := [(h0, .inr (8, [.ref tr, .int 0, .int 0]))]) rfl hP dX8_init_5
set_option maxHeartbeats 4000000 in
set_option maxRecDepth 100000 in
theorem kX2_init (V : mV) (l : Launch) (h0 : Nat) : nw_Mv (mvD V) vwCl (mvY V) ssL (mvK V) (mvW V) l yX2_init cX2_init 1 ({ frames := 1, cells := 6, slots := 180, locals := 12 } : Room) [.ref h0] [(h0, .inr (2, [.null, .null, .null, .null, .null, .null]))] (fun w => ∃ (z1 z2 z3 z4 z5 z6 : Nat), w = [(h0, .inr (2, [.ref z1, .ref z2, .ref z3, .ref z4, .ref z5, .ref z6])), (z1, .inl (mvI V, 4, .inl (upd (upd (upd (upd (fun _ => 0) 0 (-1)) 1 (-1)) 2 (-1)) 3 (-1)))), (z2, .inl (mvI V, 4, .inl (upd (upd (upd (upd (fun _ => 0) 0 2) 1 2) 2 2) 3 2))), (z3, .inl (mvI V, 4, .inl (fun _ => 0))), (z4, .inl (mvI V, 4, .inl (fun _ => 0))), (z5, .inl (mvI V, 4, .inl (fun _ => 0))), (z6, .inl (mvI V, 160, .inl (fun _ => 0)))]) 6 180 := by
  refine nw_enter RX2 rfl (by decide +kernel) rfl (Nat.le_of_ble_eq_true rfl) (fun {p e s m args below meth c} ls A Q hC hin hret hP hl => ?_)
  have hl : lv_has ls 1 [(0, .ref h0)] := hl
  have hP : nw_P (mvD V) vwCl [(h0, .inr (2, [.null, .null, .null, .null, .null, .null]))] A s.heap s.heap [] := hP
  refine lv_aload_n hC.1 hC.2.1 dX2_init_0 rfl (lv_at hl 0 rfl) ?_
  refine nw_obj hC hl.1 q_392 q_134 q_135 dX2_init_1 (Nat.le_of_ble_eq_true rfl) (Nat.le_of_ble_eq_true rfl) ?_
  refine lv_aload_n hC.1 hC.2.1 dX2_init_4 rfl (lv_at hl 0 rfl) ?_
  refine lv_iconst hC.1 hC.2.1 dX2_init_5 ci_4 ?_
  refine nw_newa (n' := 4) hC hP 0 rfl (by decide) rfl (Nat.le_of_ble_eq_true rfl) (Nat.le_of_ble_eq_true rfl) (Nat.le_of_ble_eq_true rfl) dX2_init_6 (fun z1 H hP => ?_)
  have hP : nw_P (mvD V) vwCl [(h0, .inr (2, [.null, .null, .null, .null, .null, .null])), (z1, .inl (mvI V, 4, .inl (fun _ => 0)))] A s.heap H _ := hP
  refine lv_dup hC.1 hC.2.1 dX2_init_8 rfl ?_
  refine lv_iconst hC.1 hC.2.1 dX2_init_9 ci_0 ?_
  refine lv_iconst hC.1 hC.2.1 dX2_init_10 ci_m1 ?_
  refine nw_ast hC hP 1 0 rfl rfl (by decide) dX2_init_11 (fun H locs hP => ?_)
  have hP : nw_P (mvD V) vwCl [(h0, .inr (2, [.null, .null, .null, .null, .null, .null])), (z1, .inl (mvI V, 4, .inl (upd (fun _ => 0) 0 (-1))))] A s.heap H _ := hP
  refine lv_dup hC.1 hC.2.1 dX2_init_12 rfl ?_
  refine lv_iconst hC.1 hC.2.1 dX2_init_13 ci_1 ?_
  refine lv_iconst hC.1 hC.2.1 dX2_init_14 ci_m1 ?_
  refine nw_ast hC hP 1 0 rfl rfl (by decide) dX2_init_15 (fun H locs hP => ?_)
  have hP : nw_P (mvD V) vwCl [(h0, .inr (2, [.null, .null, .null, .null, .null, .null])), (z1, .inl (mvI V, 4, .inl (upd (upd (fun _ => 0) 0 (-1)) 1 (-1))))] A s.heap H _ := hP
  refine lv_dup hC.1 hC.2.1 dX2_init_16 rfl ?_
  refine lv_iconst hC.1 hC.2.1 dX2_init_17 ci_2 ?_
  refine lv_iconst hC.1 hC.2.1 dX2_init_18 ci_m1 ?_
  refine nw_ast hC hP 1 0 rfl rfl (by decide) dX2_init_19 (fun H locs hP => ?_)
  have hP : nw_P (mvD V) vwCl [(h0, .inr (2, [.null, .null, .null, .null, .null, .null])), (z1, .inl (mvI V, 4, .inl (upd (upd (upd (fun _ => 0) 0 (-1)) 1 (-1)) 2 (-1))))] A s.heap H _ := hP
  refine lv_dup hC.1 hC.2.1 dX2_init_20 rfl ?_
  refine lv_iconst hC.1 hC.2.1 dX2_init_21 ci_3 ?_
  refine lv_iconst hC.1 hC.2.1 dX2_init_22 ci_m1 ?_
  refine nw_ast hC hP 1 0 rfl rfl (by decide) dX2_init_23 (fun H locs hP => ?_)
  have hP : nw_P (mvD V) vwCl [(h0, .inr (2, [.null, .null, .null, .null, .null, .null])), (z1, .inl (mvI V, 4, .inl (upd (upd (upd (upd (fun _ => 0) 0 (-1)) 1 (-1)) 2 (-1)) 3 (-1))))] A s.heap H _ := hP
  refine nw_putF hC hP hin 0 rfl inW2 tyX2 tyX2_ok nmX2 rfl 0 (by decide) q_393 (fun _ h9 => h9) rfl rfl (by rfl) (by rfl) (Nat.le_of_ble_eq_true rfl) dX2_init_24 (fun H locs hP => ?_)
  have hP : nw_P (mvD V) vwCl [(h0, .inr (2, [.ref z1, .null, .null, .null, .null, .null])), (z1, .inl (mvI V, 4, .inl (upd (upd (upd (upd (fun _ => 0) 0 (-1)) 1 (-1)) 2 (-1)) 3 (-1))))] A s.heap H _ := hP
  refine lv_aload_n hC.1 hC.2.1 dX2_init_27 rfl (lv_at hl 0 rfl) ?_
  refine lv_iconst hC.1 hC.2.1 dX2_init_28 ci_4 ?_
  refine nw_newa (n' := 4) hC hP 0 rfl (by decide) rfl (Nat.le_of_ble_eq_true rfl) (Nat.le_of_ble_eq_true rfl) (Nat.le_of_ble_eq_true rfl) dX2_init_29 (fun z2 H hP => ?_)
  have hP : nw_P (mvD V) vwCl [(h0, .inr (2, [.ref z1, .null, .null, .null, .null, .null])), (z1, .inl (mvI V, 4, .inl (upd (upd (upd (upd (fun _ => 0) 0 (-1)) 1 (-1)) 2 (-1)) 3 (-1)))), (z2, .inl (mvI V, 4, .inl (fun _ => 0)))] A s.heap H _ := hP
  refine lv_dup hC.1 hC.2.1 dX2_init_31 rfl ?_
  refine lv_iconst hC.1 hC.2.1 dX2_init_32 ci_0 ?_
  refine lv_iconst hC.1 hC.2.1 dX2_init_33 ci_2 ?_
  refine nw_ast hC hP 2 0 rfl rfl (by decide) dX2_init_34 (fun H locs hP => ?_)
  have hP : nw_P (mvD V) vwCl [(h0, .inr (2, [.ref z1, .null, .null, .null, .null, .null])), (z1, .inl (mvI V, 4, .inl (upd (upd (upd (upd (fun _ => 0) 0 (-1)) 1 (-1)) 2 (-1)) 3 (-1)))), (z2, .inl (mvI V, 4, .inl (upd (fun _ => 0) 0 2)))] A s.heap H _ := hP
  refine lv_dup hC.1 hC.2.1 dX2_init_35 rfl ?_
  refine lv_iconst hC.1 hC.2.1 dX2_init_36 ci_1 ?_
  refine lv_iconst hC.1 hC.2.1 dX2_init_37 ci_2 ?_
  refine nw_ast hC hP 2 0 rfl rfl (by decide) dX2_init_38 (fun H locs hP => ?_)
  have hP : nw_P (mvD V) vwCl [(h0, .inr (2, [.ref z1, .null, .null, .null, .null, .null])), (z1, .inl (mvI V, 4, .inl (upd (upd (upd (upd (fun _ => 0) 0 (-1)) 1 (-1)) 2 (-1)) 3 (-1)))), (z2, .inl (mvI V, 4, .inl (upd (upd (fun _ => 0) 0 2) 1 2)))] A s.heap H _ := hP
  refine lv_dup hC.1 hC.2.1 dX2_init_39 rfl ?_
  refine lv_iconst hC.1 hC.2.1 dX2_init_40 ci_2 ?_
  refine lv_iconst hC.1 hC.2.1 dX2_init_41 ci_2 ?_
  refine nw_ast hC hP 2 0 rfl rfl (by decide) dX2_init_42 (fun H locs hP => ?_)
  have hP : nw_P (mvD V) vwCl [(h0, .inr (2, [.ref z1, .null, .null, .null, .null, .null])), (z1, .inl (mvI V, 4, .inl (upd (upd (upd (upd (fun _ => 0) 0 (-1)) 1 (-1)) 2 (-1)) 3 (-1)))), (z2, .inl (mvI V, 4, .inl (upd (upd (upd (fun _ => 0) 0 2) 1 2) 2 2)))] A s.heap H _ := hP
  refine lv_dup hC.1 hC.2.1 dX2_init_43 rfl ?_
  refine lv_iconst hC.1 hC.2.1 dX2_init_44 ci_3 ?_
  refine lv_iconst hC.1 hC.2.1 dX2_init_45 ci_2 ?_
  refine nw_ast hC hP 2 0 rfl rfl (by decide) dX2_init_46 (fun H locs hP => ?_)
  have hP : nw_P (mvD V) vwCl [(h0, .inr (2, [.ref z1, .null, .null, .null, .null, .null])), (z1, .inl (mvI V, 4, .inl (upd (upd (upd (upd (fun _ => 0) 0 (-1)) 1 (-1)) 2 (-1)) 3 (-1)))), (z2, .inl (mvI V, 4, .inl (upd (upd (upd (upd (fun _ => 0) 0 2) 1 2) 2 2) 3 2)))] A s.heap H _ := hP
  refine nw_putF hC hP hin 0 rfl inW2 tyX2 tyX2_ok nmX2 rfl 1 (by decide) q_395 (fun _ h9 => h9) rfl rfl (by rfl) (by rfl) (Nat.le_of_ble_eq_true rfl) dX2_init_47 (fun H locs hP => ?_)
  have hP : nw_P (mvD V) vwCl [(h0, .inr (2, [.ref z1, .ref z2, .null, .null, .null, .null])), (z1, .inl (mvI V, 4, .inl (upd (upd (upd (upd (fun _ => 0) 0 (-1)) 1 (-1)) 2 (-1)) 3 (-1)))), (z2, .inl (mvI V, 4, .inl (upd (upd (upd (upd (fun _ => 0) 0 2) 1 2) 2 2) 3 2)))] A s.heap H _ := hP
  refine lv_aload_n hC.1 hC.2.1 dX2_init_50 rfl (lv_at hl 0 rfl) ?_
  refine lv_iconst hC.1 hC.2.1 dX2_init_51 ci_4 ?_
  refine nw_newa (n' := 4) hC hP 0 rfl (by decide) rfl (Nat.le_of_ble_eq_true rfl) (Nat.le_of_ble_eq_true rfl) (Nat.le_of_ble_eq_true rfl) dX2_init_52 (fun z3 H hP => ?_)
  have hP : nw_P (mvD V) vwCl [(h0, .inr (2, [.ref z1, .ref z2, .null, .null, .null, .null])), (z1, .inl (mvI V, 4, .inl (upd (upd (upd (upd (fun _ => 0) 0 (-1)) 1 (-1)) 2 (-1)) 3 (-1)))), (z2, .inl (mvI V, 4, .inl (upd (upd (upd (upd (fun _ => 0) 0 2) 1 2) 2 2) 3 2))), (z3, .inl (mvI V, 4, .inl (fun _ => 0)))] A s.heap H _ := hP
  refine nw_putF hC hP hin 0 rfl inW2 tyX2 tyX2_ok nmX2 rfl 2 (by decide) q_397 (fun _ h9 => h9) rfl rfl (by rfl) (by rfl) (Nat.le_of_ble_eq_true rfl) dX2_init_54 (fun H locs hP => ?_)
  have hP : nw_P (mvD V) vwCl [(h0, .inr (2, [.ref z1, .ref z2, .ref z3, .null, .null, .null])), (z1, .inl (mvI V, 4, .inl (upd (upd (upd (upd (fun _ => 0) 0 (-1)) 1 (-1)) 2 (-1)) 3 (-1)))), (z2, .inl (mvI V, 4, .inl (upd (upd (upd (upd (fun _ => 0) 0 2) 1 2) 2 2) 3 2))), (z3, .inl (mvI V, 4, .inl (fun _ => 0)))] A s.heap H _ := hP
  refine lv_aload_n hC.1 hC.2.1 dX2_init_57 rfl (lv_at hl 0 rfl) ?_
  refine lv_iconst hC.1 hC.2.1 dX2_init_58 ci_4 ?_
  refine nw_newa (n' := 4) hC hP 0 rfl (by decide) rfl (Nat.le_of_ble_eq_true rfl) (Nat.le_of_ble_eq_true rfl) (Nat.le_of_ble_eq_true rfl) dX2_init_59 (fun z4 H hP => ?_)
  have hP : nw_P (mvD V) vwCl [(h0, .inr (2, [.ref z1, .ref z2, .ref z3, .null, .null, .null])), (z1, .inl (mvI V, 4, .inl (upd (upd (upd (upd (fun _ => 0) 0 (-1)) 1 (-1)) 2 (-1)) 3 (-1)))), (z2, .inl (mvI V, 4, .inl (upd (upd (upd (upd (fun _ => 0) 0 2) 1 2) 2 2) 3 2))), (z3, .inl (mvI V, 4, .inl (fun _ => 0))), (z4, .inl (mvI V, 4, .inl (fun _ => 0)))] A s.heap H _ := hP
  refine nw_putF hC hP hin 0 rfl inW2 tyX2 tyX2_ok nmX2 rfl 3 (by decide) q_399 (fun _ h9 => h9) rfl rfl (by rfl) (by rfl) (Nat.le_of_ble_eq_true rfl) dX2_init_61 (fun H locs hP => ?_)
  have hP : nw_P (mvD V) vwCl [(h0, .inr (2, [.ref z1, .ref z2, .ref z3, .ref z4, .null, .null])), (z1, .inl (mvI V, 4, .inl (upd (upd (upd (upd (fun _ => 0) 0 (-1)) 1 (-1)) 2 (-1)) 3 (-1)))), (z2, .inl (mvI V, 4, .inl (upd (upd (upd (upd (fun _ => 0) 0 2) 1 2) 2 2) 3 2))), (z3, .inl (mvI V, 4, .inl (fun _ => 0))), (z4, .inl (mvI V, 4, .inl (fun _ => 0)))] A s.heap H _ := hP
  refine lv_aload_n hC.1 hC.2.1 dX2_init_64 rfl (lv_at hl 0 rfl) ?_
  refine lv_iconst hC.1 hC.2.1 dX2_init_65 ci_4 ?_
  refine nw_newa (n' := 4) hC hP 0 rfl (by decide) rfl (Nat.le_of_ble_eq_true rfl) (Nat.le_of_ble_eq_true rfl) (Nat.le_of_ble_eq_true rfl) dX2_init_66 (fun z5 H hP => ?_)
  have hP : nw_P (mvD V) vwCl [(h0, .inr (2, [.ref z1, .ref z2, .ref z3, .ref z4, .null, .null])), (z1, .inl (mvI V, 4, .inl (upd (upd (upd (upd (fun _ => 0) 0 (-1)) 1 (-1)) 2 (-1)) 3 (-1)))), (z2, .inl (mvI V, 4, .inl (upd (upd (upd (upd (fun _ => 0) 0 2) 1 2) 2 2) 3 2))), (z3, .inl (mvI V, 4, .inl (fun _ => 0))), (z4, .inl (mvI V, 4, .inl (fun _ => 0))), (z5, .inl (mvI V, 4, .inl (fun _ => 0)))] A s.heap H _ := hP
  refine nw_putF hC hP hin 0 rfl inW2 tyX2 tyX2_ok nmX2 rfl 4 (by decide) q_401 (fun _ h9 => h9) rfl rfl (by rfl) (by rfl) (Nat.le_of_ble_eq_true rfl) dX2_init_68 (fun H locs hP => ?_)
  have hP : nw_P (mvD V) vwCl [(h0, .inr (2, [.ref z1, .ref z2, .ref z3, .ref z4, .ref z5, .null])), (z1, .inl (mvI V, 4, .inl (upd (upd (upd (upd (fun _ => 0) 0 (-1)) 1 (-1)) 2 (-1)) 3 (-1)))), (z2, .inl (mvI V, 4, .inl (upd (upd (upd (upd (fun _ => 0) 0 2) 1 2) 2 2) 3 2))), (z3, .inl (mvI V, 4, .inl (fun _ => 0))), (z4, .inl (mvI V, 4, .inl (fun _ => 0))), (z5, .inl (mvI V, 4, .inl (fun _ => 0)))] A s.heap H _ := hP
  refine lv_aload_n hC.1 hC.2.1 dX2_init_71 rfl (lv_at hl 0 rfl) ?_
  refine lv_sipush hC.1 hC.2.1 dX2_init_72 cs_160 ?_
  refine nw_newa (n' := 160) hC hP 0 rfl (by decide) rfl (Nat.le_of_ble_eq_true rfl) (Nat.le_of_ble_eq_true rfl) (Nat.le_of_ble_eq_true rfl) dX2_init_75 (fun z6 H hP => ?_)
  have hP : nw_P (mvD V) vwCl [(h0, .inr (2, [.ref z1, .ref z2, .ref z3, .ref z4, .ref z5, .null])), (z1, .inl (mvI V, 4, .inl (upd (upd (upd (upd (fun _ => 0) 0 (-1)) 1 (-1)) 2 (-1)) 3 (-1)))), (z2, .inl (mvI V, 4, .inl (upd (upd (upd (upd (fun _ => 0) 0 2) 1 2) 2 2) 3 2))), (z3, .inl (mvI V, 4, .inl (fun _ => 0))), (z4, .inl (mvI V, 4, .inl (fun _ => 0))), (z5, .inl (mvI V, 4, .inl (fun _ => 0))), (z6, .inl (mvI V, 160, .inl (fun _ => 0)))] A s.heap H _ := hP
  refine nw_putF hC hP hin 0 rfl inW2 tyX2 tyX2_ok nmX2 rfl 5 (by decide) q_402 (fun _ h9 => h9) rfl rfl (by rfl) (by rfl) (Nat.le_of_ble_eq_true rfl) dX2_init_77 (fun H locs hP => ?_)
  have hP : nw_P (mvD V) vwCl [(h0, .inr (2, [.ref z1, .ref z2, .ref z3, .ref z4, .ref z5, .ref z6])), (z1, .inl (mvI V, 4, .inl (upd (upd (upd (upd (fun _ => 0) 0 (-1)) 1 (-1)) 2 (-1)) 3 (-1)))), (z2, .inl (mvI V, 4, .inl (upd (upd (upd (upd (fun _ => 0) 0 2) 1 2) 2 2) 3 2))), (z3, .inl (mvI V, 4, .inl (fun _ => 0))), (z4, .inl (mvI V, 4, .inl (fun _ => 0))), (z5, .inl (mvI V, 4, .inl (fun _ => 0))), (z6, .inl (mvI V, 160, .inl (fun _ => 0)))] A s.heap H _ := hP
  exact hret (w := [(h0, .inr (2, [.ref z1, .ref z2, .ref z3, .ref z4, .ref z5, .ref z6])), (z1, .inl (mvI V, 4, .inl (upd (upd (upd (upd (fun _ => 0) 0 (-1)) 1 (-1)) 2 (-1)) 3 (-1)))), (z2, .inl (mvI V, 4, .inl (upd (upd (upd (upd (fun _ => 0) 0 2) 1 2) 2 2) 3 2))), (z3, .inl (mvI V, 4, .inl (fun _ => 0))), (z4, .inl (mvI V, 4, .inl (fun _ => 0))), (z5, .inl (mvI V, 4, .inl (fun _ => 0))), (z6, .inl (mvI V, 160, .inl (fun _ => 0)))]) ⟨z1, z2, z3, z4, z5, z6, rfl⟩ hP dX2_init_80
