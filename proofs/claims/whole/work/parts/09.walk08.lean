set_option maxHeartbeats 4000000 in
set_option maxRecDepth 100000 in
theorem mcX4_copyFrom_q1_q17 (V : mV) (l : Launch) (M : mM) (r : Int32) (M' : mM) (hf : fX4_copyFrom_q1_q17 M = some (r, M')) : UC V l yX4_copyFrom cX4_copyFrom 2 ({ frames := 2, cells := 0, slots := 0, locals := 61 } : Room) [.ref (mvA V 1), .ref (mvA V 17)] M M' := by
  unfold fX4_copyFrom_q1_q17 at hf
  refine mw_enterV RX4 rfl (by decide +kernel) (Nat.le_of_ble_eq_true rfl) (fun {p e s m args below meth c} ls A Q hC hret hM hl => ?_)
  have hl : lv_has ls 2 [(0, .ref (mvA V 1)), (1, .ref (mvA V 17))] := hl
  refine lv_aload_n hC.1 hC.2.1 dX4_copyFrom_0 rfl (lv_at hl 0 rfl) ?_
  refine lv_aload_n hC.1 hC.2.1 dX4_copyFrom_1 rfl (lv_at hl 1 rfl) ?_
  refine mw_get (v := .int (M 17 0)) hC hM 17 (Nat.le_of_ble_eq_true rfl) (eC_17 V) inW4 rfl 0 (by decide) q_207 (fun _ h9 => h9) rfl dX4_copyFrom_2 ?_
  refine mw_put hC hM 1 (Nat.le_of_ble_eq_true rfl) (eC_1 V) inW4 tyX4 tyX4_ok nmX4 rfl 0 (by decide) q_207 (fun _ h9 => h9) rfl rfl rfl (Nat.le_of_ble_eq_true rfl) rfl dX4_copyFrom_5 (fun H locs hM => ?_)
  refine lv_aload_n hC.1 hC.2.1 dX4_copyFrom_8 rfl (lv_at hl 1 rfl) ?_
  refine mw_get (v := .ref (mvA V 18)) hC hM 17 (Nat.le_of_ble_eq_true rfl) (eC_17 V) inW4 rfl 1 (by decide) q_208 (fun _ h9 => h9) rfl dX4_copyFrom_9 ?_
  refine lv_iconst hC.1 hC.2.1 dX4_copyFrom_12 ci_0 ?_
  refine lv_aload_n hC.1 hC.2.1 dX4_copyFrom_13 rfl (lv_at hl 0 rfl) ?_
  refine mw_get (v := .ref (mvA V 2)) hC hM 1 (Nat.le_of_ble_eq_true rfl) (eC_1 V) inW4 rfl 1 (by decide) q_208 (fun _ h9 => h9) rfl dX4_copyFrom_14 ?_
  refine lv_iconst hC.1 hC.2.1 dX4_copyFrom_17 ci_0 ?_
  refine lv_bipush hC.1 hC.2.1 dX4_copyFrom_18 cb_7 ?_
  obtain ⟨hg1, hf⟩ := o_g hf
  refine mw_copy (rest := []) hC hM 18 2 0 (Nat.le_of_ble_eq_true rfl) (Nat.le_of_ble_eq_true rfl) (eC_18 V) (eC_2 V) rfl hg1 hl.1 q_1134 q_722 q_721 q_127 (Nat.le_of_ble_eq_true rfl) (Nat.le_of_ble_eq_true rfl) dX4_copyFrom_20 (fun H locs hM => ?_)
  refine lv_aload_n hC.1 hC.2.1 dX4_copyFrom_23 rfl (lv_at hl 1 rfl) ?_
  refine mw_get (v := .ref (mvA V 19)) hC hM 17 (Nat.le_of_ble_eq_true rfl) (eC_17 V) inW4 rfl 2 (by decide) q_210 (fun _ h9 => h9) rfl dX4_copyFrom_24 ?_
  refine lv_iconst hC.1 hC.2.1 dX4_copyFrom_27 ci_0 ?_
  refine lv_aload_n hC.1 hC.2.1 dX4_copyFrom_28 rfl (lv_at hl 0 rfl) ?_
  refine mw_get (v := .ref (mvA V 3)) hC hM 1 (Nat.le_of_ble_eq_true rfl) (eC_1 V) inW4 rfl 2 (by decide) q_210 (fun _ h9 => h9) rfl dX4_copyFrom_29 ?_
  refine lv_iconst hC.1 hC.2.1 dX4_copyFrom_32 ci_0 ?_
  refine lv_bipush hC.1 hC.2.1 dX4_copyFrom_33 cb_7 ?_
  obtain ⟨hg2, hf⟩ := o_g hf
  refine mw_copy (rest := []) hC hM 19 3 0 (Nat.le_of_ble_eq_true rfl) (Nat.le_of_ble_eq_true rfl) (eC_19 V) (eC_3 V) rfl hg2 hl.1 q_1134 q_722 q_721 q_127 (Nat.le_of_ble_eq_true rfl) (Nat.le_of_ble_eq_true rfl) dX4_copyFrom_35 (fun H locs hM => ?_)
  refine lv_aload_n hC.1 hC.2.1 dX4_copyFrom_38 rfl (lv_at hl 1 rfl) ?_
  refine mw_get (v := .ref (mvA V 20)) hC hM 17 (Nat.le_of_ble_eq_true rfl) (eC_17 V) inW4 rfl 3 (by decide) q_212 (fun _ h9 => h9) rfl dX4_copyFrom_39 ?_
  refine lv_iconst hC.1 hC.2.1 dX4_copyFrom_42 ci_0 ?_
  refine lv_aload_n hC.1 hC.2.1 dX4_copyFrom_43 rfl (lv_at hl 0 rfl) ?_
  refine mw_get (v := .ref (mvA V 4)) hC hM 1 (Nat.le_of_ble_eq_true rfl) (eC_1 V) inW4 rfl 3 (by decide) q_212 (fun _ h9 => h9) rfl dX4_copyFrom_44 ?_
  refine lv_iconst hC.1 hC.2.1 dX4_copyFrom_47 ci_0 ?_
  refine lv_bipush hC.1 hC.2.1 dX4_copyFrom_48 cb_7 ?_
  obtain ⟨hg3, hf⟩ := o_g hf
  refine mw_copy (rest := []) hC hM 20 4 0 (Nat.le_of_ble_eq_true rfl) (Nat.le_of_ble_eq_true rfl) (eC_20 V) (eC_4 V) rfl hg3 hl.1 q_1134 q_722 q_721 q_127 (Nat.le_of_ble_eq_true rfl) (Nat.le_of_ble_eq_true rfl) dX4_copyFrom_50 (fun H locs hM => ?_)
  refine lv_aload_n hC.1 hC.2.1 dX4_copyFrom_53 rfl (lv_at hl 1 rfl) ?_
  refine mw_get (v := .ref (mvA V 21)) hC hM 17 (Nat.le_of_ble_eq_true rfl) (eC_17 V) inW4 rfl 4 (by decide) q_214 (fun _ h9 => h9) rfl dX4_copyFrom_54 ?_
  refine lv_iconst hC.1 hC.2.1 dX4_copyFrom_57 ci_0 ?_
  refine lv_aload_n hC.1 hC.2.1 dX4_copyFrom_58 rfl (lv_at hl 0 rfl) ?_
  refine mw_get (v := .ref (mvA V 5)) hC hM 1 (Nat.le_of_ble_eq_true rfl) (eC_1 V) inW4 rfl 4 (by decide) q_214 (fun _ h9 => h9) rfl dX4_copyFrom_59 ?_
  refine lv_iconst hC.1 hC.2.1 dX4_copyFrom_62 ci_0 ?_
  refine lv_bipush hC.1 hC.2.1 dX4_copyFrom_63 cb_7 ?_
  obtain ⟨hg4, hf⟩ := o_g hf
  refine mw_copy (rest := []) hC hM 21 5 0 (Nat.le_of_ble_eq_true rfl) (Nat.le_of_ble_eq_true rfl) (eC_21 V) (eC_5 V) rfl hg4 hl.1 q_1134 q_722 q_721 q_127 (Nat.le_of_ble_eq_true rfl) (Nat.le_of_ble_eq_true rfl) dX4_copyFrom_65 (fun H locs hM => ?_)
  refine lv_aload_n hC.1 hC.2.1 dX4_copyFrom_68 rfl (lv_at hl 0 rfl) ?_
  refine lv_aload_n hC.1 hC.2.1 dX4_copyFrom_69 rfl (lv_at hl 1 rfl) ?_
  refine mw_get (v := .int ((cpy (cpy (cpy (cpy (wr M 1 0 (M 17 0)) 18 2 0 0 7) 19 3 0 0 7) 20 4 0 0 7) 21 5 0 0 7) 17 5)) hC hM 17 (Nat.le_of_ble_eq_true rfl) (eC_17 V) inW4 rfl 5 (by decide) q_217 (fun _ h9 => h9) rfl dX4_copyFrom_70 ?_
  refine mw_put hC hM 1 (Nat.le_of_ble_eq_true rfl) (eC_1 V) inW4 tyX4 tyX4_ok nmX4 rfl 5 (by decide) q_217 (fun _ h9 => h9) rfl rfl rfl (Nat.le_of_ble_eq_true rfl) rfl dX4_copyFrom_73 (fun H locs hM => ?_)
  refine lv_aload_n hC.1 hC.2.1 dX4_copyFrom_76 rfl (lv_at hl 0 rfl) ?_
  refine lv_aload_n hC.1 hC.2.1 dX4_copyFrom_77 rfl (lv_at hl 1 rfl) ?_
  refine mw_get (v := .int ((wr (cpy (cpy (cpy (cpy (wr M 1 0 (M 17 0)) 18 2 0 0 7) 19 3 0 0 7) 20 4 0 0 7) 21 5 0 0 7) 1 5 ((cpy (cpy (cpy (cpy (wr M 1 0 (M 17 0)) 18 2 0 0 7) 19 3 0 0 7) 20 4 0 0 7) 21 5 0 0 7) 17 5)) 17 6)) hC hM 17 (Nat.le_of_ble_eq_true rfl) (eC_17 V) inW4 rfl 6 (by decide) q_218 (fun _ h9 => h9) rfl dX4_copyFrom_78 ?_
  refine mw_put hC hM 1 (Nat.le_of_ble_eq_true rfl) (eC_1 V) inW4 tyX4 tyX4_ok nmX4 rfl 6 (by decide) q_218 (fun _ h9 => h9) rfl rfl rfl (Nat.le_of_ble_eq_true rfl) rfl dX4_copyFrom_81 (fun H locs hM => ?_)
  refine lv_aload_n hC.1 hC.2.1 dX4_copyFrom_84 rfl (lv_at hl 0 rfl) ?_
  refine lv_aload_n hC.1 hC.2.1 dX4_copyFrom_85 rfl (lv_at hl 1 rfl) ?_
  refine mw_get (v := .int ((wr (wr (cpy (cpy (cpy (cpy (wr M 1 0 (M 17 0)) 18 2 0 0 7) 19 3 0 0 7) 20 4 0 0 7) 21 5 0 0 7) 1 5 ((cpy (cpy (cpy (cpy (wr M 1 0 (M 17 0)) 18 2 0 0 7) 19 3 0 0 7) 20 4 0 0 7) 21 5 0 0 7) 17 5)) 1 6 ((wr (cpy (cpy (cpy (cpy (wr M 1 0 (M 17 0)) 18 2 0 0 7) 19 3 0 0 7) 20 4 0 0 7) 21 5 0 0 7) 1 5 ((cpy (cpy (cpy (cpy (wr M 1 0 (M 17 0)) 18 2 0 0 7) 19 3 0 0 7) 20 4 0 0 7) 21 5 0 0 7) 17 5)) 17 6)) 17 7)) hC hM 17 (Nat.le_of_ble_eq_true rfl) (eC_17 V) inW4 rfl 7 (by decide) q_220 (fun _ h9 => h9) rfl dX4_copyFrom_86 ?_
  refine mw_put hC hM 1 (Nat.le_of_ble_eq_true rfl) (eC_1 V) inW4 tyX4 tyX4_ok nmX4 rfl 7 (by decide) q_220 (fun _ h9 => h9) rfl rfl rfl (Nat.le_of_ble_eq_true rfl) rfl dX4_copyFrom_89 (fun H locs hM => ?_)
  refine lv_aload_n hC.1 hC.2.1 dX4_copyFrom_92 rfl (lv_at hl 0 rfl) ?_
  refine lv_aload_n hC.1 hC.2.1 dX4_copyFrom_93 rfl (lv_at hl 1 rfl) ?_
  refine mw_get (v := .int ((wr (wr (wr (cpy (cpy (cpy (cpy (wr M 1 0 (M 17 0)) 18 2 0 0 7) 19 3 0 0 7) 20 4 0 0 7) 21 5 0 0 7) 1 5 ((cpy (cpy (cpy (cpy (wr M 1 0 (M 17 0)) 18 2 0 0 7) 19 3 0 0 7) 20 4 0 0 7) 21 5 0 0 7) 17 5)) 1 6 ((wr (cpy (cpy (cpy (cpy (wr M 1 0 (M 17 0)) 18 2 0 0 7) 19 3 0 0 7) 20 4 0 0 7) 21 5 0 0 7) 1 5 ((cpy (cpy (cpy (cpy (wr M 1 0 (M 17 0)) 18 2 0 0 7) 19 3 0 0 7) 20 4 0 0 7) 21 5 0 0 7) 17 5)) 17 6)) 1 7 ((wr (wr (cpy (cpy (cpy (cpy (wr M 1 0 (M 17 0)) 18 2 0 0 7) 19 3 0 0 7) 20 4 0 0 7) 21 5 0 0 7) 1 5 ((cpy (cpy (cpy (cpy (wr M 1 0 (M 17 0)) 18 2 0 0 7) 19 3 0 0 7) 20 4 0 0 7) 21 5 0 0 7) 17 5)) 1 6 ((wr (cpy (cpy (cpy (cpy (wr M 1 0 (M 17 0)) 18 2 0 0 7) 19 3 0 0 7) 20 4 0 0 7) 21 5 0 0 7) 1 5 ((cpy (cpy (cpy (cpy (wr M 1 0 (M 17 0)) 18 2 0 0 7) 19 3 0 0 7) 20 4 0 0 7) 21 5 0 0 7) 17 5)) 17 6)) 17 7)) 17 8)) hC hM 17 (Nat.le_of_ble_eq_true rfl) (eC_17 V) inW4 rfl 8 (by decide) q_222 (fun _ h9 => h9) rfl dX4_copyFrom_94 ?_
  refine mw_put hC hM 1 (Nat.le_of_ble_eq_true rfl) (eC_1 V) inW4 tyX4 tyX4_ok nmX4 rfl 8 (by decide) q_222 (fun _ h9 => h9) rfl rfl rfl (Nat.le_of_ble_eq_true rfl) rfl dX4_copyFrom_97 (fun H locs hM => ?_)
  refine lv_aload_n hC.1 hC.2.1 dX4_copyFrom_100 rfl (lv_at hl 0 rfl) ?_
  refine lv_aload_n hC.1 hC.2.1 dX4_copyFrom_101 rfl (lv_at hl 1 rfl) ?_
  refine mw_get (v := .int ((wr (wr (wr (wr (cpy (cpy (cpy (cpy (wr M 1 0 (M 17 0)) 18 2 0 0 7) 19 3 0 0 7) 20 4 0 0 7) 21 5 0 0 7) 1 5 ((cpy (cpy (cpy (cpy (wr M 1 0 (M 17 0)) 18 2 0 0 7) 19 3 0 0 7) 20 4 0 0 7) 21 5 0 0 7) 17 5)) 1 6 ((wr (cpy (cpy (cpy (cpy (wr M 1 0 (M 17 0)) 18 2 0 0 7) 19 3 0 0 7) 20 4 0 0 7) 21 5 0 0 7) 1 5 ((cpy (cpy (cpy (cpy (wr M 1 0 (M 17 0)) 18 2 0 0 7) 19 3 0 0 7) 20 4 0 0 7) 21 5 0 0 7) 17 5)) 17 6)) 1 7 ((wr (wr (cpy (cpy (cpy (cpy (wr M 1 0 (M 17 0)) 18 2 0 0 7) 19 3 0 0 7) 20 4 0 0 7) 21 5 0 0 7) 1 5 ((cpy (cpy (cpy (cpy (wr M 1 0 (M 17 0)) 18 2 0 0 7) 19 3 0 0 7) 20 4 0 0 7) 21 5 0 0 7) 17 5)) 1 6 ((wr (cpy (cpy (cpy (cpy (wr M 1 0 (M 17 0)) 18 2 0 0 7) 19 3 0 0 7) 20 4 0 0 7) 21 5 0 0 7) 1 5 ((cpy (cpy (cpy (cpy (wr M 1 0 (M 17 0)) 18 2 0 0 7) 19 3 0 0 7) 20 4 0 0 7) 21 5 0 0 7) 17 5)) 17 6)) 17 7)) 1 8 ((wr (wr (wr (cpy (cpy (cpy (cpy (wr M 1 0 (M 17 0)) 18 2 0 0 7) 19 3 0 0 7) 20 4 0 0 7) 21 5 0 0 7) 1 5 ((cpy (cpy (cpy (cpy (wr M 1 0 (M 17 0)) 18 2 0 0 7) 19 3 0 0 7) 20 4 0 0 7) 21 5 0 0 7) 17 5)) 1 6 ((wr (cpy (cpy (cpy (cpy (wr M 1 0 (M 17 0)) 18 2 0 0 7) 19 3 0 0 7) 20 4 0 0 7) 21 5 0 0 7) 1 5 ((cpy (cpy (cpy (cpy (wr M 1 0 (M 17 0)) 18 2 0 0 7) 19 3 0 0 7) 20 4 0 0 7) 21 5 0 0 7) 17 5)) 17 6)) 1 7 ((wr (wr (cpy (cpy (cpy (cpy (wr M 1 0 (M 17 0)) 18 2 0 0 7) 19 3 0 0 7) 20 4 0 0 7) 21 5 0 0 7) 1 5 ((cpy (cpy (cpy (cpy (wr M 1 0 (M 17 0)) 18 2 0 0 7) 19 3 0 0 7) 20 4 0 0 7) 21 5 0 0 7) 17 5)) 1 6 ((wr (cpy (cpy (cpy (cpy (wr M 1 0 (M 17 0)) 18 2 0 0 7) 19 3 0 0 7) 20 4 0 0 7) 21 5 0 0 7) 1 5 ((cpy (cpy (cpy (cpy (wr M 1 0 (M 17 0)) 18 2 0 0 7) 19 3 0 0 7) 20 4 0 0 7) 21 5 0 0 7) 17 5)) 17 6)) 17 7)) 17 8)) 17 9)) hC hM 17 (Nat.le_of_ble_eq_true rfl) (eC_17 V) inW4 rfl 9 (by decide) q_224 (fun _ h9 => h9) rfl dX4_copyFrom_102 ?_
  refine mw_put hC hM 1 (Nat.le_of_ble_eq_true rfl) (eC_1 V) inW4 tyX4 tyX4_ok nmX4 rfl 9 (by decide) q_224 (fun _ h9 => h9) rfl rfl rfl (Nat.le_of_ble_eq_true rfl) rfl dX4_copyFrom_105 (fun H locs hM => ?_)
  refine lv_aload_n hC.1 hC.2.1 dX4_copyFrom_108 rfl (lv_at hl 0 rfl) ?_
  refine lv_aload_n hC.1 hC.2.1 dX4_copyFrom_109 rfl (lv_at hl 1 rfl) ?_
  refine mw_get (v := .int ((wr (wr (wr (wr (wr (cpy (cpy (cpy (cpy (wr M 1 0 (M 17 0)) 18 2 0 0 7) 19 3 0 0 7) 20 4 0 0 7) 21 5 0 0 7) 1 5 ((cpy (cpy (cpy (cpy (wr M 1 0 (M 17 0)) 18 2 0 0 7) 19 3 0 0 7) 20 4 0 0 7) 21 5 0 0 7) 17 5)) 1 6 ((wr (cpy (cpy (cpy (cpy (wr M 1 0 (M 17 0)) 18 2 0 0 7) 19 3 0 0 7) 20 4 0 0 7) 21 5 0 0 7) 1 5 ((cpy (cpy (cpy (cpy (wr M 1 0 (M 17 0)) 18 2 0 0 7) 19 3 0 0 7) 20 4 0 0 7) 21 5 0 0 7) 17 5)) 17 6)) 1 7 ((wr (wr (cpy (cpy (cpy (cpy (wr M 1 0 (M 17 0)) 18 2 0 0 7) 19 3 0 0 7) 20 4 0 0 7) 21 5 0 0 7) 1 5 ((cpy (cpy (cpy (cpy (wr M 1 0 (M 17 0)) 18 2 0 0 7) 19 3 0 0 7) 20 4 0 0 7) 21 5 0 0 7) 17 5)) 1 6 ((wr (cpy (cpy (cpy (cpy (wr M 1 0 (M 17 0)) 18 2 0 0 7) 19 3 0 0 7) 20 4 0 0 7) 21 5 0 0 7) 1 5 ((cpy (cpy (cpy (cpy (wr M 1 0 (M 17 0)) 18 2 0 0 7) 19 3 0 0 7) 20 4 0 0 7) 21 5 0 0 7) 17 5)) 17 6)) 17 7)) 1 8 ((wr (wr (wr (cpy (cpy (cpy (cpy (wr M 1 0 (M 17 0)) 18 2 0 0 7) 19 3 0 0 7) 20 4 0 0 7) 21 5 0 0 7) 1 5 ((cpy (cpy (cpy (cpy (wr M 1 0 (M 17 0)) 18 2 0 0 7) 19 3 0 0 7) 20 4 0 0 7) 21 5 0 0 7) 17 5)) 1 6 ((wr (cpy (cpy (cpy (cpy (wr M 1 0 (M 17 0)) 18 2 0 0 7) 19 3 0 0 7) 20 4 0 0 7) 21 5 0 0 7) 1 5 ((cpy (cpy (cpy (cpy (wr M 1 0 (M 17 0)) 18 2 0 0 7) 19 3 0 0 7) 20 4 0 0 7) 21 5 0 0 7) 17 5)) 17 6)) 1 7 ((wr (wr (cpy (cpy (cpy (cpy (wr M 1 0 (M 17 0)) 18 2 0 0 7) 19 3 0 0 7) 20 4 0 0 7) 21 5 0 0 7) 1 5 ((cpy (cpy (cpy (cpy (wr M 1 0 (M 17 0)) 18 2 0 0 7) 19 3 0 0 7) 20 4 0 0 7) 21 5 0 0 7) 17 5)) 1 6 ((wr (cpy (cpy (cpy (cpy (wr M 1 0 (M 17 0)) 18 2 0 0 7) 19 3 0 0 7) 20 4 0 0 7) 21 5 0 0 7) 1 5 ((cpy (cpy (cpy (cpy (wr M 1 0 (M 17 0)) 18 2 0 0 7) 19 3 0 0 7) 20 4 0 0 7) 21 5 0 0 7) 17 5)) 17 6)) 17 7)) 17 8)) 1 9 ((wr (wr (wr (wr (cpy (cpy (cpy (cpy (wr M 1 0 (M 17 0)) 18 2 0 0 7) 19 3 0 0 7) 20 4 0 0 7) 21 5 0 0 7) 1 5 ((cpy (cpy (cpy (cpy (wr M 1 0 (M 17 0)) 18 2 0 0 7) 19 3 0 0 7) 20 4 0 0 7) 21 5 0 0 7) 17 5)) 1 6 ((wr (cpy (cpy (cpy (cpy (wr M 1 0 (M 17 0)) 18 2 0 0 7) 19 3 0 0 7) 20 4 0 0 7) 21 5 0 0 7) 1 5 ((cpy (cpy (cpy (cpy (wr M 1 0 (M 17 0)) 18 2 0 0 7) 19 3 0 0 7) 20 4 0 0 7) 21 5 0 0 7) 17 5)) 17 6)) 1 7 ((wr (wr (cpy (cpy (cpy (cpy (wr M 1 0 (M 17 0)) 18 2 0 0 7) 19 3 0 0 7) 20 4 0 0 7) 21 5 0 0 7) 1 5 ((cpy (cpy (cpy (cpy (wr M 1 0 (M 17 0)) 18 2 0 0 7) 19 3 0 0 7) 20 4 0 0 7) 21 5 0 0 7) 17 5)) 1 6 ((wr (cpy (cpy (cpy (cpy (wr M 1 0 (M 17 0)) 18 2 0 0 7) 19 3 0 0 7) 20 4 0 0 7) 21 5 0 0 7) 1 5 ((cpy (cpy (cpy (cpy (wr M 1 0 (M 17 0)) 18 2 0 0 7) 19 3 0 0 7) 20 4 0 0 7) 21 5 0 0 7) 17 5)) 17 6)) 17 7)) 1 8 ((wr (wr (wr (cpy (cpy (cpy (cpy (wr M 1 0 (M 17 0)) 18 2 0 0 7) 19 3 0 0 7) 20 4 0 0 7) 21 5 0 0 7) 1 5 ((cpy (cpy (cpy (cpy (wr M 1 0 (M 17 0)) 18 2 0 0 7) 19 3 0 0 7) 20 4 0 0 7) 21 5 0 0 7) 17 5)) 1 6 ((wr (cpy (cpy (cpy (cpy (wr M 1 0 (M 17 0)) 18 2 0 0 7) 19 3 0 0 7) 20 4 0 0 7) 21 5 0 0 7) 1 5 ((cpy (cpy (cpy (cpy (wr M 1 0 (M 17 0)) 18 2 0 0 7) 19 3 0 0 7) 20 4 0 0 7) 21 5 0 0 7) 17 5)) 17 6)) 1 7 ((wr (wr (cpy (cpy (cpy (cpy (wr M 1 0 (M 17 0)) 18 2 0 0 7) 19 3 0 0 7) 20 4 0 0 7) 21 5 0 0 7) 1 5 ((cpy (cpy (cpy (cpy (wr M 1 0 (M 17 0)) 18 2 0 0 7) 19 3 0 0 7) 20 4 0 0 7) 21 5 0 0 7) 17 5)) 1 6 ((wr (cpy (cpy (cpy (cpy (wr M 1 0 (M 17 0)) 18 2 0 0 7) 19 3 0 0 7) 20 4 0 0 7) 21 5 0 0 7) 1 5 ((cpy (cpy (cpy (cpy (wr M 1 0 (M 17 0)) 18 2 0 0 7) 19 3 0 0 7) 20 4 0 0 7) 21 5 0 0 7) 17 5)) 17 6)) 17 7)) 17 8)) 17 9)) 17 10)) hC hM 17 (Nat.le_of_ble_eq_true rfl) (eC_17 V) inW4 rfl 10 (by decide) q_226 (fun _ h9 => h9) rfl dX4_copyFrom_110 ?_
  refine mw_put hC hM 1 (Nat.le_of_ble_eq_true rfl) (eC_1 V) inW4 tyX4 tyX4_ok nmX4 rfl 10 (by decide) q_226 (fun _ h9 => h9) rfl rfl rfl (Nat.le_of_ble_eq_true rfl) rfl dX4_copyFrom_113 (fun H locs hM => ?_)
  refine lv_aload_n hC.1 hC.2.1 dX4_copyFrom_116 rfl (lv_at hl 0 rfl) ?_
  refine lv_aload_n hC.1 hC.2.1 dX4_copyFrom_117 rfl (lv_at hl 1 rfl) ?_
  refine mw_get (v := .int ((wr (wr (wr (wr (wr (wr (cpy (cpy (cpy (cpy (wr M 1 0 (M 17 0)) 18 2 0 0 7) 19 3 0 0 7) 20 4 0 0 7) 21 5 0 0 7) 1 5 ((cpy (cpy (cpy (cpy (wr M 1 0 (M 17 0)) 18 2 0 0 7) 19 3 0 0 7) 20 4 0 0 7) 21 5 0 0 7) 17 5)) 1 6 ((wr (cpy (cpy (cpy (cpy (wr M 1 0 (M 17 0)) 18 2 0 0 7) 19 3 0 0 7) 20 4 0 0 7) 21 5 0 0 7) 1 5 ((cpy (cpy (cpy (cpy (wr M 1 0 (M 17 0)) 18 2 0 0 7) 19 3 0 0 7) 20 4 0 0 7) 21 5 0 0 7) 17 5)) 17 6)) 1 7 ((wr (wr (cpy (cpy (cpy (cpy (wr M 1 0 (M 17 0)) 18 2 0 0 7) 19 3 0 0 7) 20 4 0 0 7) 21 5 0 0 7) 1 5 ((cpy (cpy (cpy (cpy (wr M 1 0 (M 17 0)) 18 2 0 0 7) 19 3 0 0 7) 20 4 0 0 7) 21 5 0 0 7) 17 5)) 1 6 ((wr (cpy (cpy (cpy (cpy (wr M 1 0 (M 17 0)) 18 2 0 0 7) 19 3 0 0 7) 20 4 0 0 7) 21 5 0 0 7) 1 5 ((cpy (cpy (cpy (cpy (wr M 1 0 (M 17 0)) 18 2 0 0 7) 19 3 0 0 7) 20 4 0 0 7) 21 5 0 0 7) 17 5)) 17 6)) 17 7)) 1 8 ((wr (wr (wr (cpy (cpy (cpy (cpy (wr M 1 0 (M 17 0)) 18 2 0 0 7) 19 3 0 0 7) 20 4 0 0 7) 21 5 0 0 7) 1 5 ((cpy (cpy (cpy (cpy (wr M 1 0 (M 17 0)) 18 2 0 0 7) 19 3 0 0 7) 20 4 0 0 7) 21 5 0 0 7) 17 5)) 1 6 ((wr (cpy (cpy (cpy (cpy (wr M 1 0 (M 17 0)) 18 2 0 0 7) 19 3 0 0 7) 20 4 0 0 7) 21 5 0 0 7) 1 5 ((cpy (cpy (cpy (cpy (wr M 1 0 (M 17 0)) 18 2 0 0 7) 19 3 0 0 7) 20 4 0 0 7) 21 5 0 0 7) 17 5)) 17 6)) 1 7 ((wr (wr (cpy (cpy (cpy (cpy (wr M 1 0 (M 17 0)) 18 2 0 0 7) 19 3 0 0 7) 20 4 0 0 7) 21 5 0 0 7) 1 5 ((cpy (cpy (cpy (cpy (wr M 1 0 (M 17 0)) 18 2 0 0 7) 19 3 0 0 7) 20 4 0 0 7) 21 5 0 0 7) 17 5)) 1 6 ((wr (cpy (cpy (cpy (cpy (wr M 1 0 (M 17 0)) 18 2 0 0 7) 19 3 0 0 7) 20 4 0 0 7) 21 5 0 0 7) 1 5 ((cpy (cpy (cpy (cpy (wr M 1 0 (M 17 0)) 18 2 0 0 7) 19 3 0 0 7) 20 4 0 0 7) 21 5 0 0 7) 17 5)) 17 6)) 17 7)) 17 8)) 1 9 ((wr (wr (wr (wr (cpy (cpy (cpy (cpy (wr M 1 0 (M 17 0)) 18 2 0 0 7) 19 3 0 0 7) 20 4 0 0 7) 21 5 0 0 7) 1 5 ((cpy (cpy (cpy (cpy (wr M 1 0 (M 17 0)) 18 2 0 0 7) 19 3 0 0 7) 20 4 0 0 7) 21 5 0 0 7) 17 5)) 1 6 ((wr (cpy (cpy (cpy (cpy (wr M 1 0 (M 17 0)) 18 2 0 0 7) 19 3 0 0 7) 20 4 0 0 7) 21 5 0 0 7) 1 5 ((cpy (cpy (cpy (cpy (wr M 1 0 (M 17 0)) 18 2 0 0 7) 19 3 0 0 7) 20 4 0 0 7) 21 5 0 0 7) 17 5)) 17 6)) 1 7 ((wr (wr (cpy (cpy (cpy (cpy (wr M 1 0 (M 17 0)) 18 2 0 0 7) 19 3 0 0 7) 20 4 0 0 7) 21 5 0 0 7) 1 5 ((cpy (cpy (cpy (cpy (wr M 1 0 (M 17 0)) 18 2 0 0 7) 19 3 0 0 7) 20 4 0 0 7) 21 5 0 0 7) 17 5)) 1 6 ((wr (cpy (cpy (cpy (cpy (wr M 1 0 (M 17 0)) 18 2 0 0 7) 19 3 0 0 7) 20 4 0 0 7) 21 5 0 0 7) 1 5 ((cpy (cpy (cpy (cpy (wr M 1 0 (M 17 0)) 18 2 0 0 7) 19 3 0 0 7) 20 4 0 0 7) 21 5 0 0 7) 17 5)) 17 6)) 17 7)) 1 8 ((wr (wr (wr (cpy (cpy (cpy (cpy (wr M 1 0 (M 17 0)) 18 2 0 0 7) 19 3 0 0 7) 20 4 0 0 7) 21 5 0 0 7) 1 5 ((cpy (cpy (cpy (cpy (wr M 1 0 (M 17 0)) 18 2 0 0 7) 19 3 0 0 7) 20 4 0 0 7) 21 5 0 0 7) 17 5)) 1 6 ((wr (cpy (cpy (cpy (cpy (wr M 1 0 (M 17 0)) 18 2 0 0 7) 19 3 0 0 7) 20 4 0 0 7) 21 5 0 0 7) 1 5 ((cpy (cpy (cpy (cpy (wr M 1 0 (M 17 0)) 18 2 0 0 7) 19 3 0 0 7) 20 4 0 0 7) 21 5 0 0 7) 17 5)) 17 6)) 1 7 ((wr (wr (cpy (cpy (cpy (cpy (wr M 1 0 (M 17 0)) 18 2 0 0 7) 19 3 0 0 7) 20 4 0 0 7) 21 5 0 0 7) 1 5 ((cpy (cpy (cpy (cpy (wr M 1 0 (M 17 0)) 18 2 0 0 7) 19 3 0 0 7) 20 4 0 0 7) 21 5 0 0 7) 17 5)) 1 6 ((wr (cpy (cpy (cpy (cpy (wr M 1 0 (M 17 0)) 18 2 0 0 7) 19 3 0 0 7) 20 4 0 0 7) 21 5 0 0 7) 1 5 ((cpy (cpy (cpy (cpy (wr M 1 0 (M 17 0)) 18 2 0 0 7) 19 3 0 0 7) 20 4 0 0 7) 21 5 0 0 7) 17 5)) 17 6)) 17 7)) 17 8)) 17 9)) 1 10 ((wr (wr (wr (wr (wr (cpy (cpy (cpy (cpy (wr M 1 0 (M 17 0)) 18 2 0 0 7) 19 3 0 0 7) 20 4 0 0 7) 21 5 0 0 7) 1 5 ((cpy (cpy (cpy (cpy (wr M 1 0 (M 17 0)) 18 2 0 0 7) 19 3 0 0 7) 20 4 0 0 7) 21 5 0 0 7) 17 5)) 1 6 ((wr (cpy (cpy (cpy (cpy (wr M 1 0 (M 17 0)) 18 2 0 0 7) 19 3 0 0 7) 20 4 0 0 7) 21 5 0 0 7) 1 5 ((cpy (cpy (cpy (cpy (wr M 1 0 (M 17 0)) 18 2 0 0 7) 19 3 0 0 7) 20 4 0 0 7) 21 5 0 0 7) 17 5)) 17 6)) 1 7 ((wr (wr (cpy (cpy (cpy (cpy (wr M 1 0 (M 17 0)) 18 2 0 0 7) 19 3 0 0 7) 20 4 0 0 7) 21 5 0 0 7) 1 5 ((cpy (cpy (cpy (cpy (wr M 1 0 (M 17 0)) 18 2 0 0 7) 19 3 0 0 7) 20 4 0 0 7) 21 5 0 0 7) 17 5)) 1 6 ((wr (cpy (cpy (cpy (cpy (wr M 1 0 (M 17 0)) 18 2 0 0 7) 19 3 0 0 7) 20 4 0 0 7) 21 5 0 0 7) 1 5 ((cpy (cpy (cpy (cpy (wr M 1 0 (M 17 0)) 18 2 0 0 7) 19 3 0 0 7) 20 4 0 0 7) 21 5 0 0 7) 17 5)) 17 6)) 17 7)) 1 8 ((wr (wr (wr (cpy (cpy (cpy (cpy (wr M 1 0 (M 17 0)) 18 2 0 0 7) 19 3 0 0 7) 20 4 0 0 7) 21 5 0 0 7) 1 5 ((cpy (cpy (cpy (cpy (wr M 1 0 (M 17 0)) 18 2 0 0 7) 19 3 0 0 7) 20 4 0 0 7) 21 5 0 0 7) 17 5)) 1 6 ((wr (cpy (cpy (cpy (cpy (wr M 1 0 (M 17 0)) 18 2 0 0 7) 19 3 0 0 7) 20 4 0 0 7) 21 5 0 0 7) 1 5 ((cpy (cpy (cpy (cpy (wr M 1 0 (M 17 0)) 18 2 0 0 7) 19 3 0 0 7) 20 4 0 0 7) 21 5 0 0 7) 17 5)) 17 6)) 1 7 ((wr (wr (cpy (cpy (cpy (cpy (wr M 1 0 (M 17 0)) 18 2 0 0 7) 19 3 0 0 7) 20 4 0 0 7) 21 5 0 0 7) 1 5 ((cpy (cpy (cpy (cpy (wr M 1 0 (M 17 0)) 18 2 0 0 7) 19 3 0 0 7) 20 4 0 0 7) 21 5 0 0 7) 17 5)) 1 6 ((wr (cpy (cpy (cpy (cpy (wr M 1 0 (M 17 0)) 18 2 0 0 7) 19 3 0 0 7) 20 4 0 0 7) 21 5 0 0 7) 1 5 ((cpy (cpy (cpy (cpy (wr M 1 0 (M 17 0)) 18 2 0 0 7) 19 3 0 0 7) 20 4 0 0 7) 21 5 0 0 7) 17 5)) 17 6)) 17 7)) 17 8)) 1 9 ((wr (wr (wr (wr (cpy (cpy (cpy (cpy (wr M 1 0 (M 17 0)) 18 2 0 0 7) 19 3 0 0 7) 20 4 0 0 7) 21 5 0 0 7) 1 5 ((cpy (cpy (cpy (cpy (wr M 1 0 (M 17 0)) 18 2 0 0 7) 19 3 0 0 7) 20 4 0 0 7) 21 5 0 0 7) 17 5)) 1 6 ((wr (cpy (cpy (cpy (cpy (wr M 1 0 (M 17 0)) 18 2 0 0 7) 19 3 0 0 7) 20 4 0 0 7) 21 5 0 0 7) 1 5 ((cpy (cpy (cpy (cpy (wr M 1 0 (M 17 0)) 18 2 0 0 7) 19 3 0 0 7) 20 4 0 0 7) 21 5 0 0 7) 17 5)) 17 6)) 1 7 ((wr (wr (cpy (cpy (cpy (cpy (wr M 1 0 (M 17 0)) 18 2 0 0 7) 19 3 0 0 7) 20 4 0 0 7) 21 5 0 0 7) 1 5 ((cpy (cpy (cpy (cpy (wr M 1 0 (M 17 0)) 18 2 0 0 7) 19 3 0 0 7) 20 4 0 0 7) 21 5 0 0 7) 17 5)) 1 6 ((wr (cpy (cpy (cpy (cpy (wr M 1 0 (M 17 0)) 18 2 0 0 7) 19 3 0 0 7) 20 4 0 0 7) 21 5 0 0 7) 1 5 ((cpy (cpy (cpy (cpy (wr M 1 0 (M 17 0)) 18 2 0 0 7) 19 3 0 0 7) 20 4 0 0 7) 21 5 0 0 7) 17 5)) 17 6)) 17 7)) 1 8 ((wr (wr (wr (cpy (cpy (cpy (cpy (wr M 1 0 (M 17 0)) 18 2 0 0 7) 19 3 0 0 7) 20 4 0 0 7) 21 5 0 0 7) 1 5 ((cpy (cpy (cpy (cpy (wr M 1 0 (M 17 0)) 18 2 0 0 7) 19 3 0 0 7) 20 4 0 0 7) 21 5 0 0 7) 17 5)) 1 6 ((wr (cpy (cpy (cpy (cpy (wr M 1 0 (M 17 0)) 18 2 0 0 7) 19 3 0 0 7) 20 4 0 0 7) 21 5 0 0 7) 1 5 ((cpy (cpy (cpy (cpy (wr M 1 0 (M 17 0)) 18 2 0 0 7) 19 3 0 0 7) 20 4 0 0 7) 21 5 0 0 7) 17 5)) 17 6)) 1 7 ((wr (wr (cpy (cpy (cpy (cpy (wr M 1 0 (M 17 0)) 18 2 0 0 7) 19 3 0 0 7) 20 4 0 0 7) 21 5 0 0 7) 1 5 ((cpy (cpy (cpy (cpy (wr M 1 0 (M 17 0)) 18 2 0 0 7) 19 3 0 0 7) 20 4 0 0 7) 21 5 0 0 7) 17 5)) 1 6 ((wr (cpy (cpy (cpy (cpy (wr M 1 0 (M 17 0)) 18 2 0 0 7) 19 3 0 0 7) 20 4 0 0 7) 21 5 0 0 7) 1 5 ((cpy (cpy (cpy (cpy (wr M 1 0 (M 17 0)) 18 2 0 0 7) 19 3 0 0 7) 20 4 0 0 7) 21 5 0 0 7) 17 5)) 17 6)) 17 7)) 17 8)) 17 9)) 17 10)) 17 11)) hC hM 17 (Nat.le_of_ble_eq_true rfl) (eC_17 V) inW4 rfl 11 (by decide) q_228 (fun _ h9 => h9) rfl dX4_copyFrom_118 ?_
  refine mw_put hC hM 1 (Nat.le_of_ble_eq_true rfl) (eC_1 V) inW4 tyX4 tyX4_ok nmX4 rfl 11 (by decide) q_228 (fun _ h9 => h9) rfl rfl rfl (Nat.le_of_ble_eq_true rfl) rfl dX4_copyFrom_121 (fun H locs hM => ?_)
  refine lv_aload_n hC.1 hC.2.1 dX4_copyFrom_124 rfl (lv_at hl 1 rfl) ?_
  refine mw_get (v := .ref (mvA V 22)) hC hM 17 (Nat.le_of_ble_eq_true rfl) (eC_17 V) inW4 rfl 12 (by decide) q_230 (fun _ h9 => h9) rfl dX4_copyFrom_125 ?_
  refine lv_iconst hC.1 hC.2.1 dX4_copyFrom_128 ci_0 ?_
  refine lv_aload_n hC.1 hC.2.1 dX4_copyFrom_129 rfl (lv_at hl 0 rfl) ?_
  refine mw_get (v := .ref (mvA V 6)) hC hM 1 (Nat.le_of_ble_eq_true rfl) (eC_1 V) inW4 rfl 12 (by decide) q_230 (fun _ h9 => h9) rfl dX4_copyFrom_130 ?_
  refine lv_iconst hC.1 hC.2.1 dX4_copyFrom_133 ci_0 ?_
  refine lv_bipush hC.1 hC.2.1 dX4_copyFrom_134 cb_6 ?_
  obtain ⟨hg5, hf⟩ := o_g hf
  refine mw_copy (rest := []) hC hM 22 6 0 (Nat.le_of_ble_eq_true rfl) (Nat.le_of_ble_eq_true rfl) (eC_22 V) (eC_6 V) rfl hg5 hl.1 q_1134 q_722 q_721 q_127 (Nat.le_of_ble_eq_true rfl) (Nat.le_of_ble_eq_true rfl) dX4_copyFrom_136 (fun H locs hM => ?_)
  refine lv_aload_n hC.1 hC.2.1 dX4_copyFrom_139 rfl (lv_at hl 1 rfl) ?_
  refine mw_get (v := .ref (mvA V 23)) hC hM 17 (Nat.le_of_ble_eq_true rfl) (eC_17 V) inW4 rfl 13 (by decide) q_232 (fun _ h9 => h9) rfl dX4_copyFrom_140 ?_
  refine lv_iconst hC.1 hC.2.1 dX4_copyFrom_143 ci_0 ?_
  refine lv_aload_n hC.1 hC.2.1 dX4_copyFrom_144 rfl (lv_at hl 0 rfl) ?_
  refine mw_get (v := .ref (mvA V 7)) hC hM 1 (Nat.le_of_ble_eq_true rfl) (eC_1 V) inW4 rfl 13 (by decide) q_232 (fun _ h9 => h9) rfl dX4_copyFrom_145 ?_
  refine lv_iconst hC.1 hC.2.1 dX4_copyFrom_148 ci_0 ?_
  refine lv_bipush hC.1 hC.2.1 dX4_copyFrom_149 cb_6 ?_
  obtain ⟨hg6, hf⟩ := o_g hf
  refine mw_copy (rest := []) hC hM 23 7 0 (Nat.le_of_ble_eq_true rfl) (Nat.le_of_ble_eq_true rfl) (eC_23 V) (eC_7 V) rfl hg6 hl.1 q_1134 q_722 q_721 q_127 (Nat.le_of_ble_eq_true rfl) (Nat.le_of_ble_eq_true rfl) dX4_copyFrom_151 (fun H locs hM => ?_)
  refine lv_aload_n hC.1 hC.2.1 dX4_copyFrom_154 rfl (lv_at hl 0 rfl) ?_
  refine mw_get (v := .ref (mvA V 8)) hC hM 1 (Nat.le_of_ble_eq_true rfl) (eC_1 V) inW4 rfl 14 (by decide) q_234 (fun _ h9 => h9) rfl dX4_copyFrom_155 ?_
  refine lv_aload_n hC.1 hC.2.1 dX4_copyFrom_158 rfl (lv_at hl 1 rfl) ?_
  refine mw_get (v := .ref (mvA V 24)) hC hM 17 (Nat.le_of_ble_eq_true rfl) (eC_17 V) inW4 rfl 14 (by decide) q_234 (fun _ h9 => h9) rfl dX4_copyFrom_159 ?_
  obtain ⟨r7, M9, hq8, hf⟩ := o_b2 hf
  refine mw_cVv (As := [.ref (mvA V 24)]) (rest := []) hC hM (mcX6_copyFrom_q8_q24 V l (cpy (cpy (wr (wr (wr (wr (wr (wr (wr (cpy (cpy (cpy (cpy (wr M 1 0 (M 17 0)) 18 2 0 0 7) 19 3 0 0 7) 20 4 0 0 7) 21 5 0 0 7) 1 5 ((cpy (cpy (cpy (cpy (wr M 1 0 (M 17 0)) 18 2 0 0 7) 19 3 0 0 7) 20 4 0 0 7) 21 5 0 0 7) 17 5)) 1 6 ((wr (cpy (cpy (cpy (cpy (wr M 1 0 (M 17 0)) 18 2 0 0 7) 19 3 0 0 7) 20 4 0 0 7) 21 5 0 0 7) 1 5 ((cpy (cpy (cpy (cpy (wr M 1 0 (M 17 0)) 18 2 0 0 7) 19 3 0 0 7) 20 4 0 0 7) 21 5 0 0 7) 17 5)) 17 6)) 1 7 ((wr (wr (cpy (cpy (cpy (cpy (wr M 1 0 (M 17 0)) 18 2 0 0 7) 19 3 0 0 7) 20 4 0 0 7) 21 5 0 0 7) 1 5 ((cpy (cpy (cpy (cpy (wr M 1 0 (M 17 0)) 18 2 0 0 7) 19 3 0 0 7) 20 4 0 0 7) 21 5 0 0 7) 17 5)) 1 6 ((wr (cpy (cpy (cpy (cpy (wr M 1 0 (M 17 0)) 18 2 0 0 7) 19 3 0 0 7) 20 4 0 0 7) 21 5 0 0 7) 1 5 ((cpy (cpy (cpy (cpy (wr M 1 0 (M 17 0)) 18 2 0 0 7) 19 3 0 0 7) 20 4 0 0 7) 21 5 0 0 7) 17 5)) 17 6)) 17 7)) 1 8 ((wr (wr (wr (cpy (cpy (cpy (cpy (wr M 1 0 (M 17 0)) 18 2 0 0 7) 19 3 0 0 7) 20 4 0 0 7) 21 5 0 0 7) 1 5 ((cpy (cpy (cpy (cpy (wr M 1 0 (M 17 0)) 18 2 0 0 7) 19 3 0 0 7) 20 4 0 0 7) 21 5 0 0 7) 17 5)) 1 6 ((wr (cpy (cpy (cpy (cpy (wr M 1 0 (M 17 0)) 18 2 0 0 7) 19 3 0 0 7) 20 4 0 0 7) 21 5 0 0 7) 1 5 ((cpy (cpy (cpy (cpy (wr M 1 0 (M 17 0)) 18 2 0 0 7) 19 3 0 0 7) 20 4 0 0 7) 21 5 0 0 7) 17 5)) 17 6)) 1 7 ((wr (wr (cpy (cpy (cpy (cpy (wr M 1 0 (M 17 0)) 18 2 0 0 7) 19 3 0 0 7) 20 4 0 0 7) 21 5 0 0 7) 1 5 ((cpy (cpy (cpy (cpy (wr M 1 0 (M 17 0)) 18 2 0 0 7) 19 3 0 0 7) 20 4 0 0 7) 21 5 0 0 7) 17 5)) 1 6 ((wr (cpy (cpy (cpy (cpy (wr M 1 0 (M 17 0)) 18 2 0 0 7) 19 3 0 0 7) 20 4 0 0 7) 21 5 0 0 7) 1 5 ((cpy (cpy (cpy (cpy (wr M 1 0 (M 17 0)) 18 2 0 0 7) 19 3 0 0 7) 20 4 0 0 7) 21 5 0 0 7) 17 5)) 17 6)) 17 7)) 17 8)) 1 9 ((wr (wr (wr (wr (cpy (cpy (cpy (cpy (wr M 1 0 (M 17 0)) 18 2 0 0 7) 19 3 0 0 7) 20 4 0 0 7) 21 5 0 0 7) 1 5 ((cpy (cpy (cpy (cpy (wr M 1 0 (M 17 0)) 18 2 0 0 7) 19 3 0 0 7) 20 4 0 0 7) 21 5 0 0 7) 17 5)) 1 6 ((wr (cpy (cpy (cpy (cpy (wr M 1 0 (M 17 0)) 18 2 0 0 7) 19 3 0 0 7) 20 4 0 0 7) 21 5 0 0 7) 1 5 ((cpy (cpy (cpy (cpy (wr M 1 0 (M 17 0)) 18 2 0 0 7) 19 3 0 0 7) 20 4 0 0 7) 21 5 0 0 7) 17 5)) 17 6)) 1 7 ((wr (wr (cpy (cpy (cpy (cpy (wr M 1 0 (M 17 0)) 18 2 0 0 7) 19 3 0 0 7) 20 4 0 0 7) 21 5 0 0 7) 1 5 ((cpy (cpy (cpy (cpy (wr M 1 0 (M 17 0)) 18 2 0 0 7) 19 3 0 0 7) 20 4 0 0 7) 21 5 0 0 7) 17 5)) 1 6 ((wr (cpy (cpy (cpy (cpy (wr M 1 0 (M 17 0)) 18 2 0 0 7) 19 3 0 0 7) 20 4 0 0 7) 21 5 0 0 7) 1 5 ((cpy (cpy (cpy (cpy (wr M 1 0 (M 17 0)) 18 2 0 0 7) 19 3 0 0 7) 20 4 0 0 7) 21 5 0 0 7) 17 5)) 17 6)) 17 7)) 1 8 ((wr (wr (wr (cpy (cpy (cpy (cpy (wr M 1 0 (M 17 0)) 18 2 0 0 7) 19 3 0 0 7) 20 4 0 0 7) 21 5 0 0 7) 1 5 ((cpy (cpy (cpy (cpy (wr M 1 0 (M 17 0)) 18 2 0 0 7) 19 3 0 0 7) 20 4 0 0 7) 21 5 0 0 7) 17 5)) 1 6 ((wr (cpy (cpy (cpy (cpy (wr M 1 0 (M 17 0)) 18 2 0 0 7) 19 3 0 0 7) 20 4 0 0 7) 21 5 0 0 7) 1 5 ((cpy (cpy (cpy (cpy (wr M 1 0 (M 17 0)) 18 2 0 0 7) 19 3 0 0 7) 20 4 0 0 7) 21 5 0 0 7) 17 5)) 17 6)) 1 7 ((wr (wr (cpy (cpy (cpy (cpy (wr M 1 0 (M 17 0)) 18 2 0 0 7) 19 3 0 0 7) 20 4 0 0 7) 21 5 0 0 7) 1 5 ((cpy (cpy (cpy (cpy (wr M 1 0 (M 17 0)) 18 2 0 0 7) 19 3 0 0 7) 20 4 0 0 7) 21 5 0 0 7) 17 5)) 1 6 ((wr (cpy (cpy (cpy (cpy (wr M 1 0 (M 17 0)) 18 2 0 0 7) 19 3 0 0 7) 20 4 0 0 7) 21 5 0 0 7) 1 5 ((cpy (cpy (cpy (cpy (wr M 1 0 (M 17 0)) 18 2 0 0 7) 19 3 0 0 7) 20 4 0 0 7) 21 5 0 0 7) 17 5)) 17 6)) 17 7)) 17 8)) 17 9)) 1 10 ((wr (wr (wr (wr (wr (cpy (cpy (cpy (cpy (wr M 1 0 (M 17 0)) 18 2 0 0 7) 19 3 0 0 7) 20 4 0 0 7) 21 5 0 0 7) 1 5 ((cpy (cpy (cpy (cpy (wr M 1 0 (M 17 0)) 18 2 0 0 7) 19 3 0 0 7) 20 4 0 0 7) 21 5 0 0 7) 17 5)) 1 6 ((wr (cpy (cpy (cpy (cpy (wr M 1 0 (M 17 0)) 18 2 0 0 7) 19 3 0 0 7) 20 4 0 0 7) 21 5 0 0 7) 1 5 ((cpy (cpy (cpy (cpy (wr M 1 0 (M 17 0)) 18 2 0 0 7) 19 3 0 0 7) 20 4 0 0 7) 21 5 0 0 7) 17 5)) 17 6)) 1 7 ((wr (wr (cpy (cpy (cpy (cpy (wr M 1 0 (M 17 0)) 18 2 0 0 7) 19 3 0 0 7) 20 4 0 0 7) 21 5 0 0 7) 1 5 ((cpy (cpy (cpy (cpy (wr M 1 0 (M 17 0)) 18 2 0 0 7) 19 3 0 0 7) 20 4 0 0 7) 21 5 0 0 7) 17 5)) 1 6 ((wr (cpy (cpy (cpy (cpy (wr M 1 0 (M 17 0)) 18 2 0 0 7) 19 3 0 0 7) 20 4 0 0 7) 21 5 0 0 7) 1 5 ((cpy (cpy (cpy (cpy (wr M 1 0 (M 17 0)) 18 2 0 0 7) 19 3 0 0 7) 20 4 0 0 7) 21 5 0 0 7) 17 5)) 17 6)) 17 7)) 1 8 ((wr (wr (wr (cpy (cpy (cpy (cpy (wr M 1 0 (M 17 0)) 18 2 0 0 7) 19 3 0 0 7) 20 4 0 0 7) 21 5 0 0 7) 1 5 ((cpy (cpy (cpy (cpy (wr M 1 0 (M 17 0)) 18 2 0 0 7) 19 3 0 0 7) 20 4 0 0 7) 21 5 0 0 7) 17 5)) 1 6 ((wr (cpy (cpy (cpy (cpy (wr M 1 0 (M 17 0)) 18 2 0 0 7) 19 3 0 0 7) 20 4 0 0 7) 21 5 0 0 7) 1 5 ((cpy (cpy (cpy (cpy (wr M 1 0 (M 17 0)) 18 2 0 0 7) 19 3 0 0 7) 20 4 0 0 7) 21 5 0 0 7) 17 5)) 17 6)) 1 7 ((wr (wr (cpy (cpy (cpy (cpy (wr M 1 0 (M 17 0)) 18 2 0 0 7) 19 3 0 0 7) 20 4 0 0 7) 21 5 0 0 7) 1 5 ((cpy (cpy (cpy (cpy (wr M 1 0 (M 17 0)) 18 2 0 0 7) 19 3 0 0 7) 20 4 0 0 7) 21 5 0 0 7) 17 5)) 1 6 ((wr (cpy (cpy (cpy (cpy (wr M 1 0 (M 17 0)) 18 2 0 0 7) 19 3 0 0 7) 20 4 0 0 7) 21 5 0 0 7) 1 5 ((cpy (cpy (cpy (cpy (wr M 1 0 (M 17 0)) 18 2 0 0 7) 19 3 0 0 7) 20 4 0 0 7) 21 5 0 0 7) 17 5)) 17 6)) 17 7)) 17 8)) 1 9 ((wr (wr (wr (wr (cpy (cpy (cpy (cpy (wr M 1 0 (M 17 0)) 18 2 0 0 7) 19 3 0 0 7) 20 4 0 0 7) 21 5 0 0 7) 1 5 ((cpy (cpy (cpy (cpy (wr M 1 0 (M 17 0)) 18 2 0 0 7) 19 3 0 0 7) 20 4 0 0 7) 21 5 0 0 7) 17 5)) 1 6 ((wr (cpy (cpy (cpy (cpy (wr M 1 0 (M 17 0)) 18 2 0 0 7) 19 3 0 0 7) 20 4 0 0 7) 21 5 0 0 7) 1 5 ((cpy (cpy (cpy (cpy (wr M 1 0 (M 17 0)) 18 2 0 0 7) 19 3 0 0 7) 20 4 0 0 7) 21 5 0 0 7) 17 5)) 17 6)) 1 7 ((wr (wr (cpy (cpy (cpy (cpy (wr M 1 0 (M 17 0)) 18 2 0 0 7) 19 3 0 0 7) 20 4 0 0 7) 21 5 0 0 7) 1 5 ((cpy (cpy (cpy (cpy (wr M 1 0 (M 17 0)) 18 2 0 0 7) 19 3 0 0 7) 20 4 0 0 7) 21 5 0 0 7) 17 5)) 1 6 ((wr (cpy (cpy (cpy (cpy (wr M 1 0 (M 17 0)) 18 2 0 0 7) 19 3 0 0 7) 20 4 0 0 7) 21 5 0 0 7) 1 5 ((cpy (cpy (cpy (cpy (wr M 1 0 (M 17 0)) 18 2 0 0 7) 19 3 0 0 7) 20 4 0 0 7) 21 5 0 0 7) 17 5)) 17 6)) 17 7)) 1 8 ((wr (wr (wr (cpy (cpy (cpy (cpy (wr M 1 0 (M 17 0)) 18 2 0 0 7) 19 3 0 0 7) 20 4 0 0 7) 21 5 0 0 7) 1 5 ((cpy (cpy (cpy (cpy (wr M 1 0 (M 17 0)) 18 2 0 0 7) 19 3 0 0 7) 20 4 0 0 7) 21 5 0 0 7) 17 5)) 1 6 ((wr (cpy (cpy (cpy (cpy (wr M 1 0 (M 17 0)) 18 2 0 0 7) 19 3 0 0 7) 20 4 0 0 7) 21 5 0 0 7) 1 5 ((cpy (cpy (cpy (cpy (wr M 1 0 (M 17 0)) 18 2 0 0 7) 19 3 0 0 7) 20 4 0 0 7) 21 5 0 0 7) 17 5)) 17 6)) 1 7 ((wr (wr (cpy (cpy (cpy (cpy (wr M 1 0 (M 17 0)) 18 2 0 0 7) 19 3 0 0 7) 20 4 0 0 7) 21 5 0 0 7) 1 5 ((cpy (cpy (cpy (cpy (wr M 1 0 (M 17 0)) 18 2 0 0 7) 19 3 0 0 7) 20 4 0 0 7) 21 5 0 0 7) 17 5)) 1 6 ((wr (cpy (cpy (cpy (cpy (wr M 1 0 (M 17 0)) 18 2 0 0 7) 19 3 0 0 7) 20 4 0 0 7) 21 5 0 0 7) 1 5 ((cpy (cpy (cpy (cpy (wr M 1 0 (M 17 0)) 18 2 0 0 7) 19 3 0 0 7) 20 4 0 0 7) 21 5 0 0 7) 17 5)) 17 6)) 17 7)) 17 8)) 17 9)) 17 10)) 1 11 ((wr (wr (wr (wr (wr (wr (cpy (cpy (cpy (cpy (wr M 1 0 (M 17 0)) 18 2 0 0 7) 19 3 0 0 7) 20 4 0 0 7) 21 5 0 0 7) 1 5 ((cpy (cpy (cpy (cpy (wr M 1 0 (M 17 0)) 18 2 0 0 7) 19 3 0 0 7) 20 4 0 0 7) 21 5 0 0 7) 17 5)) 1 6 ((wr (cpy (cpy (cpy (cpy (wr M 1 0 (M 17 0)) 18 2 0 0 7) 19 3 0 0 7) 20 4 0 0 7) 21 5 0 0 7) 1 5 ((cpy (cpy (cpy (cpy (wr M 1 0 (M 17 0)) 18 2 0 0 7) 19 3 0 0 7) 20 4 0 0 7) 21 5 0 0 7) 17 5)) 17 6)) 1 7 ((wr (wr (cpy (cpy (cpy (cpy (wr M 1 0 (M 17 0)) 18 2 0 0 7) 19 3 0 0 7) 20 4 0 0 7) 21 5 0 0 7) 1 5 ((cpy (cpy (cpy (cpy (wr M 1 0 (M 17 0)) 18 2 0 0 7) 19 3 0 0 7) 20 4 0 0 7) 21 5 0 0 7) 17 5)) 1 6 ((wr (cpy (cpy (cpy (cpy (wr M 1 0 (M 17 0)) 18 2 0 0 7) 19 3 0 0 7) 20 4 0 0 7) 21 5 0 0 7) 1 5 ((cpy (cpy (cpy (cpy (wr M 1 0 (M 17 0)) 18 2 0 0 7) 19 3 0 0 7) 20 4 0 0 7) 21 5 0 0 7) 17 5)) 17 6)) 17 7)) 1 8 ((wr (wr (wr (cpy (cpy (cpy (cpy (wr M 1 0 (M 17 0)) 18 2 0 0 7) 19 3 0 0 7) 20 4 0 0 7) 21 5 0 0 7) 1 5 ((cpy (cpy (cpy (cpy (wr M 1 0 (M 17 0)) 18 2 0 0 7) 19 3 0 0 7) 20 4 0 0 7) 21 5 0 0 7) 17 5)) 1 6 ((wr (cpy (cpy (cpy (cpy (wr M 1 0 (M 17 0)) 18 2 0 0 7) 19 3 0 0 7) 20 4 0 0 7) 21 5 0 0 7) 1 5 ((cpy (cpy (cpy (cpy (wr M 1 0 (M 17 0)) 18 2 0 0 7) 19 3 0 0 7) 20 4 0 0 7) 21 5 0 0 7) 17 5)) 17 6)) 1 7 ((wr (wr (cpy (cpy (cpy (cpy (wr M 1 0 (M 17 0)) 18 2 0 0 7) 19 3 0 0 7) 20 4 0 0 7) 21 5 0 0 7) 1 5 ((cpy (cpy (cpy (cpy (wr M 1 0 (M 17 0)) 18 2 0 0 7) 19 3 0 0 7) 20 4 0 0 7) 21 5 0 0 7) 17 5)) 1 6 ((wr (cpy (cpy (cpy (cpy (wr M 1 0 (M 17 0)) 18 2 0 0 7) 19 3 0 0 7) 20 4 0 0 7) 21 5 0 0 7) 1 5 ((cpy (cpy (cpy (cpy (wr M 1 0 (M 17 0)) 18 2 0 0 7) 19 3 0 0 7) 20 4 0 0 7) 21 5 0 0 7) 17 5)) 17 6)) 17 7)) 17 8)) 1 9 ((wr (wr (wr (wr (cpy (cpy (cpy (cpy (wr M 1 0 (M 17 0)) 18 2 0 0 7) 19 3 0 0 7) 20 4 0 0 7) 21 5 0 0 7) 1 5 ((cpy (cpy (cpy (cpy (wr M 1 0 (M 17 0)) 18 2 0 0 7) 19 3 0 0 7) 20 4 0 0 7) 21 5 0 0 7) 17 5)) 1 6 ((wr (cpy (cpy (cpy (cpy (wr M 1 0 (M 17 0)) 18 2 0 0 7) 19 3 0 0 7) 20 4 0 0 7) 21 5 0 0 7) 1 5 ((cpy (cpy (cpy (cpy (wr M 1 0 (M 17 0)) 18 2 0 0 7) 19 3 0 0 7) 20 4 0 0 7) 21 5 0 0 7) 17 5)) 17 6)) 1 7 ((wr (wr (cpy (cpy (cpy (cpy (wr M 1 0 (M 17 0)) 18 2 0 0 7) 19 3 0 0 7) 20 4 0 0 7) 21 5 0 0 7) 1 5 ((cpy (cpy (cpy (cpy (wr M 1 0 (M 17 0)) 18 2 0 0 7) 19 3 0 0 7) 20 4 0 0 7) 21 5 0 0 7) 17 5)) 1 6 ((wr (cpy (cpy (cpy (cpy (wr M 1 0 (M 17 0)) 18 2 0 0 7) 19 3 0 0 7) 20 4 0 0 7) 21 5 0 0 7) 1 5 ((cpy (cpy (cpy (cpy (wr M 1 0 (M 17 0)) 18 2 0 0 7) 19 3 0 0 7) 20 4 0 0 7) 21 5 0 0 7) 17 5)) 17 6)) 17 7)) 1 8 ((wr (wr (wr (cpy (cpy (cpy (cpy (wr M 1 0 (M 17 0)) 18 2 0 0 7) 19 3 0 0 7) 20 4 0 0 7) 21 5 0 0 7) 1 5 ((cpy (cpy (cpy (cpy (wr M 1 0 (M 17 0)) 18 2 0 0 7) 19 3 0 0 7) 20 4 0 0 7) 21 5 0 0 7) 17 5)) 1 6 ((wr (cpy (cpy (cpy (cpy (wr M 1 0 (M 17 0)) 18 2 0 0 7) 19 3 0 0 7) 20 4 0 0 7) 21 5 0 0 7) 1 5 ((cpy (cpy (cpy (cpy (wr M 1 0 (M 17 0)) 18 2 0 0 7) 19 3 0 0 7) 20 4 0 0 7) 21 5 0 0 7) 17 5)) 17 6)) 1 7 ((wr (wr (cpy (cpy (cpy (cpy (wr M 1 0 (M 17 0)) 18 2 0 0 7) 19 3 0 0 7) 20 4 0 0 7) 21 5 0 0 7) 1 5 ((cpy (cpy (cpy (cpy (wr M 1 0 (M 17 0)) 18 2 0 0 7) 19 3 0 0 7) 20 4 0 0 7) 21 5 0 0 7) 17 5)) 1 6 ((wr (cpy (cpy (cpy (cpy (wr M 1 0 (M 17 0)) 18 2 0 0 7) 19 3 0 0 7) 20 4 0 0 7) 21 5 0 0 7) 1 5 ((cpy (cpy (cpy (cpy (wr M 1 0 (M 17 0)) 18 2 0 0 7) 19 3 0 0 7) 20 4 0 0 7) 21 5 0 0 7) 17 5)) 17 6)) 17 7)) 17 8)) 17 9)) 1 10 ((wr (wr (wr (wr (wr (cpy (cpy (cpy (cpy (wr M 1 0 (M 17 0)) 18 2 0 0 7) 19 3 0 0 7) 20 4 0 0 7) 21 5 0 0 7) 1 5 ((cpy (cpy (cpy (cpy (wr M 1 0 (M 17 0)) 18 2 0 0 7) 19 3 0 0 7) 20 4 0 0 7) 21 5 0 0 7) 17 5)) 1 6 ((wr (cpy (cpy (cpy (cpy (wr M 1 0 (M 17 0)) 18 2 0 0 7) 19 3 0 0 7) 20 4 0 0 7) 21 5 0 0 7) 1 5 ((cpy (cpy (cpy (cpy (wr M 1 0 (M 17 0)) 18 2 0 0 7) 19 3 0 0 7) 20 4 0 0 7) 21 5 0 0 7) 17 5)) 17 6)) 1 7 ((wr (wr (cpy (cpy (cpy (cpy (wr M 1 0 (M 17 0)) 18 2 0 0 7) 19 3 0 0 7) 20 4 0 0 7) 21 5 0 0 7) 1 5 ((cpy (cpy (cpy (cpy (wr M 1 0 (M 17 0)) 18 2 0 0 7) 19 3 0 0 7) 20 4 0 0 7) 21 5 0 0 7) 17 5)) 1 6 ((wr (cpy (cpy (cpy (cpy (wr M 1 0 (M 17 0)) 18 2 0 0 7) 19 3 0 0 7) 20 4 0 0 7) 21 5 0 0 7) 1 5 ((cpy (cpy (cpy (cpy (wr M 1 0 (M 17 0)) 18 2 0 0 7) 19 3 0 0 7) 20 4 0 0 7) 21 5 0 0 7) 17 5)) 17 6)) 17 7)) 1 8 ((wr (wr (wr (cpy (cpy (cpy (cpy (wr M 1 0 (M 17 0)) 18 2 0 0 7) 19 3 0 0 7) 20 4 0 0 7) 21 5 0 0 7) 1 5 ((cpy (cpy (cpy (cpy (wr M 1 0 (M 17 0)) 18 2 0 0 7) 19 3 0 0 7) 20 4 0 0 7) 21 5 0 0 7) 17 5)) 1 6 ((wr (cpy (cpy (cpy (cpy (wr M 1 0 (M 17 0)) 18 2 0 0 7) 19 3 0 0 7) 20 4 0 0 7) 21 5 0 0 7) 1 5 ((cpy (cpy (cpy (cpy (wr M 1 0 (M 17 0)) 18 2 0 0 7) 19 3 0 0 7) 20 4 0 0 7) 21 5 0 0 7) 17 5)) 17 6)) 1 7 ((wr (wr (cpy (cpy (cpy (cpy (wr M 1 0 (M 17 0)) 18 2 0 0 7) 19 3 0 0 7) 20 4 0 0 7) 21 5 0 0 7) 1 5 ((cpy (cpy (cpy (cpy (wr M 1 0 (M 17 0)) 18 2 0 0 7) 19 3 0 0 7) 20 4 0 0 7) 21 5 0 0 7) 17 5)) 1 6 ((wr (cpy (cpy (cpy (cpy (wr M 1 0 (M 17 0)) 18 2 0 0 7) 19 3 0 0 7) 20 4 0 0 7) 21 5 0 0 7) 1 5 ((cpy (cpy (cpy (cpy (wr M 1 0 (M 17 0)) 18 2 0 0 7) 19 3 0 0 7) 20 4 0 0 7) 21 5 0 0 7) 17 5)) 17 6)) 17 7)) 17 8)) 1 9 ((wr (wr (wr (wr (cpy (cpy (cpy (cpy (wr M 1 0 (M 17 0)) 18 2 0 0 7) 19 3 0 0 7) 20 4 0 0 7) 21 5 0 0 7) 1 5 ((cpy (cpy (cpy (cpy (wr M 1 0 (M 17 0)) 18 2 0 0 7) 19 3 0 0 7) 20 4 0 0 7) 21 5 0 0 7) 17 5)) 1 6 ((wr (cpy (cpy (cpy (cpy (wr M 1 0 (M 17 0)) 18 2 0 0 7) 19 3 0 0 7) 20 4 0 0 7) 21 5 0 0 7) 1 5 ((cpy (cpy (cpy (cpy (wr M 1 0 (M 17 0)) 18 2 0 0 7) 19 3 0 0 7) 20 4 0 0 7) 21 5 0 0 7) 17 5)) 17 6)) 1 7 ((wr (wr (cpy (cpy (cpy (cpy (wr M 1 0 (M 17 0)) 18 2 0 0 7) 19 3 0 0 7) 20 4 0 0 7) 21 5 0 0 7) 1 5 ((cpy (cpy (cpy (cpy (wr M 1 0 (M 17 0)) 18 2 0 0 7) 19 3 0 0 7) 20 4 0 0 7) 21 5 0 0 7) 17 5)) 1 6 ((wr (cpy (cpy (cpy (cpy (wr M 1 0 (M 17 0)) 18 2 0 0 7) 19 3 0 0 7) 20 4 0 0 7) 21 5 0 0 7) 1 5 ((cpy (cpy (cpy (cpy (wr M 1 0 (M 17 0)) 18 2 0 0 7) 19 3 0 0 7) 20 4 0 0 7) 21 5 0 0 7) 17 5)) 17 6)) 17 7)) 1 8 ((wr (wr (wr (cpy (cpy (cpy (cpy (wr M 1 0 (M 17 0)) 18 2 0 0 7) 19 3 0 0 7) 20 4 0 0 7) 21 5 0 0 7) 1 5 ((cpy (cpy (cpy (cpy (wr M 1 0 (M 17 0)) 18 2 0 0 7) 19 3 0 0 7) 20 4 0 0 7) 21 5 0 0 7) 17 5)) 1 6 ((wr (cpy (cpy (cpy (cpy (wr M 1 0 (M 17 0)) 18 2 0 0 7) 19 3 0 0 7) 20 4 0 0 7) 21 5 0 0 7) 1 5 ((cpy (cpy (cpy (cpy (wr M 1 0 (M 17 0)) 18 2 0 0 7) 19 3 0 0 7) 20 4 0 0 7) 21 5 0 0 7) 17 5)) 17 6)) 1 7 ((wr (wr (cpy (cpy (cpy (cpy (wr M 1 0 (M 17 0)) 18 2 0 0 7) 19 3 0 0 7) 20 4 0 0 7) 21 5 0 0 7) 1 5 ((cpy (cpy (cpy (cpy (wr M 1 0 (M 17 0)) 18 2 0 0 7) 19 3 0 0 7) 20 4 0 0 7) 21 5 0 0 7) 17 5)) 1 6 ((wr (cpy (cpy (cpy (cpy (wr M 1 0 (M 17 0)) 18 2 0 0 7) 19 3 0 0 7) 20 4 0 0 7) 21 5 0 0 7) 1 5 ((cpy (cpy (cpy (cpy (wr M 1 0 (M 17 0)) 18 2 0 0 7) 19 3 0 0 7) 20 4 0 0 7) 21 5 0 0 7) 17 5)) 17 6)) 17 7)) 17 8)) 17 9)) 17 10)) 17 11)) 22 6 0 0 6) 23 7 0 0 6) r7 M9 hq8) (mw_kV hC q_1135 q_717 q_718 q_110 q_719 ⟨rfl, rfl⟩ kV_X6_copyFrom ⟨Nat.le_of_ble_eq_true rfl, Nat.le_of_ble_eq_true rfl⟩) (Nat.le_of_ble_eq_true rfl) (eC_8 V) rfl rfl rfl (Nat.le_of_ble_eq_true rfl) hl.1 dX4_copyFrom_162 (fun H locs hM => ?_)
  exact hret (o_r2 hf hM) dX4_copyFrom_165
set_option maxHeartbeats 4000000 in
set_option maxRecDepth 100000 in
theorem mcX11_again (V : mV) (l : Launch) (M : mM) (r : Int32) (M' : mM) (hf : fX11_again M = some (r, M')) : IC V l yX11_again cX11_again 1 ({ frames := 3, cells := 0, slots := 0, locals := 82 } : Room) [.ref (mvA V 0)] M r M' := by
  unfold fX11_again at hf
  refine mw_enterI RX11 rfl (by decide +kernel) (Nat.le_of_ble_eq_true rfl) (fun {p e s m args below meth c} ls A Q hC hret hM hl => ?_)
  have hl : lv_has ls 1 [(0, .ref (mvA V 0))] := hl
  refine lv_aload_n hC.1 hC.2.1 dX11_again_0 rfl (lv_at hl 0 rfl) ?_
  refine mw_get (v := .int (M 0 2)) hC hM 0 (Nat.le_of_ble_eq_true rfl) (eC_0 V) inW11 rfl 2 (by decide) q_426 (fun _ h9 => h9) rfl dX11_again_1 ?_
  refine lv_if_ne (tgt := 10) hC.1 hC.2.1 dX11_again_4 (by decide) (fun hc7 => ?_) (fun hc7 => ?_)
  · have hf := o_f hc7 hf
    refine lv_aload_n hC.1 hC.2.1 dX11_again_10 rfl (lv_at hl 0 rfl) ?_
    refine mw_get (v := .ref (mvA V 1)) hC hM 0 (Nat.le_of_ble_eq_true rfl) (eC_0 V) inW11 rfl 0 (by decide) q_424 (fun _ h9 => h9) rfl dX11_again_11 ?_
    refine lv_aload_n hC.1 hC.2.1 dX11_again_14 rfl (lv_at hl 0 rfl) ?_
    refine mw_get (v := .ref (mvA V 17)) hC hM 0 (Nat.le_of_ble_eq_true rfl) (eC_0 V) inW11 rfl 1 (by decide) q_425 (fun _ h9 => h9) rfl dX11_again_15 ?_
    obtain ⟨r1, M3, hq2, hf⟩ := o_b2 hf
    refine mw_cVv (As := [.ref (mvA V 17)]) (rest := []) hC hM (mcX4_copyFrom_q1_q17 V l M r1 M3 hq2) (mw_kV hC q_1130 q_1131 q_1132 q_109 q_1133 ⟨rfl, rfl⟩ kV_X4_copyFrom ⟨Nat.le_of_ble_eq_true rfl, Nat.le_of_ble_eq_true rfl⟩) (Nat.le_of_ble_eq_true rfl) (eC_1 V) rfl rfl rfl (Nat.le_of_ble_eq_true rfl) hl.1 dX11_again_18 (fun H locs hM => ?_)
    refine lv_aload_n hC.1 hC.2.1 dX11_again_21 rfl (lv_at hl 0 rfl) ?_
    obtain ⟨r4, M6, hq5, hf⟩ := o_b2 hf
    refine mw_cVv (As := []) (rest := []) hC hM (mcX11_forgetSums V l M3 r4 M6 hq5) (mw_kV hC q_416 q_418 q_0 q_107 q_419 ⟨rfl, rfl⟩ kV_X11_forgetSums ⟨Nat.le_of_ble_eq_true rfl, Nat.le_of_ble_eq_true rfl⟩) (Nat.le_of_ble_eq_true rfl) (eC_0 V) rfl rfl rfl (Nat.le_of_ble_eq_true rfl) hl.1 dX11_again_22 (fun H locs hM => ?_)
    refine lv_aload_n hC.1 hC.2.1 dX11_again_25 rfl (lv_at hl 0 rfl) ?_
    refine mw_get (v := .ref (mvA V 1)) hC hM 0 (Nat.le_of_ble_eq_true rfl) (eC_0 V) inW11 rfl 0 (by decide) q_424 (fun _ h9 => h9) rfl dX11_again_26 ?_
    refine mw_get (v := .int (M6 1 0)) hC hM 1 (Nat.le_of_ble_eq_true rfl) (eC_1 V) inW4 rfl 0 (by decide) q_206 (fun _ h9 => h9) rfl dX11_again_29 ?_
    exact hret (o_r1 hf) (o_r2 hf hM) dX11_again_32
  · have hf := o_t hc7 hf
    refine lv_bipush hC.1 hC.2.1 dX11_again_7 cb_m3 ?_
    exact hret (o_r1 hf) (o_r2 hf hM) dX11_again_9
set_option maxHeartbeats 4000000 in
set_option maxRecDepth 100000 in
theorem mcX12_in (V : mV) (l : Launch) (M : mM) (p0 : Int64) (p2 : Int64) (p4 : Int64) (r : Int32) (hf : fX12_in p0 p2 p4 = r) : ZR V l yX12_in cX12_in 6 ({ frames := 0, cells := 0, slots := 0, locals := 0 } : Room) [.long p0, .long p2, .long p4] M r M := by
  unfold fX12_in at hf
  refine mw_enterZ RX12 rfl (by decide +kernel) (Nat.le_of_ble_eq_true rfl) (fun {p e s m args below meth c} ls A Q hC hret hM hl => ?_)
  have hl : lv_has ls 6 [(0, .long p0), (2, .long p2), (4, .long p4)] := hl
  refine lv_lload_n hC.1 hC.2.1 dX12_in_0 rfl (lv_at hl 0 rfl) ?_
  refine lv_lload_n hC.1 hC.2.1 dX12_in_1 rfl (lv_at hl 1 rfl) ?_
  refine mw_lcmp hC.1 hC.2.1 dX12_in_2 ?_
  refine lv_if_lt (tgt := 17) hC.1 hC.2.1 dX12_in_3 (by decide) (fun hc2 => ?_) (fun hc2 => ?_)
  · have hf := o_t hc2 hf
    refine lv_iconst hC.1 hC.2.1 dX12_in_17 ci_0 ?_
    exact hret hf (Or.inl rfl) hM dX12_in_18
  · have hf := o_f hc2 hf
    refine lv_lload_n hC.1 hC.2.1 dX12_in_6 rfl (lv_at hl 0 rfl) ?_
    refine lv_lload hC.1 hC.2.1 dX12_in_7 (lv_at hl 2 rfl) ?_
    refine mw_lcmp hC.1 hC.2.1 dX12_in_9 ?_
    refine lv_if_gt (tgt := 17) hC.1 hC.2.1 dX12_in_10 (by decide) (fun hc1 => ?_) (fun hc1 => ?_)
    · have hf := o_t hc1 hf
      refine lv_iconst hC.1 hC.2.1 dX12_in_17 ci_0 ?_
      exact hret hf (Or.inl rfl) hM dX12_in_18
    · have hf := o_f hc1 hf
      refine lv_iconst hC.1 hC.2.1 dX12_in_13 ci_1 ?_
      refine lv_goto (tgt := 18) hC.1 hC.2.1 dX12_in_14 (by decide) ?_
      exact hret hf (Or.inr rfl) hM dX12_in_18
set_option maxHeartbeats 4000000 in
set_option maxRecDepth 100000 in
theorem mcX12_isKind (V : mV) (l : Launch) (M : mM) (p0 : Int32) (r : Int32) (hf : fX12_isKind p0 = r) : ZR V l yX12_isKind cX12_isKind 1 ({ frames := 1, cells := 0, slots := 0, locals := 25 } : Room) [.int p0] M r M := by
  unfold fX12_isKind at hf
  refine mw_enterZ RX12 rfl (by decide +kernel) (Nat.le_of_ble_eq_true rfl) (fun {p e s m args below meth c} ls A Q hC hret hM hl => ?_)
  have hl : lv_has ls 1 [(0, .int p0)] := hl
  refine lv_iload_n hC.1 hC.2.1 dX12_isKind_0 rfl (lv_at hl 0 rfl) ?_
  refine lv_i2l (v := (Int32.toInt64 p0)) hC.1 hC.2.1 dX12_isKind_1 rfl ?_
  refine lv_lconst (v := 1) hC.1 hC.2.1 dX12_isKind_2 rfl ?_
  refine lv_ldc2 hC.1 hC.2.1 hC.2.2.2.1 (mw_w hC q_1256) dX12_isKind_3 ?_
  refine mw_cSi (As := [.long (Int32.toInt64 p0), .long 1, .long 5]) (rest := []) hC hM (mcX12_in V l M (Int32.toInt64 p0) 1 5 _ rfl) (mw_kS hC q_1257 q_1258 q_120 q_1259 ⟨rfl, rfl⟩ kS_X12_in ⟨Nat.le_of_ble_eq_true rfl, Nat.le_of_ble_eq_true rfl⟩) rfl rfl (Nat.le_of_ble_eq_true rfl) hl.1 dX12_isKind_6 (fun H locs hM hb1 => ?_)
  exact hret hf hb1 hM dX12_isKind_9
set_option maxHeartbeats 4000000 in
set_option maxRecDepth 100000 in
theorem mcX12_isHour (V : mV) (l : Launch) (M : mM) (p0 : Int32) (r : Int32) (hf : fX12_isHour p0 = r) : ZR V l yX12_isHour cX12_isHour 1 ({ frames := 1, cells := 0, slots := 0, locals := 25 } : Room) [.int p0] M r M := by
  unfold fX12_isHour at hf
  refine mw_enterZ RX12 rfl (by decide +kernel) (Nat.le_of_ble_eq_true rfl) (fun {p e s m args below meth c} ls A Q hC hret hM hl => ?_)
  have hl : lv_has ls 1 [(0, .int p0)] := hl
  refine lv_iload_n hC.1 hC.2.1 dX12_isHour_0 rfl (lv_at hl 0 rfl) ?_
  refine lv_i2l (v := (Int32.toInt64 p0)) hC.1 hC.2.1 dX12_isHour_1 rfl ?_
  refine lv_lconst (v := 0) hC.1 hC.2.1 dX12_isHour_2 rfl ?_
  refine lv_ldc2 hC.1 hC.2.1 hC.2.2.2.1 (mw_w hC q_1266) dX12_isHour_3 ?_
  refine mw_cSi (As := [.long (Int32.toInt64 p0), .long 0, .long 23]) (rest := []) hC hM (mcX12_in V l M (Int32.toInt64 p0) 0 23 _ rfl) (mw_kS hC q_1257 q_1258 q_120 q_1259 ⟨rfl, rfl⟩ kS_X12_in ⟨Nat.le_of_ble_eq_true rfl, Nat.le_of_ble_eq_true rfl⟩) rfl rfl (Nat.le_of_ble_eq_true rfl) hl.1 dX12_isHour_6 (fun H locs hM hb1 => ?_)
  exact hret hf hb1 hM dX12_isHour_9
set_option maxHeartbeats 4000000 in
set_option maxRecDepth 100000 in
theorem mcX12_mayBe (V : mV) (l : Launch) (M : mM) (p0 : Int32) (p1 : Int32) (r : Int32) (hf : fX12_mayBe p0 p1 = r) : ZR V l yX12_mayBe cX12_mayBe 2 ({ frames := 2, cells := 0, slots := 0, locals := 45 } : Room) [.int p0, .int p1] M r M := by
  unfold fX12_mayBe at hf
  refine mw_enterZ RX12 rfl (by decide +kernel) (Nat.le_of_ble_eq_true rfl) (fun {p e s m args below meth c} ls A Q hC hret hM hl => ?_)
  have hl : lv_has ls 2 [(0, .int p0), (1, .int p1)] := hl
  refine lv_iload_n hC.1 hC.2.1 dX12_mayBe_0 rfl (lv_at hl 0 rfl) ?_
  refine lv_iconst hC.1 hC.2.1 dX12_mayBe_1 ci_1 ?_
  refine lv_icmp_ne (tgt := 12) hC.1 hC.2.1 dX12_mayBe_2 (by decide) (fun hc7 => ?_) (fun hc7 => ?_)
  · have hf := o_f hc7 hf
    refine lv_iload_n hC.1 hC.2.1 dX12_mayBe_12 rfl (lv_at hl 0 rfl) ?_
    refine lv_iconst hC.1 hC.2.1 dX12_mayBe_13 ci_2 ?_
    refine lv_icmp_ne (tgt := 29) hC.1 hC.2.1 dX12_mayBe_14 (by decide) (fun hc5 => ?_) (fun hc5 => ?_)
    · have hf := o_f hc5 hf
      refine lv_iload_n hC.1 hC.2.1 dX12_mayBe_29 rfl (lv_at hl 0 rfl) ?_
      refine lv_iconst hC.1 hC.2.1 dX12_mayBe_30 ci_3 ?_
      refine lv_icmp_ne (tgt := 50) hC.1 hC.2.1 dX12_mayBe_31 (by decide) (fun hc3 => ?_) (fun hc3 => ?_)
      · have hf := o_f hc3 hf
        refine lv_iconst hC.1 hC.2.1 dX12_mayBe_50 ci_0 ?_
        exact hret hf (Or.inl rfl) hM dX12_mayBe_51
      · have hf := o_t hc3 hf
        refine lv_iload_n hC.1 hC.2.1 dX12_mayBe_34 rfl (lv_at hl 1 rfl) ?_
        refine lv_i2l (v := (Int32.toInt64 p1)) hC.1 hC.2.1 dX12_mayBe_35 rfl ?_
        refine lv_lconst (v := 0) hC.1 hC.2.1 dX12_mayBe_36 rfl ?_
        refine lv_ldc2 hC.1 hC.2.1 hC.2.2.2.1 (mw_w hC q_1268) dX12_mayBe_37 ?_
        refine mw_cSi (As := [.long (Int32.toInt64 p1), .long 0, .long 99]) (rest := []) hC hM (mcX12_in V l M (Int32.toInt64 p1) 0 99 _ rfl) (mw_kS hC q_1257 q_1258 q_120 q_1259 ⟨rfl, rfl⟩ kS_X12_in ⟨Nat.le_of_ble_eq_true rfl, Nat.le_of_ble_eq_true rfl⟩) rfl rfl (Nat.le_of_ble_eq_true rfl) hl.1 dX12_mayBe_40 (fun H locs hM hb1 => ?_)
        refine lv_if_eq (tgt := 50) hC.1 hC.2.1 dX12_mayBe_43 (by decide) (fun hc2 => ?_) (fun hc2 => ?_)
        · have hf := o_t hc2 hf
          refine lv_iconst hC.1 hC.2.1 dX12_mayBe_50 ci_0 ?_
          exact hret hf (Or.inl rfl) hM dX12_mayBe_51
        · have hf := o_f hc2 hf
          refine lv_iconst hC.1 hC.2.1 dX12_mayBe_46 ci_1 ?_
          refine lv_goto (tgt := 51) hC.1 hC.2.1 dX12_mayBe_47 (by decide) ?_
          exact hret hf (Or.inr rfl) hM dX12_mayBe_51
    · have hf := o_t hc5 hf
      refine lv_iload_n hC.1 hC.2.1 dX12_mayBe_17 rfl (lv_at hl 1 rfl) ?_
      refine lv_i2l (v := (Int32.toInt64 p1)) hC.1 hC.2.1 dX12_mayBe_18 rfl ?_
      refine lv_lconst (v := 1) hC.1 hC.2.1 dX12_mayBe_19 rfl ?_
      refine lv_ldc2 hC.1 hC.2.1 hC.2.2.2.1 (mw_w hC q_1267) dX12_mayBe_20 ?_
      refine mw_cSi (As := [.long (Int32.toInt64 p1), .long 1, .long 9]) (rest := []) hC hM (mcX12_in V l M (Int32.toInt64 p1) 1 9 _ rfl) (mw_kS hC q_1257 q_1258 q_120 q_1259 ⟨rfl, rfl⟩ kS_X12_in ⟨Nat.le_of_ble_eq_true rfl, Nat.le_of_ble_eq_true rfl⟩) rfl rfl (Nat.le_of_ble_eq_true rfl) hl.1 dX12_mayBe_23 (fun H locs hM hb4 => ?_)
      refine lv_goto (tgt := 51) hC.1 hC.2.1 dX12_mayBe_26 (by decide) ?_
      exact hret hf hb4 hM dX12_mayBe_51
  · have hf := o_t hc7 hf
    refine lv_iload_n hC.1 hC.2.1 dX12_mayBe_5 rfl (lv_at hl 1 rfl) ?_
    refine mw_cSi (As := [.int p1]) (rest := []) hC hM (mcX12_isHour V l M p1 _ rfl) (mw_kS hC q_1263 q_1264 q_120 q_1265 ⟨rfl, rfl⟩ kS_X12_isHour ⟨Nat.le_of_ble_eq_true rfl, Nat.le_of_ble_eq_true rfl⟩) rfl rfl (Nat.le_of_ble_eq_true rfl) hl.1 dX12_mayBe_6 (fun H locs hM hb6 => ?_)
    refine lv_goto (tgt := 51) hC.1 hC.2.1 dX12_mayBe_9 (by decide) ?_
    exact hret hf hb6 hM dX12_mayBe_51
set_option maxHeartbeats 4000000 in
set_option maxRecDepth 100000 in
theorem mcX12_sets (V : mV) (l : Launch) (M : mM) (p1 : Int32) (p2 : Int32) (p3 : Int32) (r : Int32) (M' : mM) (hf : fX12_sets M p1 p2 p3 = some (r, M')) : UR V l yX12_sets cX12_sets 4 ({ frames := 0, cells := 0, slots := 0, locals := 0 } : Room) [.ref (mvA V 0), .int p1, .int p2, .int p3] M M' := by
  unfold fX12_sets at hf
  refine mw_enterV RX12 rfl (by decide +kernel) (Nat.le_of_ble_eq_true rfl) (fun {p e s m args below meth c} ls A Q hC hret hM hl => ?_)
  have hl : lv_has ls 4 [(0, .ref (mvA V 0)), (1, .int p1), (2, .int p2), (3, .int p3)] := hl
  refine lv_aload_n hC.1 hC.2.1 dX12_sets_0 rfl (lv_at hl 0 rfl) ?_
  refine mw_get (v := .ref (mvA V 1)) hC hM 0 (Nat.le_of_ble_eq_true rfl) (eR_0 V) inW12 rfl 0 (by decide) q_1146 (fun _ h9 => h9) rfl dX12_sets_1 ?_
  refine lv_bipush hC.1 hC.2.1 dX12_sets_4 cb_8 ?_
  refine lv_iconst hC.1 hC.2.1 dX12_sets_6 ci_5 ?_
  refine lv_iload_n hC.1 hC.2.1 dX12_sets_7 rfl (lv_at hl 1 rfl) ?_
  refine lv_imul hC.1 hC.2.1 dX12_sets_8 ?_
  refine lv_iadd hC.1 hC.2.1 dX12_sets_9 ?_
  refine lv_iload_n hC.1 hC.2.1 dX12_sets_10 rfl (lv_at hl 2 rfl) ?_
  refine lv_iadd hC.1 hC.2.1 dX12_sets_11 ?_
  refine lv_iload_n hC.1 hC.2.1 dX12_sets_12 rfl (lv_at hl 3 rfl) ?_
  obtain ⟨hg1, hf⟩ := o_g hf
  refine mw_iast hC hM 1 0 (Nat.le_of_ble_eq_true rfl) (eR_1 V) rfl hg1 dX12_sets_13 (fun H locs hM => ?_)
  exact hret (o_r2 hf hM) dX12_sets_14
set_option maxHeartbeats 4000000 in
set_option maxRecDepth 100000 in
theorem mcX12_voter (V : mV) (l : Launch) (M : mM) (p1 : Int32) (p2 : Int32) (p3 : Int32) (p4 : Int32) (r : Int32) (M' : mM) (hf : fX12_voter M p1 p2 p3 p4 = some (r, M')) : IR V l yX12_voter cX12_voter 6 ({ frames := 3, cells := 0, slots := 0, locals := 66 } : Room) [.ref (mvA V 0), .int p1, .int p2, .int p3, .int p4] M r M' := by
  unfold fX12_voter at hf
  refine mw_enterI RX12 rfl (by decide +kernel) (Nat.le_of_ble_eq_true rfl) (fun {p e s m args below meth c} ls A Q hC hret hM hl => ?_)
  have hl : lv_has ls 6 [(0, .ref (mvA V 0)), (1, .int p1), (2, .int p2), (3, .int p3), (4, .int p4)] := hl
  refine lv_iload_n hC.1 hC.2.1 dX12_voter_0 rfl (lv_at hl 1 rfl) ?_
  refine mw_cSi (As := [.int p1]) (rest := []) hC hM (mcX12_isKind V l M p1 _ rfl) (mw_kS hC q_1253 q_1254 q_120 q_1255 ⟨rfl, rfl⟩ kS_X12_isKind ⟨Nat.le_of_ble_eq_true rfl, Nat.le_of_ble_eq_true rfl⟩) rfl rfl (Nat.le_of_ble_eq_true rfl) hl.1 dX12_voter_1 (fun H locs hM hb1 => ?_)
  refine lv_if_eq (tgt := 32) hC.1 hC.2.1 dX12_voter_4 (by decide) (fun hc28 => ?_) (fun hc28 => ?_)
  · have hf := o_t hc28 hf
    refine lv_iconst hC.1 hC.2.1 dX12_voter_32 ci_m1 ?_
    exact hret (o_r1 hf) (o_r2 hf hM) dX12_voter_33
  · have hf := o_f hc28 hf
    refine lv_iconst hC.1 hC.2.1 dX12_voter_7 ci_1 ?_
    refine lv_iload_n hC.1 hC.2.1 dX12_voter_8 rfl (lv_at hl 2 rfl) ?_
    refine mw_cSi (As := [.int 1, .int p2]) (rest := []) hC hM (mcX12_mayBe V l M 1 p2 _ rfl) (mw_kS hC q_1260 q_1261 q_120 q_1262 ⟨rfl, rfl⟩ kS_X12_mayBe ⟨Nat.le_of_ble_eq_true rfl, Nat.le_of_ble_eq_true rfl⟩) rfl rfl (Nat.le_of_ble_eq_true rfl) hl.1 dX12_voter_9 (fun H locs hM hb2 => ?_)
    refine lv_if_eq (tgt := 32) hC.1 hC.2.1 dX12_voter_12 (by decide) (fun hc27 => ?_) (fun hc27 => ?_)
    · have hf := o_t hc27 hf
      refine lv_iconst hC.1 hC.2.1 dX12_voter_32 ci_m1 ?_
      exact hret (o_r1 hf) (o_r2 hf hM) dX12_voter_33
    · have hf := o_f hc27 hf
      refine lv_iconst hC.1 hC.2.1 dX12_voter_15 ci_2 ?_
      refine lv_iload_n hC.1 hC.2.1 dX12_voter_16 rfl (lv_at hl 3 rfl) ?_
      refine mw_cSi (As := [.int 2, .int p3]) (rest := []) hC hM (mcX12_mayBe V l M 2 p3 _ rfl) (mw_kS hC q_1260 q_1261 q_120 q_1262 ⟨rfl, rfl⟩ kS_X12_mayBe ⟨Nat.le_of_ble_eq_true rfl, Nat.le_of_ble_eq_true rfl⟩) rfl rfl (Nat.le_of_ble_eq_true rfl) hl.1 dX12_voter_17 (fun H locs hM hb3 => ?_)
      refine lv_if_eq (tgt := 32) hC.1 hC.2.1 dX12_voter_20 (by decide) (fun hc26 => ?_) (fun hc26 => ?_)
      · have hf := o_t hc26 hf
        refine lv_iconst hC.1 hC.2.1 dX12_voter_32 ci_m1 ?_
        exact hret (o_r1 hf) (o_r2 hf hM) dX12_voter_33
      · have hf := o_f hc26 hf
        refine lv_iconst hC.1 hC.2.1 dX12_voter_23 ci_3 ?_
        refine lv_iload hC.1 hC.2.1 dX12_voter_24 (lv_at hl 4 rfl) ?_
        refine mw_cSi (As := [.int 3, .int p4]) (rest := []) hC hM (mcX12_mayBe V l M 3 p4 _ rfl) (mw_kS hC q_1260 q_1261 q_120 q_1262 ⟨rfl, rfl⟩ kS_X12_mayBe ⟨Nat.le_of_ble_eq_true rfl, Nat.le_of_ble_eq_true rfl⟩) rfl rfl (Nat.le_of_ble_eq_true rfl) hl.1 dX12_voter_26 (fun H locs hM hb4 => ?_)
        refine lv_if_ne (tgt := 34) hC.1 hC.2.1 dX12_voter_29 (by decide) (fun hc25 => ?_) (fun hc25 => ?_)
        · have hf := o_f hc25 hf
          refine lv_aload_n hC.1 hC.2.1 dX12_voter_34 rfl (lv_at hl 0 rfl) ?_
          refine mw_get (v := .ref (mvA V 1)) hC hM 0 (Nat.le_of_ble_eq_true rfl) (eR_0 V) inW12 rfl 0 (by decide) q_1146 (fun _ h9 => h9) rfl dX12_voter_35 ?_
          refine lv_iconst hC.1 hC.2.1 dX12_voter_38 ci_0 ?_
          obtain ⟨hg5, hf⟩ := o_g hf
          refine mw_iald hC hM 1 0 (Nat.le_of_ble_eq_true rfl) (eR_1 V) rfl hg5 dX12_voter_39 ?_
          refine lv_bipush hC.1 hC.2.1 dX12_voter_40 cb_7 ?_
          refine lv_icmp_ne (tgt := 48) hC.1 hC.2.1 dX12_voter_42 (by decide) (fun hc24 => ?_) (fun hc24 => ?_)
          · have hf := o_f hc24 hf
            refine lv_aload_n hC.1 hC.2.1 dX12_voter_48 rfl (lv_at hl 0 rfl) ?_
            refine mw_get (v := .ref (mvA V 1)) hC hM 0 (Nat.le_of_ble_eq_true rfl) (eR_0 V) inW12 rfl 0 (by decide) q_1146 (fun _ h9 => h9) rfl dX12_voter_49 ?_
            refine lv_iconst hC.1 hC.2.1 dX12_voter_52 ci_0 ?_
            obtain ⟨hg6, hf⟩ := o_g hf
            refine mw_iald hC hM 1 0 (Nat.le_of_ble_eq_true rfl) (eR_1 V) rfl hg6 dX12_voter_53 ?_
            refine lv_istore (lv' := [(5, .int (M 1 (Int32.toNatClampNeg 0))), (0, .ref (mvA V 0)), (1, .int p1), (2, .int p2), (3, .int p3), (4, .int p4)]) hC.1 hC.2.1 dX12_voter_54 hl (Nat.le_of_ble_eq_true rfl) rfl (fun ls hl => ?_)
            refine lv_aload_n hC.1 hC.2.1 dX12_voter_56 rfl (lv_at hl 1 rfl) ?_
            refine mw_get (v := .ref (mvA V 1)) hC hM 0 (Nat.le_of_ble_eq_true rfl) (eR_0 V) inW12 rfl 0 (by decide) q_1146 (fun _ h9 => h9) rfl dX12_voter_57 ?_
            refine lv_iconst hC.1 hC.2.1 dX12_voter_60 ci_0 ?_
            refine lv_dup2_11 hC.1 hC.2.1 dX12_voter_61 rfl rfl ?_
            obtain ⟨hg7, hf⟩ := o_g hf
            refine mw_iald hC hM 1 0 (Nat.le_of_ble_eq_true rfl) (eR_1 V) rfl hg7 dX12_voter_62 ?_
            refine lv_iconst hC.1 hC.2.1 dX12_voter_63 ci_1 ?_
            refine lv_iadd hC.1 hC.2.1 dX12_voter_64 ?_
            obtain ⟨hg8, hf⟩ := o_g hf
            refine mw_iast hC hM 1 0 (Nat.le_of_ble_eq_true rfl) (eR_1 V) rfl hg8 dX12_voter_65 (fun H locs hM => ?_)
            refine lv_aload_n hC.1 hC.2.1 dX12_voter_66 rfl (lv_at hl 1 rfl) ?_
            refine lv_iload hC.1 hC.2.1 dX12_voter_67 (lv_at hl 0 rfl) ?_
            refine lv_iconst hC.1 hC.2.1 dX12_voter_69 ci_0 ?_
            refine lv_iload_n hC.1 hC.2.1 dX12_voter_70 rfl (lv_at hl 2 rfl) ?_
            obtain ⟨r9, M11, hq10, hf⟩ := o_b2 hf
            refine mw_cVv (As := [.int (M 1 (Int32.toNatClampNeg 0)), .int 0, .int p1]) (rest := []) hC hM (mcX12_sets V l (wr M 1 (Int32.toNatClampNeg 0) ((M 1 (Int32.toNatClampNeg 0)) + 1)) (M 1 (Int32.toNatClampNeg 0)) 0 p1 r9 M11 hq10) (mw_kV hC q_1269 q_1271 q_44 q_120 q_1272 ⟨rfl, rfl⟩ kV_X12_sets ⟨Nat.le_of_ble_eq_true rfl, Nat.le_of_ble_eq_true rfl⟩) (Nat.le_of_ble_eq_true rfl) (eR_0 V) rfl rfl rfl (Nat.le_of_ble_eq_true rfl) hl.1 dX12_voter_71 (fun H locs hM => ?_)
            refine lv_aload_n hC.1 hC.2.1 dX12_voter_74 rfl (lv_at hl 1 rfl) ?_
            refine lv_iload hC.1 hC.2.1 dX12_voter_75 (lv_at hl 0 rfl) ?_
            refine lv_iconst hC.1 hC.2.1 dX12_voter_77 ci_1 ?_
            refine lv_iload_n hC.1 hC.2.1 dX12_voter_78 rfl (lv_at hl 3 rfl) ?_
            obtain ⟨r12, M14, hq13, hf⟩ := o_b2 hf
            refine mw_cVv (As := [.int (M 1 (Int32.toNatClampNeg 0)), .int 1, .int p2]) (rest := []) hC hM (mcX12_sets V l M11 (M 1 (Int32.toNatClampNeg 0)) 1 p2 r12 M14 hq13) (mw_kV hC q_1269 q_1271 q_44 q_120 q_1272 ⟨rfl, rfl⟩ kV_X12_sets ⟨Nat.le_of_ble_eq_true rfl, Nat.le_of_ble_eq_true rfl⟩) (Nat.le_of_ble_eq_true rfl) (eR_0 V) rfl rfl rfl (Nat.le_of_ble_eq_true rfl) hl.1 dX12_voter_79 (fun H locs hM => ?_)
            refine lv_aload_n hC.1 hC.2.1 dX12_voter_82 rfl (lv_at hl 1 rfl) ?_
            refine lv_iload hC.1 hC.2.1 dX12_voter_83 (lv_at hl 0 rfl) ?_
            refine lv_iconst hC.1 hC.2.1 dX12_voter_85 ci_2 ?_
            refine lv_iload_n hC.1 hC.2.1 dX12_voter_86 rfl (lv_at hl 4 rfl) ?_
            obtain ⟨r15, M17, hq16, hf⟩ := o_b2 hf
            refine mw_cVv (As := [.int (M 1 (Int32.toNatClampNeg 0)), .int 2, .int p3]) (rest := []) hC hM (mcX12_sets V l M14 (M 1 (Int32.toNatClampNeg 0)) 2 p3 r15 M17 hq16) (mw_kV hC q_1269 q_1271 q_44 q_120 q_1272 ⟨rfl, rfl⟩ kV_X12_sets ⟨Nat.le_of_ble_eq_true rfl, Nat.le_of_ble_eq_true rfl⟩) (Nat.le_of_ble_eq_true rfl) (eR_0 V) rfl rfl rfl (Nat.le_of_ble_eq_true rfl) hl.1 dX12_voter_87 (fun H locs hM => ?_)
            refine lv_aload_n hC.1 hC.2.1 dX12_voter_90 rfl (lv_at hl 1 rfl) ?_
            refine lv_iload hC.1 hC.2.1 dX12_voter_91 (lv_at hl 0 rfl) ?_
            refine lv_iconst hC.1 hC.2.1 dX12_voter_93 ci_3 ?_
            refine lv_iload hC.1 hC.2.1 dX12_voter_94 (lv_at hl 5 rfl) ?_
            obtain ⟨r18, M20, hq19, hf⟩ := o_b2 hf
            refine mw_cVv (As := [.int (M 1 (Int32.toNatClampNeg 0)), .int 3, .int p4]) (rest := []) hC hM (mcX12_sets V l M17 (M 1 (Int32.toNatClampNeg 0)) 3 p4 r18 M20 hq19) (mw_kV hC q_1269 q_1271 q_44 q_120 q_1272 ⟨rfl, rfl⟩ kV_X12_sets ⟨Nat.le_of_ble_eq_true rfl, Nat.le_of_ble_eq_true rfl⟩) (Nat.le_of_ble_eq_true rfl) (eR_0 V) rfl rfl rfl (Nat.le_of_ble_eq_true rfl) hl.1 dX12_voter_96 (fun H locs hM => ?_)
            refine lv_aload_n hC.1 hC.2.1 dX12_voter_99 rfl (lv_at hl 1 rfl) ?_
            refine lv_iload hC.1 hC.2.1 dX12_voter_100 (lv_at hl 0 rfl) ?_
            refine lv_iconst hC.1 hC.2.1 dX12_voter_102 ci_4 ?_
            refine lv_iconst hC.1 hC.2.1 dX12_voter_103 ci_1 ?_
            obtain ⟨r21, M23, hq22, hf⟩ := o_b2 hf
            refine mw_cVv (As := [.int (M 1 (Int32.toNatClampNeg 0)), .int 4, .int 1]) (rest := []) hC hM (mcX12_sets V l M20 (M 1 (Int32.toNatClampNeg 0)) 4 1 r21 M23 hq22) (mw_kV hC q_1269 q_1271 q_44 q_120 q_1272 ⟨rfl, rfl⟩ kV_X12_sets ⟨Nat.le_of_ble_eq_true rfl, Nat.le_of_ble_eq_true rfl⟩) (Nat.le_of_ble_eq_true rfl) (eR_0 V) rfl rfl rfl (Nat.le_of_ble_eq_true rfl) hl.1 dX12_voter_104 (fun H locs hM => ?_)
            refine lv_iload hC.1 hC.2.1 dX12_voter_107 (lv_at hl 0 rfl) ?_
            exact hret (o_r1 hf) (o_r2 hf hM) dX12_voter_109
          · have hf := o_t hc24 hf
            refine lv_bipush hC.1 hC.2.1 dX12_voter_45 cb_m2 ?_
            exact hret (o_r1 hf) (o_r2 hf hM) dX12_voter_47
        · have hf := o_t hc25 hf
          refine lv_iconst hC.1 hC.2.1 dX12_voter_32 ci_m1 ?_
          exact hret (o_r1 hf) (o_r2 hf hM) dX12_voter_33
set_option maxHeartbeats 4000000 in
set_option maxRecDepth 100000 in
theorem mcX12_isVoter (V : mV) (l : Launch) (M : mM) (p1 : Int32) (r : Int32) (hf : fX12_isVoter M p1 = some r) : ZR V l yX12_isVoter cX12_isVoter 2 ({ frames := 1, cells := 0, slots := 0, locals := 25 } : Room) [.ref (mvA V 0), .int p1] M r M := by
  unfold fX12_isVoter at hf
  refine mw_enterZ RX12 rfl (by decide +kernel) (Nat.le_of_ble_eq_true rfl) (fun {p e s m args below meth c} ls A Q hC hret hM hl => ?_)
  have hl : lv_has ls 2 [(0, .ref (mvA V 0)), (1, .int p1)] := hl
  refine lv_iload_n hC.1 hC.2.1 dX12_isVoter_0 rfl (lv_at hl 1 rfl) ?_
  refine lv_i2l (v := (Int32.toInt64 p1)) hC.1 hC.2.1 dX12_isVoter_1 rfl ?_
  refine lv_lconst (v := 0) hC.1 hC.2.1 dX12_isVoter_2 rfl ?_
  refine lv_aload_n hC.1 hC.2.1 dX12_isVoter_3 rfl (lv_at hl 0 rfl) ?_
  refine mw_get (v := .ref (mvA V 1)) hC hM 0 (Nat.le_of_ble_eq_true rfl) (eR_0 V) inW12 rfl 0 (by decide) q_1146 (fun _ h9 => h9) rfl dX12_isVoter_4 ?_
  refine lv_iconst hC.1 hC.2.1 dX12_isVoter_7 ci_0 ?_
  obtain ⟨hg1, hf⟩ := o_g hf
  refine mw_iald hC hM 1 0 (Nat.le_of_ble_eq_true rfl) (eR_1 V) rfl hg1 dX12_isVoter_8 ?_
  refine lv_iconst hC.1 hC.2.1 dX12_isVoter_9 ci_1 ?_
  refine lv_isub hC.1 hC.2.1 dX12_isVoter_10 ?_
  refine lv_i2l (v := (Int32.toInt64 ((M 1 (Int32.toNatClampNeg 0)) - 1))) hC.1 hC.2.1 dX12_isVoter_11 rfl ?_
  refine mw_cSi (As := [.long (Int32.toInt64 p1), .long 0, .long (Int32.toInt64 ((M 1 (Int32.toNatClampNeg 0)) - 1))]) (rest := []) hC hM (mcX12_in V l M (Int32.toInt64 p1) 0 (Int32.toInt64 ((M 1 (Int32.toNatClampNeg 0)) - 1)) _ rfl) (mw_kS hC q_1257 q_1258 q_120 q_1259 ⟨rfl, rfl⟩ kS_X12_in ⟨Nat.le_of_ble_eq_true rfl, Nat.le_of_ble_eq_true rfl⟩) rfl rfl (Nat.le_of_ble_eq_true rfl) hl.1 dX12_isVoter_12 (fun H locs hM hb2 => ?_)
  exact hret (Option.some.inj hf) hb2 hM dX12_isVoter_15
set_option maxHeartbeats 4000000 in
set_option maxRecDepth 100000 in
theorem mcX12_its (V : mV) (l : Launch) (M : mM) (p1 : Int32) (p2 : Int32) (r : Int32) (hf : fX12_its M p1 p2 = some r) : IR V l yX12_its cX12_its 3 ({ frames := 0, cells := 0, slots := 0, locals := 0 } : Room) [.ref (mvA V 0), .int p1, .int p2] M r M := by
  unfold fX12_its at hf
  refine mw_enterI RX12 rfl (by decide +kernel) (Nat.le_of_ble_eq_true rfl) (fun {p e s m args below meth c} ls A Q hC hret hM hl => ?_)
  have hl : lv_has ls 3 [(0, .ref (mvA V 0)), (1, .int p1), (2, .int p2)] := hl
  refine lv_aload_n hC.1 hC.2.1 dX12_its_0 rfl (lv_at hl 0 rfl) ?_
  refine mw_get (v := .ref (mvA V 1)) hC hM 0 (Nat.le_of_ble_eq_true rfl) (eR_0 V) inW12 rfl 0 (by decide) q_1146 (fun _ h9 => h9) rfl dX12_its_1 ?_
  refine lv_bipush hC.1 hC.2.1 dX12_its_4 cb_8 ?_
  refine lv_iconst hC.1 hC.2.1 dX12_its_6 ci_5 ?_
  refine lv_iload_n hC.1 hC.2.1 dX12_its_7 rfl (lv_at hl 1 rfl) ?_
  refine lv_imul hC.1 hC.2.1 dX12_its_8 ?_
  refine lv_iadd hC.1 hC.2.1 dX12_its_9 ?_
  refine lv_iload_n hC.1 hC.2.1 dX12_its_10 rfl (lv_at hl 2 rfl) ?_
  refine lv_iadd hC.1 hC.2.1 dX12_its_11 ?_
  obtain ⟨hg1, hf⟩ := o_g hf
  refine mw_iald hC hM 1 0 (Nat.le_of_ble_eq_true rfl) (eR_1 V) rfl hg1 dX12_its_12 ?_
  exact hret (Option.some.inj hf) hM dX12_its_13
set_option maxHeartbeats 4000000 in
set_option maxRecDepth 100000 in
theorem mcX12_isUnder (V : mV) (l : Launch) (M : mM) (p0 : Int32) (p1 : Int32) (r : Int32) (hf : fX12_isUnder M p0 p1 = r) : ZR V l yX12_isUnder cX12_isUnder 2 ({ frames := 0, cells := 0, slots := 0, locals := 0 } : Room) [.int p0, .int p1] M r M := by
  unfold fX12_isUnder at hf
  refine mw_enterZ RX12 rfl (by decide +kernel) (Nat.le_of_ble_eq_true rfl) (fun {p e s m args below meth c} ls A Q hC hret hM hl => ?_)
  have hl : lv_has ls 2 [(0, .int p0), (1, .int p1)] := hl
  have hL19 : ∀ (x0 : Int32) (x1 : Int32) (H : Heap) (locs : List Loc) (ls : Array Slot), fX12_isUnder_L19 M x0 x1 = r → PR V M A s H locs → lv_has ls 2 [(0, .int x0), (1, .int x1)] → W p l e ({ frames := 0, cells := 0, slots := 0, locals := 0 } : Room) s m args below meth c H locs 0 0 Q (F0 m 19 ls []) := by
    intro x0 x1 H locs ls hf hM hl
    unfold fX12_isUnder_L19 at hf
    refine lv_iload_n hC.1 hC.2.1 dX12_isUnder_19 rfl (lv_at hl 0 rfl) ?_
    refine lv_iconst hC.1 hC.2.1 dX12_isUnder_20 ci_5 ?_
    refine lv_icmp_ne (tgt := 33) hC.1 hC.2.1 dX12_isUnder_21 (by decide) (fun hc6 => ?_) (fun hc6 => ?_)
    · have hf := o_f hc6 hf
      refine lv_iconst hC.1 hC.2.1 dX12_isUnder_33 ci_0 ?_
      exact hret hf (Or.inl rfl) hM dX12_isUnder_34
    · have hf := o_t hc6 hf
      refine lv_iload_n hC.1 hC.2.1 dX12_isUnder_24 rfl (lv_at hl 1 rfl) ?_
      refine lv_iconst hC.1 hC.2.1 dX12_isUnder_25 ci_4 ?_
      refine lv_icmp_ne (tgt := 33) hC.1 hC.2.1 dX12_isUnder_26 (by decide) (fun hc5 => ?_) (fun hc5 => ?_)
      · have hf := o_f hc5 hf
        refine lv_iconst hC.1 hC.2.1 dX12_isUnder_33 ci_0 ?_
        exact hret hf (Or.inl rfl) hM dX12_isUnder_34
      · have hf := o_t hc5 hf
        refine lv_iconst hC.1 hC.2.1 dX12_isUnder_29 ci_1 ?_
        refine lv_goto (tgt := 34) hC.1 hC.2.1 dX12_isUnder_30 (by decide) ?_
        exact hret hf (Or.inr rfl) hM dX12_isUnder_34
  refine lv_iload_n hC.1 hC.2.1 dX12_isUnder_0 rfl (lv_at hl 1 rfl) ?_
  refine lv_if_eq (tgt := 29) hC.1 hC.2.1 dX12_isUnder_1 (by decide) (fun hc4 => ?_) (fun hc4 => ?_)
  · have hf := o_t hc4 hf
    refine lv_iconst hC.1 hC.2.1 dX12_isUnder_29 ci_1 ?_
    refine lv_goto (tgt := 34) hC.1 hC.2.1 dX12_isUnder_30 (by decide) ?_
    exact hret hf (Or.inr rfl) hM dX12_isUnder_34
  · have hf := o_f hc4 hf
    refine lv_iload_n hC.1 hC.2.1 dX12_isUnder_4 rfl (lv_at hl 0 rfl) ?_
    refine lv_iload_n hC.1 hC.2.1 dX12_isUnder_5 rfl (lv_at hl 1 rfl) ?_
    refine lv_icmp_eq (tgt := 29) hC.1 hC.2.1 dX12_isUnder_6 (by decide) (fun hc3 => ?_) (fun hc3 => ?_)
    · have hf := o_t hc3 hf
      refine lv_iconst hC.1 hC.2.1 dX12_isUnder_29 ci_1 ?_
      refine lv_goto (tgt := 34) hC.1 hC.2.1 dX12_isUnder_30 (by decide) ?_
      exact hret hf (Or.inr rfl) hM dX12_isUnder_34
    · have hf := o_f hc3 hf
      refine lv_iload_n hC.1 hC.2.1 dX12_isUnder_9 rfl (lv_at hl 0 rfl) ?_
      refine lv_iconst hC.1 hC.2.1 dX12_isUnder_10 ci_3 ?_
      refine lv_icmp_ne (tgt := 19) hC.1 hC.2.1 dX12_isUnder_11 (by decide) (fun hc2 => ?_) (fun hc2 => ?_)
      · have hf := o_f hc2 hf
        exact hL19 _ _ _ _ _ hf hM (lv_sub hl [0, 1] rfl)
      · have hf := o_t hc2 hf
        refine lv_iload_n hC.1 hC.2.1 dX12_isUnder_14 rfl (lv_at hl 1 rfl) ?_
        refine lv_iconst hC.1 hC.2.1 dX12_isUnder_15 ci_2 ?_
        refine lv_icmp_eq (tgt := 29) hC.1 hC.2.1 dX12_isUnder_16 (by decide) (fun hc1 => ?_) (fun hc1 => ?_)
        · have hf := o_t hc1 hf
          refine lv_iconst hC.1 hC.2.1 dX12_isUnder_29 ci_1 ?_
          refine lv_goto (tgt := 34) hC.1 hC.2.1 dX12_isUnder_30 (by decide) ?_
          exact hret hf (Or.inr rfl) hM dX12_isUnder_34
        · have hf := o_f hc1 hf
          exact hL19 _ _ _ _ _ hf hM (lv_sub hl [0, 1] rfl)
set_option maxHeartbeats 4000000 in
set_option maxRecDepth 100000 in
theorem mcX12_isSo (V : mV) (l : Launch) (M : mM) (p0 : Int32) (p1 : Int32) (p2 : Int32) (r : Int32) (hf : fX12_isSo p0 p1 p2 = r) : ZR V l yX12_isSo cX12_isSo 3 ({ frames := 0, cells := 0, slots := 0, locals := 0 } : Room) [.int p0, .int p1, .int p2] M r M := by
  unfold fX12_isSo at hf
  refine mw_enterZ RX12 rfl (by decide +kernel) (Nat.le_of_ble_eq_true rfl) (fun {p e s m args below meth c} ls A Q hC hret hM hl => ?_)
  have hl : lv_has ls 3 [(0, .int p0), (1, .int p1), (2, .int p2)] := hl
  refine lv_iload_n hC.1 hC.2.1 dX12_isSo_0 rfl (lv_at hl 0 rfl) ?_
  by_cases hc2 : p0 = (-15)
  · have hf := o_t hc2 hf
    refine lv_tableIn (off := 68) (tgt := 69) hC.1 hC.2.1 dX12_isSo_1 (by rw [hc2]; decide) (by rw [hc2]; decide) (by rw [hc2]; rfl) (by decide) ?_
    refine lv_iload_n hC.1 hC.2.1 dX12_isSo_69 rfl (lv_at hl 1 rfl) ?_
    refine lv_iload_n hC.1 hC.2.1 dX12_isSo_70 rfl (lv_at hl 2 rfl) ?_
    refine lv_iadd hC.1 hC.2.1 dX12_isSo_71 ?_
    refine lv_iconst hC.1 hC.2.1 dX12_isSo_72 ci_2 ?_
    refine lv_icmp_ne (tgt := 80) hC.1 hC.2.1 dX12_isSo_73 (by decide) (fun hc1 => ?_) (fun hc1 => ?_)
    · have hf := o_f hc1 hf
      refine lv_iconst hC.1 hC.2.1 dX12_isSo_80 ci_0 ?_
      exact hret hf (Or.inl rfl) hM dX12_isSo_81
    · have hf := o_t hc1 hf
      refine lv_iconst hC.1 hC.2.1 dX12_isSo_76 ci_1 ?_
      refine lv_goto (tgt := 81) hC.1 hC.2.1 dX12_isSo_77 (by decide) ?_
      exact hret hf (Or.inr rfl) hM dX12_isSo_81
  have hf := o_f hc2 hf
  by_cases hc4 : p0 = (-14)
  · have hf := o_t hc4 hf
    refine lv_tableIn (off := 81) (tgt := 82) hC.1 hC.2.1 dX12_isSo_1 (by rw [hc4]; decide) (by rw [hc4]; decide) (by rw [hc4]; rfl) (by decide) ?_
    refine lv_iload_n hC.1 hC.2.1 dX12_isSo_82 rfl (lv_at hl 1 rfl) ?_
    refine lv_iload_n hC.1 hC.2.1 dX12_isSo_83 rfl (lv_at hl 2 rfl) ?_
    refine lv_iadd hC.1 hC.2.1 dX12_isSo_84 ?_
    refine lv_if_le (tgt := 92) hC.1 hC.2.1 dX12_isSo_85 (by decide) (fun hc3 => ?_) (fun hc3 => ?_)
    · have hf := o_t hc3 hf
      refine lv_iconst hC.1 hC.2.1 dX12_isSo_92 ci_0 ?_
      exact hret hf (Or.inl rfl) hM dX12_isSo_93
    · have hf := o_f hc3 hf
      refine lv_iconst hC.1 hC.2.1 dX12_isSo_88 ci_1 ?_
      refine lv_goto (tgt := 93) hC.1 hC.2.1 dX12_isSo_89 (by decide) ?_
      exact hret hf (Or.inr rfl) hM dX12_isSo_93
  have hf := o_f hc4 hf
  by_cases hc6 : p0 = (-13)
  · have hf := o_t hc6 hf
    refine lv_tableIn (off := 57) (tgt := 58) hC.1 hC.2.1 dX12_isSo_1 (by rw [hc6]; decide) (by rw [hc6]; decide) (by rw [hc6]; rfl) (by decide) ?_
    refine lv_iload_n hC.1 hC.2.1 dX12_isSo_58 rfl (lv_at hl 1 rfl) ?_
    refine lv_iload_n hC.1 hC.2.1 dX12_isSo_59 rfl (lv_at hl 2 rfl) ?_
    refine lv_icmp_le (tgt := 67) hC.1 hC.2.1 dX12_isSo_60 (by decide) (fun hc5 => ?_) (fun hc5 => ?_)
    · have hf := o_t hc5 hf
      refine lv_iconst hC.1 hC.2.1 dX12_isSo_67 ci_0 ?_
      exact hret hf (Or.inl rfl) hM dX12_isSo_68
    · have hf := o_f hc5 hf
      refine lv_iconst hC.1 hC.2.1 dX12_isSo_63 ci_1 ?_
      refine lv_goto (tgt := 68) hC.1 hC.2.1 dX12_isSo_64 (by decide) ?_
      exact hret hf (Or.inr rfl) hM dX12_isSo_68
  have hf := o_f hc6 hf
  by_cases hc8 : p0 = (-12)
  · have hf := o_t hc8 hf
    refine lv_tableIn (off := 46) (tgt := 47) hC.1 hC.2.1 dX12_isSo_1 (by rw [hc8]; decide) (by rw [hc8]; decide) (by rw [hc8]; rfl) (by decide) ?_
    refine lv_iload_n hC.1 hC.2.1 dX12_isSo_47 rfl (lv_at hl 1 rfl) ?_
    refine lv_iload_n hC.1 hC.2.1 dX12_isSo_48 rfl (lv_at hl 2 rfl) ?_
    refine lv_icmp_ne (tgt := 56) hC.1 hC.2.1 dX12_isSo_49 (by decide) (fun hc7 => ?_) (fun hc7 => ?_)
    · have hf := o_f hc7 hf
      refine lv_iconst hC.1 hC.2.1 dX12_isSo_56 ci_0 ?_
      exact hret hf (Or.inl rfl) hM dX12_isSo_57
    · have hf := o_t hc7 hf
      refine lv_iconst hC.1 hC.2.1 dX12_isSo_52 ci_1 ?_
      refine lv_goto (tgt := 57) hC.1 hC.2.1 dX12_isSo_53 (by decide) ?_
      exact hret hf (Or.inr rfl) hM dX12_isSo_57
  have hf := o_f hc8 hf
  by_cases hc10 : p0 = (-11)
  · have hf := o_t hc10 hf
    refine lv_tableIn (off := 35) (tgt := 36) hC.1 hC.2.1 dX12_isSo_1 (by rw [hc10]; decide) (by rw [hc10]; decide) (by rw [hc10]; rfl) (by decide) ?_
    refine lv_iload_n hC.1 hC.2.1 dX12_isSo_36 rfl (lv_at hl 1 rfl) ?_
    refine lv_iload_n hC.1 hC.2.1 dX12_isSo_37 rfl (lv_at hl 2 rfl) ?_
    refine lv_icmp_ge (tgt := 45) hC.1 hC.2.1 dX12_isSo_38 (by decide) (fun hc9 => ?_) (fun hc9 => ?_)
    · have hf := o_t hc9 hf
      refine lv_iconst hC.1 hC.2.1 dX12_isSo_45 ci_0 ?_
      exact hret hf (Or.inl rfl) hM dX12_isSo_46
    · have hf := o_f hc9 hf
      refine lv_iconst hC.1 hC.2.1 dX12_isSo_41 ci_1 ?_
      refine lv_goto (tgt := 46) hC.1 hC.2.1 dX12_isSo_42 (by decide) ?_
      exact hret hf (Or.inr rfl) hM dX12_isSo_46
  have hf := o_f hc10 hf
  have hc2 := sw_ne (k := -15) (v := (-15)) rfl hc2
  have hc4 := sw_ne (k := -14) (v := (-14)) rfl hc4
  have hc6 := sw_ne (k := -13) (v := (-13)) rfl hc6
  have hc8 := sw_ne (k := -12) (v := (-12)) rfl hc8
  have hc10 := sw_ne (k := -11) (v := (-11)) rfl hc10
  refine lv_tableOut (tgt := 82) hC.1 hC.2.1 dX12_isSo_1 (by omega) (by decide) ?_
  refine lv_iload_n hC.1 hC.2.1 dX12_isSo_82 rfl (lv_at hl 1 rfl) ?_
  refine lv_iload_n hC.1 hC.2.1 dX12_isSo_83 rfl (lv_at hl 2 rfl) ?_
  refine lv_iadd hC.1 hC.2.1 dX12_isSo_84 ?_
  refine lv_if_le (tgt := 92) hC.1 hC.2.1 dX12_isSo_85 (by decide) (fun hc11 => ?_) (fun hc11 => ?_)
  · have hf := o_t hc11 hf
    refine lv_iconst hC.1 hC.2.1 dX12_isSo_92 ci_0 ?_
    exact hret hf (Or.inl rfl) hM dX12_isSo_93
  · have hf := o_f hc11 hf
    refine lv_iconst hC.1 hC.2.1 dX12_isSo_88 ci_1 ?_
    refine lv_goto (tgt := 93) hC.1 hC.2.1 dX12_isSo_89 (by decide) ?_
    exact hret hf (Or.inr rfl) hM dX12_isSo_93
set_option maxHeartbeats 4000000 in
set_option maxRecDepth 100000 in
theorem mcX12_awake (V : mV) (l : Launch) (M : mM) (r : Int32) (hf : fX12_awake M = some r) : IR V l yX12_awake cX12_awake 3 ({ frames := 1, cells := 0, slots := 0, locals := 22 } : Room) [.ref (mvA V 0)] M r M := by
  unfold fX12_awake at hf
  refine mw_enterI RX12 rfl (by decide +kernel) (Nat.le_of_ble_eq_true rfl) (fun {p e s m args below meth c} ls A Q hC hret hM hl => ?_)
  have hl : lv_has ls 3 [(0, .ref (mvA V 0))] := hl
  have hL4 : ∀ (n : Nat) (x1 : Int32) (x2 : Int32) (H : Heap) (locs : List Loc) (ls : Array Slot), fX12_awake_L4 n M x1 x2 = some r → PR V M A s H locs → lv_has ls 3 [(0, .ref (mvA V 0)), (1, .int x1), (2, .int x2)] → W p l e ({ frames := 1, cells := 0, slots := 0, locals := 22 } : Room) s m args below meth c H locs 0 0 Q (F0 m 4 ls []) := by
    intro n4
    induction n4 with
    | zero => intro x1 x2 H locs ls hf; cases hf
    | succ n4 ih4 =>
      intro x1 x2 H locs ls hf hM hl
      have hf : fX12_awake_L4_b (fX12_awake_L4 n4) M x1 x2 = some r := hf
      unfold fX12_awake_L4_b at hf
      refine lv_iload_n hC.1 hC.2.1 dX12_awake_4 rfl (lv_at hl 2 rfl) ?_
      refine lv_aload_n hC.1 hC.2.1 dX12_awake_5 rfl (lv_at hl 0 rfl) ?_
      refine mw_get (v := .ref (mvA V 1)) hC hM 0 (Nat.le_of_ble_eq_true rfl) (eR_0 V) inW12 rfl 0 (by decide) q_1146 (fun _ h9 => h9) rfl dX12_awake_6 ?_
      refine lv_iconst hC.1 hC.2.1 dX12_awake_9 ci_0 ?_
      obtain ⟨hg1, hf⟩ := o_g hf
      refine mw_iald hC hM 1 0 (Nat.le_of_ble_eq_true rfl) (eR_1 V) rfl hg1 dX12_awake_10 ?_
      refine lv_icmp_ge (tgt := 29) hC.1 hC.2.1 dX12_awake_11 (by decide) (fun hc4 => ?_) (fun hc4 => ?_)
      · have hf := o_t hc4 hf
        refine lv_iload_n hC.1 hC.2.1 dX12_awake_29 rfl (lv_at hl 1 rfl) ?_
        exact hret (Option.some.inj hf) hM dX12_awake_30
      · have hf := o_f hc4 hf
        refine lv_iload_n hC.1 hC.2.1 dX12_awake_14 rfl (lv_at hl 1 rfl) ?_
        refine lv_aload_n hC.1 hC.2.1 dX12_awake_15 rfl (lv_at hl 0 rfl) ?_
        refine lv_iload_n hC.1 hC.2.1 dX12_awake_16 rfl (lv_at hl 2 rfl) ?_
        refine lv_iconst hC.1 hC.2.1 dX12_awake_17 ci_4 ?_
        obtain ⟨r2, hq3, hf⟩ := o_b hf
        refine mw_cVi (As := [.int x2, .int 4]) (rest := [.int x1]) hC hM (mcX12_its V l M x2 4 r2 hq3) (mw_kV hC q_1282 q_1284 q_46 q_120 q_1285 ⟨rfl, rfl⟩ kV_X12_its ⟨Nat.le_of_ble_eq_true rfl, Nat.le_of_ble_eq_true rfl⟩) (Nat.le_of_ble_eq_true rfl) (eR_0 V) rfl rfl rfl (Nat.le_of_ble_eq_true rfl) hl.1 dX12_awake_18 (fun H locs hM _ => ?_)
        refine lv_iadd hC.1 hC.2.1 dX12_awake_21 ?_
        refine lv_istore_n (lv' := [(1, .int (x1 + r2)), (0, .ref (mvA V 0)), (2, .int x2)]) hC.1 hC.2.1 dX12_awake_22 rfl hl (Nat.le_of_ble_eq_true rfl) rfl (fun ls hl => ?_)
        refine lv_iinc (k := 2) (lv' := [(2, .int (x2 + 1)), (1, .int (x1 + r2)), (0, .ref (mvA V 0))]) hC.1 hC.2.1 dX12_awake_23 hl rfl (inc_1 _) (Nat.le_of_ble_eq_true rfl) rfl (fun ls hl => ?_)
        refine lv_goto (tgt := 4) hC.1 hC.2.1 dX12_awake_26 (by decide) ?_
        exact ih4 _ _ _ _ _ hf hM (lv_sub hl [2, 1, 0] rfl)
  refine lv_iconst hC.1 hC.2.1 dX12_awake_0 ci_0 ?_
  refine lv_istore_n (lv' := [(1, .int 0), (0, .ref (mvA V 0))]) hC.1 hC.2.1 dX12_awake_1 rfl hl (Nat.le_of_ble_eq_true rfl) rfl (fun ls hl => ?_)
  refine lv_iconst hC.1 hC.2.1 dX12_awake_2 ci_0 ?_
  refine lv_istore_n (lv' := [(2, .int 0), (1, .int 0), (0, .ref (mvA V 0))]) hC.1 hC.2.1 dX12_awake_3 rfl hl (Nat.le_of_ble_eq_true rfl) rfl (fun ls hl => ?_)
  exact hL4 _ _ _ _ _ _ hf hM (lv_sub hl [2, 1, 0] rfl)
set_option maxHeartbeats 4000000 in
set_option maxRecDepth 100000 in
theorem mcX12_fact (V : mV) (l : Launch) (M : mM) (p1 : Int32) (p2 : Int32) (r : Int32) (hf : fX12_fact M p1 p2 = some r) : IR V l yX12_fact cX12_fact 3 ({ frames := 2, cells := 0, slots := 0, locals := 44 } : Room) [.ref (mvA V 0), .int p1, .int p2] M r M := by
  unfold fX12_fact at hf
  refine mw_enterI RX12 rfl (by decide +kernel) (Nat.le_of_ble_eq_true rfl) (fun {p e s m args below meth c} ls A Q hC hret hM hl => ?_)
  have hl : lv_has ls 3 [(0, .ref (mvA V 0)), (1, .int p1), (2, .int p2)] := hl
  refine lv_iload_n hC.1 hC.2.1 dX12_fact_0 rfl (lv_at hl 1 rfl) ?_
  by_cases hc2 : p1 = 0
  · have hf := o_t hc2 hf
    refine lv_tableIn (off := 31) (tgt := 32) hC.1 hC.2.1 dX12_fact_1 (by rw [hc2]; decide) (by rw [hc2]; decide) (by rw [hc2]; rfl) (by decide) ?_
    refine lv_aload_n hC.1 hC.2.1 dX12_fact_32 rfl (lv_at hl 0 rfl) ?_
    refine mw_get (v := .ref (mvA V 1)) hC hM 0 (Nat.le_of_ble_eq_true rfl) (eR_0 V) inW12 rfl 0 (by decide) q_1146 (fun _ h9 => h9) rfl dX12_fact_33 ?_
    refine lv_iconst hC.1 hC.2.1 dX12_fact_36 ci_1 ?_
    obtain ⟨hg1, hf⟩ := o_g hf
    refine mw_iald hC hM 1 0 (Nat.le_of_ble_eq_true rfl) (eR_1 V) rfl hg1 dX12_fact_37 ?_
    exact hret (Option.some.inj hf) hM dX12_fact_38
  have hf := o_f hc2 hf
  by_cases hc5 : p1 = 1
  · have hf := o_t hc5 hf
    refine lv_tableIn (off := 38) (tgt := 39) hC.1 hC.2.1 dX12_fact_1 (by rw [hc5]; decide) (by rw [hc5]; decide) (by rw [hc5]; rfl) (by decide) ?_
    refine lv_aload_n hC.1 hC.2.1 dX12_fact_39 rfl (lv_at hl 0 rfl) ?_
    refine lv_iload_n hC.1 hC.2.1 dX12_fact_40 rfl (lv_at hl 2 rfl) ?_
    refine lv_iconst hC.1 hC.2.1 dX12_fact_41 ci_1 ?_
    obtain ⟨r3, hq4, hf⟩ := o_b hf
    refine mw_cVi (As := [.int p2, .int 1]) (rest := []) hC hM (mcX12_its V l M p2 1 r3 hq4) (mw_kV hC q_1282 q_1284 q_46 q_120 q_1285 ⟨rfl, rfl⟩ kV_X12_its ⟨Nat.le_of_ble_eq_true rfl, Nat.le_of_ble_eq_true rfl⟩) (Nat.le_of_ble_eq_true rfl) (eR_0 V) rfl rfl rfl (Nat.le_of_ble_eq_true rfl) hl.1 dX12_fact_42 (fun H locs hM _ => ?_)
    exact hret (Option.some.inj hf) hM dX12_fact_45
  have hf := o_f hc5 hf
  by_cases hc8 : p1 = 2
  · have hf := o_t hc8 hf
    refine lv_tableIn (off := 45) (tgt := 46) hC.1 hC.2.1 dX12_fact_1 (by rw [hc8]; decide) (by rw [hc8]; decide) (by rw [hc8]; rfl) (by decide) ?_
    refine lv_aload_n hC.1 hC.2.1 dX12_fact_46 rfl (lv_at hl 0 rfl) ?_
    refine lv_iload_n hC.1 hC.2.1 dX12_fact_47 rfl (lv_at hl 2 rfl) ?_
    refine lv_iconst hC.1 hC.2.1 dX12_fact_48 ci_2 ?_
    obtain ⟨r6, hq7, hf⟩ := o_b hf
    refine mw_cVi (As := [.int p2, .int 2]) (rest := []) hC hM (mcX12_its V l M p2 2 r6 hq7) (mw_kV hC q_1282 q_1284 q_46 q_120 q_1285 ⟨rfl, rfl⟩ kV_X12_its ⟨Nat.le_of_ble_eq_true rfl, Nat.le_of_ble_eq_true rfl⟩) (Nat.le_of_ble_eq_true rfl) (eR_0 V) rfl rfl rfl (Nat.le_of_ble_eq_true rfl) hl.1 dX12_fact_49 (fun H locs hM _ => ?_)
    exact hret (Option.some.inj hf) hM dX12_fact_52
  have hf := o_f hc8 hf
  by_cases hc11 : p1 = 3
  · have hf := o_t hc11 hf
    refine lv_tableIn (off := 52) (tgt := 53) hC.1 hC.2.1 dX12_fact_1 (by rw [hc11]; decide) (by rw [hc11]; decide) (by rw [hc11]; rfl) (by decide) ?_
    refine lv_aload_n hC.1 hC.2.1 dX12_fact_53 rfl (lv_at hl 0 rfl) ?_
    obtain ⟨r9, hq10, hf⟩ := o_b hf
    refine mw_cVi (As := []) (rest := []) hC hM (mcX12_awake V l M r9 hq10) (mw_kV hC q_1312 q_1314 q_52 q_120 q_1315 ⟨rfl, rfl⟩ kV_X12_awake ⟨Nat.le_of_ble_eq_true rfl, Nat.le_of_ble_eq_true rfl⟩) (Nat.le_of_ble_eq_true rfl) (eR_0 V) rfl rfl rfl (Nat.le_of_ble_eq_true rfl) hl.1 dX12_fact_54 (fun H locs hM _ => ?_)
    exact hret (Option.some.inj hf) hM dX12_fact_57
  have hf := o_f hc11 hf
  have hc2 := sw_ne (k := 0) (v := 0) rfl hc2
  have hc5 := sw_ne (k := 1) (v := 1) rfl hc5
  have hc8 := sw_ne (k := 2) (v := 2) rfl hc8
  have hc11 := sw_ne (k := 3) (v := 3) rfl hc11
  refine lv_tableOut (tgt := 58) hC.1 hC.2.1 dX12_fact_1 (by omega) (by decide) ?_
  refine lv_iload_n hC.1 hC.2.1 dX12_fact_58 rfl (lv_at hl 2 rfl) ?_
  exact hret (Option.some.inj hf) hM dX12_fact_59
set_option maxHeartbeats 4000000 in
set_option maxRecDepth 100000 in
theorem mcX12_holds (V : mV) (l : Launch) (M : mM) (p1 : Int32) (p2 : Int32) (p3 : Int32) (r : Int32) (M' : mM) (hf : fX12_holds M p1 p2 p3 = some (r, M')) : ZR V l yX12_holds cX12_holds 7 ({ frames := 3, cells := 0, slots := 0, locals := 66 } : Room) [.ref (mvA V 0), .int p1, .int p2, .int p3] M r M' := by
  unfold fX12_holds at hf
  refine mw_enterZ RX12 rfl (by decide +kernel) (Nat.le_of_ble_eq_true rfl) (fun {p e s m args below meth c} ls A Q hC hret hM hl => ?_)
  have hl : lv_has ls 7 [(0, .ref (mvA V 0)), (1, .int p1), (2, .int p2), (3, .int p3)] := hl
  have hL6 : ∀ (n : Nat) (M : mM) (x2 : Int32) (x3 : Int32) (x4 : Int32) (x5 : Int32) (H : Heap) (locs : List Loc) (ls : Array Slot), fX12_holds_L6 n M x2 x3 x4 x5 = some (r, M') → PR V M A s H locs → lv_has ls 7 [(0, .ref (mvA V 0)), (2, .int x2), (3, .int x3), (4, .int x4), (5, .int x5)] → W p l e ({ frames := 3, cells := 0, slots := 0, locals := 66 } : Room) s m args below meth c H locs 0 0 Q (F0 m 6 ls []) := by
    intro n4
    induction n4 with
    | zero => intro M x2 x3 x4 x5 H locs ls hf; cases hf
    | succ n4 ih4 =>
      intro M x2 x3 x4 x5 H locs ls hf hM hl
      have hf : fX12_holds_L6_b (fX12_holds_L6 n4) M x2 x3 x4 x5 = some (r, M') := hf
      unfold fX12_holds_L6_b at hf
      refine lv_iload hC.1 hC.2.1 dX12_holds_6 (lv_at hl 4 rfl) ?_
      refine lv_iload_n hC.1 hC.2.1 dX12_holds_8 rfl (lv_at hl 1 rfl) ?_
      refine lv_icmp_ge (tgt := 140) hC.1 hC.2.1 dX12_holds_9 (by decide) (fun hc20 => ?_) (fun hc20 => ?_)
      · have hf := o_t hc20 hf
        refine lv_iload hC.1 hC.2.1 dX12_holds_140 (lv_at hl 3 rfl) ?_
        refine lv_if_eq (tgt := 155) hC.1 hC.2.1 dX12_holds_142 (by decide) (fun hc3 => ?_) (fun hc3 => ?_)
        · have hf := o_t hc3 hf
          refine lv_iconst hC.1 hC.2.1 dX12_holds_155 ci_1 ?_
          refine lv_goto (tgt := 160) hC.1 hC.2.1 dX12_holds_156 (by decide) ?_
          exact hret (o_r1 hf) (Or.inr rfl) (o_r2 hf hM) dX12_holds_160
        · have hf := o_f hc3 hf
          refine lv_aload_n hC.1 hC.2.1 dX12_holds_145 rfl (lv_at hl 0 rfl) ?_
          refine mw_get (v := .ref (mvA V 3)) hC hM 0 (Nat.le_of_ble_eq_true rfl) (eR_0 V) inW12 rfl 3 (by decide) q_1149 (fun _ h9 => h9) rfl dX12_holds_146 ?_
          refine lv_iconst hC.1 hC.2.1 dX12_holds_149 ci_0 ?_
          obtain ⟨hg1, hf⟩ := o_g hf
          refine mw_iald hC hM 3 0 (Nat.le_of_ble_eq_true rfl) (eR_3 V) rfl hg1 dX12_holds_150 ?_
          refine lv_iconst hC.1 hC.2.1 dX12_holds_151 ci_1 ?_
          refine lv_icmp_ne (tgt := 159) hC.1 hC.2.1 dX12_holds_152 (by decide) (fun hc2 => ?_) (fun hc2 => ?_)
          · have hf := o_f hc2 hf
            refine lv_iconst hC.1 hC.2.1 dX12_holds_159 ci_0 ?_
            exact hret (o_r1 hf) (Or.inl rfl) (o_r2 hf hM) dX12_holds_160
          · have hf := o_t hc2 hf
            refine lv_iconst hC.1 hC.2.1 dX12_holds_155 ci_1 ?_
            refine lv_goto (tgt := 160) hC.1 hC.2.1 dX12_holds_156 (by decide) ?_
            exact hret (o_r1 hf) (Or.inr rfl) (o_r2 hf hM) dX12_holds_160
      · have hf := o_f hc20 hf
        refine lv_aload_n hC.1 hC.2.1 dX12_holds_12 rfl (lv_at hl 0 rfl) ?_
        refine mw_get (v := .ref (mvA V 1)) hC hM 0 (Nat.le_of_ble_eq_true rfl) (eR_0 V) inW12 rfl 0 (by decide) q_1146 (fun _ h9 => h9) rfl dX12_holds_13 ?_
        refine lv_bipush hC.1 hC.2.1 dX12_holds_16 cb_95 ?_
        refine lv_iload hC.1 hC.2.1 dX12_holds_18 (lv_at hl 4 rfl) ?_
        refine lv_iadd hC.1 hC.2.1 dX12_holds_20 ?_
        obtain ⟨hg4, hf⟩ := o_g hf
        refine mw_iald hC hM 1 0 (Nat.le_of_ble_eq_true rfl) (eR_1 V) rfl hg4 dX12_holds_21 ?_
        refine lv_istore (lv' := [(6, .int (M 1 (Int32.toNatClampNeg (95 + x5)))), (0, .ref (mvA V 0)), (2, .int x2), (3, .int x3), (4, .int x4), (5, .int x5)]) hC.1 hC.2.1 dX12_holds_22 hl (Nat.le_of_ble_eq_true rfl) rfl (fun ls hl => ?_)
        refine lv_iload hC.1 hC.2.1 dX12_holds_24 (lv_at hl 0 rfl) ?_
        refine lv_bipush hC.1 hC.2.1 dX12_holds_26 cb_m11 ?_
        refine lv_icmp_le (tgt := 63) hC.1 hC.2.1 dX12_holds_28 (by decide) (fun hc19 => ?_) (fun hc19 => ?_)
        · have hf := o_t hc19 hf
          refine lv_iload hC.1 hC.2.1 dX12_holds_63 (lv_at hl 0 rfl) ?_
          refine lv_bipush hC.1 hC.2.1 dX12_holds_65 cb_m14 ?_
          refine lv_icmp_ne (tgt := 93) hC.1 hC.2.1 dX12_holds_67 (by decide) (fun hc13 => ?_) (fun hc13 => ?_)
          · have hf := o_f hc13 hf
            refine lv_iinc (k := 4) (lv' := [(4, .int (x4 + (-1))), (6, .int (M 1 (Int32.toNatClampNeg (95 + x5)))), (0, .ref (mvA V 0)), (2, .int x2), (3, .int x3), (5, .int x5)]) hC.1 hC.2.1 dX12_holds_93 hl rfl (inc_m1 _) (Nat.le_of_ble_eq_true rfl) rfl (fun ls hl => ?_)
            refine lv_aload_n hC.1 hC.2.1 dX12_holds_96 rfl (lv_at hl 2 rfl) ?_
            refine mw_get (v := .ref (mvA V 3)) hC hM 0 (Nat.le_of_ble_eq_true rfl) (eR_0 V) inW12 rfl 3 (by decide) q_1149 (fun _ h9 => h9) rfl dX12_holds_97 ?_
            refine lv_iload hC.1 hC.2.1 dX12_holds_100 (lv_at hl 0 rfl) ?_
            refine lv_iconst hC.1 hC.2.1 dX12_holds_102 ci_1 ?_
            refine lv_isub hC.1 hC.2.1 dX12_holds_103 ?_
            refine lv_iload hC.1 hC.2.1 dX12_holds_104 (lv_at hl 1 rfl) ?_
            refine lv_aload_n hC.1 hC.2.1 dX12_holds_106 rfl (lv_at hl 2 rfl) ?_
            refine mw_get (v := .ref (mvA V 3)) hC hM 0 (Nat.le_of_ble_eq_true rfl) (eR_0 V) inW12 rfl 3 (by decide) q_1149 (fun _ h9 => h9) rfl dX12_holds_107 ?_
            refine lv_iload hC.1 hC.2.1 dX12_holds_110 (lv_at hl 0 rfl) ?_
            refine lv_iconst hC.1 hC.2.1 dX12_holds_112 ci_1 ?_
            refine lv_isub hC.1 hC.2.1 dX12_holds_113 ?_
            obtain ⟨hg5, hf⟩ := o_g hf
            refine mw_iald hC hM 3 0 (Nat.le_of_ble_eq_true rfl) (eR_3 V) rfl hg5 dX12_holds_114 ?_
            refine lv_aload_n hC.1 hC.2.1 dX12_holds_115 rfl (lv_at hl 2 rfl) ?_
            refine mw_get (v := .ref (mvA V 3)) hC hM 0 (Nat.le_of_ble_eq_true rfl) (eR_0 V) inW12 rfl 3 (by decide) q_1149 (fun _ h9 => h9) rfl dX12_holds_116 ?_
            refine lv_iload hC.1 hC.2.1 dX12_holds_119 (lv_at hl 0 rfl) ?_
            obtain ⟨hg6, hf⟩ := o_g hf
            refine mw_iald hC hM 3 0 (Nat.le_of_ble_eq_true rfl) (eR_3 V) rfl hg6 dX12_holds_121 ?_
            refine mw_cSi (As := [.int (M 1 (Int32.toNatClampNeg (95 + x5))), .int (M 3 (Int32.toNatClampNeg ((x4 + (-1)) - 1))), .int (M 3 (Int32.toNatClampNeg (x4 + (-1))))]) (rest := [.int ((x4 + (-1)) - 1), .ref (mvA V 3)]) hC hM (mcX12_isSo V l M (M 1 (Int32.toNatClampNeg (95 + x5))) (M 3 (Int32.toNatClampNeg ((x4 + (-1)) - 1))) (M 3 (Int32.toNatClampNeg (x4 + (-1)))) _ rfl) (mw_kS hC q_1316 q_1317 q_120 q_1318 ⟨rfl, rfl⟩ kS_X12_isSo ⟨Nat.le_of_ble_eq_true rfl, Nat.le_of_ble_eq_true rfl⟩) rfl rfl (Nat.le_of_ble_eq_true rfl) hl.1 dX12_holds_122 (fun H locs hM hb7 => ?_)
            refine lv_if_eq (tgt := 132) hC.1 hC.2.1 dX12_holds_125 (by decide) (fun hc10 => ?_) (fun hc10 => ?_)
            · have hf := o_t hc10 hf
              refine lv_iconst hC.1 hC.2.1 dX12_holds_132 ci_0 ?_
              obtain ⟨hg8, hf⟩ := o_g hf
              refine mw_iast hC hM 3 0 (Nat.le_of_ble_eq_true rfl) (eR_3 V) rfl hg8 dX12_holds_133 (fun H locs hM => ?_)
              refine lv_iinc (k := 5) (lv' := [(5, .int (x5 + 1)), (4, .int (x4 + (-1))), (6, .int (M 1 (Int32.toNatClampNeg (95 + x5)))), (0, .ref (mvA V 0)), (2, .int x2), (3, .int x3)]) hC.1 hC.2.1 dX12_holds_134 hl rfl (inc_1 _) (Nat.le_of_ble_eq_true rfl) rfl (fun ls hl => ?_)
              refine lv_goto (tgt := 6) hC.1 hC.2.1 dX12_holds_137 (by decide) ?_
              exact ih4 _ _ _ _ _ _ _ _ hf hM (lv_sub hl [3, 4, 5, 1, 0] rfl)
            · have hf := o_f hc10 hf
              refine lv_iconst hC.1 hC.2.1 dX12_holds_128 ci_1 ?_
              refine lv_goto (tgt := 133) hC.1 hC.2.1 dX12_holds_129 (by decide) ?_
              obtain ⟨hg9, hf⟩ := o_g hf
              refine mw_iast hC hM 3 0 (Nat.le_of_ble_eq_true rfl) (eR_3 V) rfl hg9 dX12_holds_133 (fun H locs hM => ?_)
              refine lv_iinc (k := 5) (lv' := [(5, .int (x5 + 1)), (4, .int (x4 + (-1))), (6, .int (M 1 (Int32.toNatClampNeg (95 + x5)))), (0, .ref (mvA V 0)), (2, .int x2), (3, .int x3)]) hC.1 hC.2.1 dX12_holds_134 hl rfl (inc_1 _) (Nat.le_of_ble_eq_true rfl) rfl (fun ls hl => ?_)
              refine lv_goto (tgt := 6) hC.1 hC.2.1 dX12_holds_137 (by decide) ?_
              exact ih4 _ _ _ _ _ _ _ _ hf hM (lv_sub hl [3, 4, 5, 1, 0] rfl)
          · have hf := o_t hc13 hf
            refine lv_aload_n hC.1 hC.2.1 dX12_holds_70 rfl (lv_at hl 1 rfl) ?_
            refine mw_get (v := .ref (mvA V 3)) hC hM 0 (Nat.le_of_ble_eq_true rfl) (eR_0 V) inW12 rfl 3 (by decide) q_1149 (fun _ h9 => h9) rfl dX12_holds_71 ?_
            refine lv_iload hC.1 hC.2.1 dX12_holds_74 (lv_at hl 4 rfl) ?_
            refine lv_iconst hC.1 hC.2.1 dX12_holds_76 ci_1 ?_
            refine lv_isub hC.1 hC.2.1 dX12_holds_77 ?_
            refine lv_iconst hC.1 hC.2.1 dX12_holds_78 ci_1 ?_
            refine lv_aload_n hC.1 hC.2.1 dX12_holds_79 rfl (lv_at hl 1 rfl) ?_
            refine mw_get (v := .ref (mvA V 3)) hC hM 0 (Nat.le_of_ble_eq_true rfl) (eR_0 V) inW12 rfl 3 (by decide) q_1149 (fun _ h9 => h9) rfl dX12_holds_80 ?_
            refine lv_iload hC.1 hC.2.1 dX12_holds_83 (lv_at hl 4 rfl) ?_
            refine lv_iconst hC.1 hC.2.1 dX12_holds_85 ci_1 ?_
            refine lv_isub hC.1 hC.2.1 dX12_holds_86 ?_
            obtain ⟨hg11, hf⟩ := o_g hf
            refine mw_iald hC hM 3 0 (Nat.le_of_ble_eq_true rfl) (eR_3 V) rfl hg11 dX12_holds_87 ?_
            refine lv_isub hC.1 hC.2.1 dX12_holds_88 ?_
            obtain ⟨hg12, hf⟩ := o_g hf
            refine mw_iast hC hM 3 0 (Nat.le_of_ble_eq_true rfl) (eR_3 V) rfl hg12 dX12_holds_89 (fun H locs hM => ?_)
            refine lv_goto (tgt := 134) hC.1 hC.2.1 dX12_holds_90 (by decide) ?_
            refine lv_iinc (k := 5) (lv' := [(5, .int (x5 + 1)), (6, .int (M 1 (Int32.toNatClampNeg (95 + x5)))), (0, .ref (mvA V 0)), (2, .int x2), (3, .int x3), (4, .int x4)]) hC.1 hC.2.1 dX12_holds_134 hl rfl (inc_1 _) (Nat.le_of_ble_eq_true rfl) rfl (fun ls hl => ?_)
            refine lv_goto (tgt := 6) hC.1 hC.2.1 dX12_holds_137 (by decide) ?_
            exact ih4 _ _ _ _ _ _ _ _ hf hM (lv_sub hl [2, 3, 4, 5, 0] rfl)
        · have hf := o_f hc19 hf
          refine lv_aload_n hC.1 hC.2.1 dX12_holds_31 rfl (lv_at hl 1 rfl) ?_
          refine mw_get (v := .ref (mvA V 3)) hC hM 0 (Nat.le_of_ble_eq_true rfl) (eR_0 V) inW12 rfl 3 (by decide) q_1149 (fun _ h9 => h9) rfl dX12_holds_32 ?_
          refine lv_iload hC.1 hC.2.1 dX12_holds_35 (lv_at hl 4 rfl) ?_
          refine lv_iload hC.1 hC.2.1 dX12_holds_37 (lv_at hl 0 rfl) ?_
          refine lv_if_lt (tgt := 47) hC.1 hC.2.1 dX12_holds_39 (by decide) (fun hc18 => ?_) (fun hc18 => ?_)
          · have hf := o_t hc18 hf
            refine lv_aload_n hC.1 hC.2.1 dX12_holds_47 rfl (lv_at hl 1 rfl) ?_
            refine lv_iconst hC.1 hC.2.1 dX12_holds_48 ci_m1 ?_
            refine lv_iload hC.1 hC.2.1 dX12_holds_49 (lv_at hl 0 rfl) ?_
            refine lv_isub hC.1 hC.2.1 dX12_holds_51 ?_
            refine lv_iload_n hC.1 hC.2.1 dX12_holds_52 rfl (lv_at hl 3 rfl) ?_
            obtain ⟨r14, hq15, hf⟩ := o_b hf
            refine mw_cVi (As := [.int ((-1) - (M 1 (Int32.toNatClampNeg (95 + x5)))), .int x3]) (rest := [.int x4, .ref (mvA V 3)]) hC hM (mcX12_fact V l M ((-1) - (M 1 (Int32.toNatClampNeg (95 + x5)))) x3 r14 hq15) (mw_kV hC q_1308 q_1310 q_51 q_120 q_1311 ⟨rfl, rfl⟩ kV_X12_fact ⟨Nat.le_of_ble_eq_true rfl, Nat.le_of_ble_eq_true rfl⟩) (Nat.le_of_ble_eq_true rfl) (eR_0 V) rfl rfl rfl (Nat.le_of_ble_eq_true rfl) hl.1 dX12_holds_53 (fun H locs hM _ => ?_)
            obtain ⟨hg16, hf⟩ := o_g hf
            refine mw_iast hC hM 3 0 (Nat.le_of_ble_eq_true rfl) (eR_3 V) rfl hg16 dX12_holds_56 (fun H locs hM => ?_)
            refine lv_iinc (k := 4) (lv' := [(4, .int (x4 + 1)), (6, .int (M 1 (Int32.toNatClampNeg (95 + x5)))), (0, .ref (mvA V 0)), (2, .int x2), (3, .int x3), (5, .int x5)]) hC.1 hC.2.1 dX12_holds_57 hl rfl (inc_1 _) (Nat.le_of_ble_eq_true rfl) rfl (fun ls hl => ?_)
            refine lv_goto (tgt := 134) hC.1 hC.2.1 dX12_holds_60 (by decide) ?_
            refine lv_iinc (k := 5) (lv' := [(5, .int (x5 + 1)), (4, .int (x4 + 1)), (6, .int (M 1 (Int32.toNatClampNeg (95 + x5)))), (0, .ref (mvA V 0)), (2, .int x2), (3, .int x3)]) hC.1 hC.2.1 dX12_holds_134 hl rfl (inc_1 _) (Nat.le_of_ble_eq_true rfl) rfl (fun ls hl => ?_)
            refine lv_goto (tgt := 6) hC.1 hC.2.1 dX12_holds_137 (by decide) ?_
            exact ih4 _ _ _ _ _ _ _ _ hf hM (lv_sub hl [3, 4, 5, 1, 0] rfl)
          · have hf := o_f hc18 hf
            refine lv_iload hC.1 hC.2.1 dX12_holds_42 (lv_at hl 0 rfl) ?_
            refine lv_goto (tgt := 56) hC.1 hC.2.1 dX12_holds_44 (by decide) ?_
            obtain ⟨hg17, hf⟩ := o_g hf
            refine mw_iast hC hM 3 0 (Nat.le_of_ble_eq_true rfl) (eR_3 V) rfl hg17 dX12_holds_56 (fun H locs hM => ?_)
            refine lv_iinc (k := 4) (lv' := [(4, .int (x4 + 1)), (6, .int (M 1 (Int32.toNatClampNeg (95 + x5)))), (0, .ref (mvA V 0)), (2, .int x2), (3, .int x3), (5, .int x5)]) hC.1 hC.2.1 dX12_holds_57 hl rfl (inc_1 _) (Nat.le_of_ble_eq_true rfl) rfl (fun ls hl => ?_)
            refine lv_goto (tgt := 134) hC.1 hC.2.1 dX12_holds_60 (by decide) ?_
            refine lv_iinc (k := 5) (lv' := [(5, .int (x5 + 1)), (4, .int (x4 + 1)), (6, .int (M 1 (Int32.toNatClampNeg (95 + x5)))), (0, .ref (mvA V 0)), (2, .int x2), (3, .int x3)]) hC.1 hC.2.1 dX12_holds_134 hl rfl (inc_1 _) (Nat.le_of_ble_eq_true rfl) rfl (fun ls hl => ?_)
            refine lv_goto (tgt := 6) hC.1 hC.2.1 dX12_holds_137 (by decide) ?_
            exact ih4 _ _ _ _ _ _ _ _ hf hM (lv_sub hl [3, 4, 5, 1, 0] rfl)
  refine lv_iconst hC.1 hC.2.1 dX12_holds_0 ci_0 ?_
  refine lv_istore (lv' := [(4, .int 0), (0, .ref (mvA V 0)), (1, .int p1), (2, .int p2), (3, .int p3)]) hC.1 hC.2.1 dX12_holds_1 hl (Nat.le_of_ble_eq_true rfl) rfl (fun ls hl => ?_)
  refine lv_iload_n hC.1 hC.2.1 dX12_holds_3 rfl (lv_at hl 2 rfl) ?_
  refine lv_istore (lv' := [(5, .int p1), (4, .int 0), (0, .ref (mvA V 0)), (1, .int p1), (2, .int p2), (3, .int p3)]) hC.1 hC.2.1 dX12_holds_4 hl (Nat.le_of_ble_eq_true rfl) rfl (fun ls hl => ?_)
  exact hL6 _ _ _ _ _ _ _ _ _ hf hM (lv_sub hl [2, 4, 5, 1, 0] rfl)
set_option maxHeartbeats 4000000 in
set_option maxRecDepth 100000 in
theorem mcX12_weighs (V : mV) (l : Launch) (M : mM) (p1 : Int32) (r : Int32) (M' : mM) (hf : fX12_weighs M p1 = some (r, M')) : IR V l yX12_weighs cX12_weighs 5 ({ frames := 4, cells := 0, slots := 0, locals := 92 } : Room) [.ref (mvA V 0), .int p1] M r M' := by
  unfold fX12_weighs at hf
  refine mw_enterI RX12 rfl (by decide +kernel) (Nat.le_of_ble_eq_true rfl) (fun {p e s m args below meth c} ls A Q hC hret hM hl => ?_)
  have hl : lv_has ls 5 [(0, .ref (mvA V 0)), (1, .int p1)] := hl
  have hL9 : ∀ (n : Nat) (M : mM) (x1 : Int32) (x2 : Int32) (x3 : Int32) (H : Heap) (locs : List Loc) (ls : Array Slot), fX12_weighs_L9 n M x1 x2 x3 = some (r, M') → PR V M A s H locs → lv_has ls 5 [(0, .ref (mvA V 0)), (1, .int x1), (2, .int x2), (3, .int x3)] → W p l e ({ frames := 4, cells := 0, slots := 0, locals := 92 } : Room) s m args below meth c H locs 0 0 Q (F0 m 9 ls []) := by
    intro n7
    induction n7 with
    | zero => intro M x1 x2 x3 H locs ls hf; cases hf
    | succ n7 ih7 =>
      intro M x1 x2 x3 H locs ls hf hM hl
      have hf : fX12_weighs_L9_b (fX12_weighs_L9 n7) M x1 x2 x3 = some (r, M') := hf
      unfold fX12_weighs_L9_b at hf
      refine lv_iload_n hC.1 hC.2.1 dX12_weighs_9 rfl (lv_at hl 3 rfl) ?_
      refine lv_aload_n hC.1 hC.2.1 dX12_weighs_10 rfl (lv_at hl 0 rfl) ?_
      refine mw_get (v := .ref (mvA V 1)) hC hM 0 (Nat.le_of_ble_eq_true rfl) (eR_0 V) inW12 rfl 0 (by decide) q_1146 (fun _ h9 => h9) rfl dX12_weighs_11 ?_
      refine lv_bipush hC.1 hC.2.1 dX12_weighs_14 cb_7 ?_
      obtain ⟨hg3, hf⟩ := o_g hf
      refine mw_iald hC hM 1 0 (Nat.le_of_ble_eq_true rfl) (eR_1 V) rfl hg3 dX12_weighs_16 ?_
      refine lv_icmp_ge (tgt := 138) hC.1 hC.2.1 dX12_weighs_17 (by decide) (fun hc22 => ?_) (fun hc22 => ?_)
      · have hf := o_t hc22 hf
        refine lv_iload_n hC.1 hC.2.1 dX12_weighs_138 rfl (lv_at hl 2 rfl) ?_
        exact hret (o_r1 hf) (o_r2 hf hM) dX12_weighs_139
      · have hf := o_f hc22 hf
        refine lv_bipush hC.1 hC.2.1 dX12_weighs_20 cb_55 ?_
        refine lv_iconst hC.1 hC.2.1 dX12_weighs_22 ci_5 ?_
        refine lv_iload_n hC.1 hC.2.1 dX12_weighs_23 rfl (lv_at hl 3 rfl) ?_
        refine lv_imul hC.1 hC.2.1 dX12_weighs_24 ?_
        refine lv_iadd hC.1 hC.2.1 dX12_weighs_25 ?_
        refine lv_istore (lv' := [(4, .int (55 + (5 * x3))), (0, .ref (mvA V 0)), (1, .int x1), (2, .int x2), (3, .int x3)]) hC.1 hC.2.1 dX12_weighs_26 hl (Nat.le_of_ble_eq_true rfl) rfl (fun ls hl => ?_)
        refine lv_aload_n hC.1 hC.2.1 dX12_weighs_28 rfl (lv_at hl 1 rfl) ?_
        refine lv_iload_n hC.1 hC.2.1 dX12_weighs_29 rfl (lv_at hl 2 rfl) ?_
        refine lv_iconst hC.1 hC.2.1 dX12_weighs_30 ci_0 ?_
        obtain ⟨r4, hq5, hf⟩ := o_b hf
        refine mw_cVi (As := [.int x1, .int 0]) (rest := []) hC hM (mcX12_its V l M x1 0 r4 hq5) (mw_kV hC q_1282 q_1284 q_46 q_120 q_1285 ⟨rfl, rfl⟩ kV_X12_its ⟨Nat.le_of_ble_eq_true rfl, Nat.le_of_ble_eq_true rfl⟩) (Nat.le_of_ble_eq_true rfl) (eR_0 V) rfl rfl rfl (Nat.le_of_ble_eq_true rfl) hl.1 dX12_weighs_31 (fun H locs hM _ => ?_)
        refine lv_aload_n hC.1 hC.2.1 dX12_weighs_34 rfl (lv_at hl 1 rfl) ?_
        refine mw_get (v := .ref (mvA V 1)) hC hM 0 (Nat.le_of_ble_eq_true rfl) (eR_0 V) inW12 rfl 0 (by decide) q_1146 (fun _ h9 => h9) rfl dX12_weighs_35 ?_
        refine lv_iload hC.1 hC.2.1 dX12_weighs_38 (lv_at hl 0 rfl) ?_
        obtain ⟨hg6, hf⟩ := o_g hf
        refine mw_iald hC hM 1 0 (Nat.le_of_ble_eq_true rfl) (eR_1 V) rfl hg6 dX12_weighs_40 ?_
        refine mw_cSi (As := [.int r4, .int (M 1 (Int32.toNatClampNeg (55 + (5 * x3))))]) (rest := []) hC hM (mcX12_isUnder V l M r4 (M 1 (Int32.toNatClampNeg (55 + (5 * x3)))) _ rfl) (mw_kS hC q_1301 q_1302 q_120 q_1303 ⟨rfl, rfl⟩ kS_X12_isUnder ⟨Nat.le_of_ble_eq_true rfl, Nat.le_of_ble_eq_true rfl⟩) rfl rfl (Nat.le_of_ble_eq_true rfl) hl.1 dX12_weighs_41 (fun H locs hM hb7 => ?_)
        refine lv_if_eq (tgt := 132) hC.1 hC.2.1 dX12_weighs_44 (by decide) (fun hc21 => ?_) (fun hc21 => ?_)
        · have hf := o_t hc21 hf
          refine lv_iinc (k := 4) (lv' := [(3, .int (x3 + 1)), (4, .int (55 + (5 * x3))), (0, .ref (mvA V 0)), (1, .int x1), (2, .int x2)]) hC.1 hC.2.1 dX12_weighs_132 hl rfl (inc_1 _) (Nat.le_of_ble_eq_true rfl) rfl (fun ls hl => ?_)
          refine lv_goto (tgt := 9) hC.1 hC.2.1 dX12_weighs_135 (by decide) ?_
          exact ih7 _ _ _ _ _ _ _ hf hM (lv_sub hl [2, 3, 4, 0] rfl)
        · have hf := o_f hc21 hf
          refine lv_aload_n hC.1 hC.2.1 dX12_weighs_47 rfl (lv_at hl 1 rfl) ?_
          refine lv_aload_n hC.1 hC.2.1 dX12_weighs_48 rfl (lv_at hl 1 rfl) ?_
          refine mw_get (v := .ref (mvA V 1)) hC hM 0 (Nat.le_of_ble_eq_true rfl) (eR_0 V) inW12 rfl 0 (by decide) q_1146 (fun _ h9 => h9) rfl dX12_weighs_49 ?_
          refine lv_iload hC.1 hC.2.1 dX12_weighs_52 (lv_at hl 0 rfl) ?_
          refine lv_iconst hC.1 hC.2.1 dX12_weighs_54 ci_3 ?_
          refine lv_iadd hC.1 hC.2.1 dX12_weighs_55 ?_
          obtain ⟨hg8, hf⟩ := o_g hf
          refine mw_iald hC hM 1 0 (Nat.le_of_ble_eq_true rfl) (eR_1 V) rfl hg8 dX12_weighs_56 ?_
          refine lv_aload_n hC.1 hC.2.1 dX12_weighs_57 rfl (lv_at hl 1 rfl) ?_
          refine mw_get (v := .ref (mvA V 1)) hC hM 0 (Nat.le_of_ble_eq_true rfl) (eR_0 V) inW12 rfl 0 (by decide) q_1146 (fun _ h9 => h9) rfl dX12_weighs_58 ?_
          refine lv_iload hC.1 hC.2.1 dX12_weighs_61 (lv_at hl 0 rfl) ?_
          refine lv_iconst hC.1 hC.2.1 dX12_weighs_63 ci_4 ?_
          refine lv_iadd hC.1 hC.2.1 dX12_weighs_64 ?_
          obtain ⟨hg9, hf⟩ := o_g hf
          refine mw_iald hC hM 1 0 (Nat.le_of_ble_eq_true rfl) (eR_1 V) rfl hg9 dX12_weighs_65 ?_
          refine lv_iload_n hC.1 hC.2.1 dX12_weighs_66 rfl (lv_at hl 2 rfl) ?_
          obtain ⟨r10, M12, hq11, hf⟩ := o_b2 hf
          refine mw_cVi (As := [.int (M 1 (Int32.toNatClampNeg ((55 + (5 * x3)) + 3))), .int (M 1 (Int32.toNatClampNeg ((55 + (5 * x3)) + 4))), .int x1]) (rest := []) hC hM (mcX12_holds V l M (M 1 (Int32.toNatClampNeg ((55 + (5 * x3)) + 3))) (M 1 (Int32.toNatClampNeg ((55 + (5 * x3)) + 4))) x1 r10 M12 hq11) (mw_kV hC q_1304 q_1306 q_50 q_120 q_1307 ⟨rfl, rfl⟩ kV_X12_holds ⟨Nat.le_of_ble_eq_true rfl, Nat.le_of_ble_eq_true rfl⟩) (Nat.le_of_ble_eq_true rfl) (eR_0 V) rfl rfl rfl (Nat.le_of_ble_eq_true rfl) hl.1 dX12_weighs_67 (fun H locs hM hb13 => ?_)
          refine lv_if_eq (tgt := 132) hC.1 hC.2.1 dX12_weighs_70 (by decide) (fun hc20 => ?_) (fun hc20 => ?_)
          · have hf := o_t hc20 hf
            refine lv_iinc (k := 4) (lv' := [(3, .int (x3 + 1)), (4, .int (55 + (5 * x3))), (0, .ref (mvA V 0)), (1, .int x1), (2, .int x2)]) hC.1 hC.2.1 dX12_weighs_132 hl rfl (inc_1 _) (Nat.le_of_ble_eq_true rfl) rfl (fun ls hl => ?_)
            refine lv_goto (tgt := 9) hC.1 hC.2.1 dX12_weighs_135 (by decide) ?_
            exact ih7 _ _ _ _ _ _ _ hf hM (lv_sub hl [2, 3, 4, 0] rfl)
          · have hf := o_f hc20 hf
            refine lv_aload_n hC.1 hC.2.1 dX12_weighs_73 rfl (lv_at hl 1 rfl) ?_
            refine mw_get (v := .ref (mvA V 1)) hC hM 0 (Nat.le_of_ble_eq_true rfl) (eR_0 V) inW12 rfl 0 (by decide) q_1146 (fun _ h9 => h9) rfl dX12_weighs_74 ?_
            refine lv_iload hC.1 hC.2.1 dX12_weighs_77 (lv_at hl 0 rfl) ?_
            refine lv_iconst hC.1 hC.2.1 dX12_weighs_79 ci_1 ?_
            refine lv_iadd hC.1 hC.2.1 dX12_weighs_80 ?_
            obtain ⟨hg14, hf⟩ := o_g hf
            refine mw_iald hC hM 1 0 (Nat.le_of_ble_eq_true rfl) (eR_1 V) rfl hg14 dX12_weighs_81 ?_
            refine lv_if_ne (tgt := 99) hC.1 hC.2.1 dX12_weighs_82 (by decide) (fun hc19 => ?_) (fun hc19 => ?_)
            · have hf := o_f hc19 hf
              refine lv_aload_n hC.1 hC.2.1 dX12_weighs_99 rfl (lv_at hl 1 rfl) ?_
              refine mw_get (v := .ref (mvA V 1)) hC hM 0 (Nat.le_of_ble_eq_true rfl) (eR_0 V) inW12 rfl 0 (by decide) q_1146 (fun _ h9 => h9) rfl dX12_weighs_100 ?_
              refine lv_iload hC.1 hC.2.1 dX12_weighs_103 (lv_at hl 0 rfl) ?_
              refine lv_iconst hC.1 hC.2.1 dX12_weighs_105 ci_1 ?_
              refine lv_iadd hC.1 hC.2.1 dX12_weighs_106 ?_
              obtain ⟨hg15, hf⟩ := o_g hf
              refine mw_iald hC hM 1 0 (Nat.le_of_ble_eq_true rfl) (eR_1 V) rfl hg15 dX12_weighs_107 ?_
              refine lv_iconst hC.1 hC.2.1 dX12_weighs_108 ci_1 ?_
              refine lv_icmp_ne (tgt := 130) hC.1 hC.2.1 dX12_weighs_109 (by decide) (fun hc17 => ?_) (fun hc17 => ?_)
              · have hf := o_f hc17 hf
                refine lv_iconst hC.1 hC.2.1 dX12_weighs_130 ci_0 ?_
                exact hret (o_r1 hf) (o_r2 hf hM) dX12_weighs_131
              · have hf := o_t hc17 hf
                refine lv_iconst hC.1 hC.2.1 dX12_weighs_112 ci_0 ?_
                refine lv_iload_n hC.1 hC.2.1 dX12_weighs_113 rfl (lv_at hl 3 rfl) ?_
                refine lv_aload_n hC.1 hC.2.1 dX12_weighs_114 rfl (lv_at hl 1 rfl) ?_
                refine mw_get (v := .ref (mvA V 1)) hC hM 0 (Nat.le_of_ble_eq_true rfl) (eR_0 V) inW12 rfl 0 (by decide) q_1146 (fun _ h9 => h9) rfl dX12_weighs_115 ?_
                refine lv_iload hC.1 hC.2.1 dX12_weighs_118 (lv_at hl 0 rfl) ?_
                refine lv_iconst hC.1 hC.2.1 dX12_weighs_120 ci_2 ?_
                refine lv_iadd hC.1 hC.2.1 dX12_weighs_121 ?_
                obtain ⟨hg16, hf⟩ := o_g hf
                refine mw_iald hC hM 1 0 (Nat.le_of_ble_eq_true rfl) (eR_1 V) rfl hg16 dX12_weighs_122 ?_
                refine lv_isub hC.1 hC.2.1 dX12_weighs_123 ?_
                refine mw_max hC hl.1 q_1319 q_518 q_121 q_519 (Nat.le_of_ble_eq_true rfl) (Nat.le_of_ble_eq_true rfl) dX12_weighs_124 ?_
                refine lv_goto (tgt := 131) hC.1 hC.2.1 dX12_weighs_127 (by decide) ?_
                exact hret (o_r1 hf) (o_r2 hf hM) dX12_weighs_131
            · have hf := o_t hc19 hf
              refine lv_iload_n hC.1 hC.2.1 dX12_weighs_85 rfl (lv_at hl 3 rfl) ?_
              refine lv_aload_n hC.1 hC.2.1 dX12_weighs_86 rfl (lv_at hl 1 rfl) ?_
              refine mw_get (v := .ref (mvA V 1)) hC hM 0 (Nat.le_of_ble_eq_true rfl) (eR_0 V) inW12 rfl 0 (by decide) q_1146 (fun _ h9 => h9) rfl dX12_weighs_87 ?_
              refine lv_iload hC.1 hC.2.1 dX12_weighs_90 (lv_at hl 0 rfl) ?_
              refine lv_iconst hC.1 hC.2.1 dX12_weighs_92 ci_2 ?_
              refine lv_iadd hC.1 hC.2.1 dX12_weighs_93 ?_
              obtain ⟨hg18, hf⟩ := o_g hf
              refine mw_iald hC hM 1 0 (Nat.le_of_ble_eq_true rfl) (eR_1 V) rfl hg18 dX12_weighs_94 ?_
              refine lv_iadd hC.1 hC.2.1 dX12_weighs_95 ?_
              refine lv_goto (tgt := 131) hC.1 hC.2.1 dX12_weighs_96 (by decide) ?_
              exact hret (o_r1 hf) (o_r2 hf hM) dX12_weighs_131
  refine lv_aload_n hC.1 hC.2.1 dX12_weighs_0 rfl (lv_at hl 0 rfl) ?_
  refine lv_iload_n hC.1 hC.2.1 dX12_weighs_1 rfl (lv_at hl 1 rfl) ?_
  refine lv_iconst hC.1 hC.2.1 dX12_weighs_2 ci_2 ?_
  obtain ⟨r1, hq2, hf⟩ := o_b hf
  refine mw_cVi (As := [.int p1, .int 2]) (rest := []) hC hM (mcX12_its V l M p1 2 r1 hq2) (mw_kV hC q_1282 q_1284 q_46 q_120 q_1285 ⟨rfl, rfl⟩ kV_X12_its ⟨Nat.le_of_ble_eq_true rfl, Nat.le_of_ble_eq_true rfl⟩) (Nat.le_of_ble_eq_true rfl) (eR_0 V) rfl rfl rfl (Nat.le_of_ble_eq_true rfl) hl.1 dX12_weighs_3 (fun H locs hM _ => ?_)
  refine lv_istore_n (lv' := [(2, .int r1), (0, .ref (mvA V 0)), (1, .int p1)]) hC.1 hC.2.1 dX12_weighs_6 rfl hl (Nat.le_of_ble_eq_true rfl) rfl (fun ls hl => ?_)
  refine lv_iconst hC.1 hC.2.1 dX12_weighs_7 ci_0 ?_
  refine lv_istore_n (lv' := [(3, .int 0), (2, .int r1), (0, .ref (mvA V 0)), (1, .int p1)]) hC.1 hC.2.1 dX12_weighs_8 rfl hl (Nat.le_of_ble_eq_true rfl) rfl (fun ls hl => ?_)
  exact hL9 _ _ _ _ _ _ _ _ hf hM (lv_sub hl [2, 3, 1, 0] rfl)
set_option maxHeartbeats 4000000 in
set_option maxRecDepth 100000 in
theorem mcX12_powerOf (V : mV) (l : Launch) (M : mM) (p1 : Int32) (r : Int32) (M' : mM) (hf : fX12_powerOf M p1 = some (r, M')) : IR V l yX12_powerOf cX12_powerOf 4 ({ frames := 5, cells := 0, slots := 0, locals := 116 } : Room) [.ref (mvA V 0), .int p1] M r M' := by
  unfold fX12_powerOf at hf
  refine mw_enterI RX12 rfl (by decide +kernel) (Nat.le_of_ble_eq_true rfl) (fun {p e s m args below meth c} ls A Q hC hret hM hl => ?_)
  have hl : lv_has ls 4 [(0, .ref (mvA V 0)), (1, .int p1)] := hl
  have hL24 : ∀ (M : mM) (x1 : Int32) (x2 : Int32) (t0 : Int32) (H : Heap) (locs : List Loc) (ls : Array Slot), fX12_powerOf_L24 M x1 x2 t0 = some (r, M') → PR V M A s H locs → lv_has ls 4 [(0, .ref (mvA V 0)), (1, .int x1), (2, .int x2)] → W p l e ({ frames := 5, cells := 0, slots := 0, locals := 116 } : Room) s m args below meth c H locs 0 0 Q (F0 m 24 ls [.int t0]) := by
    intro M x1 x2 t0 H locs ls hf hM hl
    unfold fX12_powerOf_L24 at hf
    refine lv_istore_n (lv' := [(3, .int t0), (0, .ref (mvA V 0)), (1, .int x1), (2, .int x2)]) hC.1 hC.2.1 dX12_powerOf_24 rfl hl (Nat.le_of_ble_eq_true rfl) rfl (fun ls hl => ?_)
    refine lv_aload_n hC.1 hC.2.1 dX12_powerOf_25 rfl (lv_at hl 1 rfl) ?_
    refine lv_iload_n hC.1 hC.2.1 dX12_powerOf_26 rfl (lv_at hl 2 rfl) ?_
    refine lv_iconst hC.1 hC.2.1 dX12_powerOf_27 ci_0 ?_
    obtain ⟨r6, hq7, hf⟩ := o_b hf
    refine mw_cVi (As := [.int x1, .int 0]) (rest := []) hC hM (mcX12_its V l M x1 0 r6 hq7) (mw_kV hC q_1282 q_1284 q_46 q_120 q_1285 ⟨rfl, rfl⟩ kV_X12_its ⟨Nat.le_of_ble_eq_true rfl, Nat.le_of_ble_eq_true rfl⟩) (Nat.le_of_ble_eq_true rfl) (eR_0 V) rfl rfl rfl (Nat.le_of_ble_eq_true rfl) hl.1 dX12_powerOf_28 (fun H locs hM _ => ?_)
    by_cases hc8 : r6 = 2
    · have hf := o_t hc8 hf
      refine lv_tableIn (off := 29) (tgt := 60) hC.1 hC.2.1 dX12_powerOf_31 (by rw [hc8]; decide) (by rw [hc8]; decide) (by rw [hc8]; rfl) (by decide) ?_
      refine lv_iload_n hC.1 hC.2.1 dX12_powerOf_60 rfl (lv_at hl 0 rfl) ?_
      exact hret (o_r1 hf) (o_r2 hf hM) dX12_powerOf_61
    have hf := o_f hc8 hf
    by_cases hc9 : r6 = 3
    · have hf := o_t hc9 hf
      refine lv_tableIn (off := 31) (tgt := 62) hC.1 hC.2.1 dX12_powerOf_31 (by rw [hc9]; decide) (by rw [hc9]; decide) (by rw [hc9]; rfl) (by decide) ?_
      refine lv_iconst hC.1 hC.2.1 dX12_powerOf_62 ci_3 ?_
      refine lv_iload_n hC.1 hC.2.1 dX12_powerOf_63 rfl (lv_at hl 0 rfl) ?_
      refine lv_imul hC.1 hC.2.1 dX12_powerOf_64 ?_
      exact hret (o_r1 hf) (o_r2 hf hM) dX12_powerOf_65
    have hf := o_f hc9 hf
    by_cases hc10 : r6 = 4
    · have hf := o_t hc10 hf
      refine lv_tableIn (off := 35) (tgt := 66) hC.1 hC.2.1 dX12_powerOf_31 (by rw [hc10]; decide) (by rw [hc10]; decide) (by rw [hc10]; rfl) (by decide) ?_
      refine lv_iload_n hC.1 hC.2.1 dX12_powerOf_66 rfl (lv_at hl 3 rfl) ?_
      refine lv_iconst hC.1 hC.2.1 dX12_powerOf_67 ci_2 ?_
      refine lv_idiv hC.1 hC.2.1 dX12_powerOf_68 (by decide) ?_
      exact hret (o_r1 hf) (o_r2 hf hM) dX12_powerOf_69
    have hf := o_f hc10 hf
    by_cases hc13 : r6 = 5
    · have hf := o_t hc13 hf
      refine lv_tableIn (off := 39) (tgt := 70) hC.1 hC.2.1 dX12_powerOf_31 (by rw [hc13]; decide) (by rw [hc13]; decide) (by rw [hc13]; rfl) (by decide) ?_
      refine lv_aload_n hC.1 hC.2.1 dX12_powerOf_70 rfl (lv_at hl 1 rfl) ?_
      refine mw_get (v := .ref (mvA V 1)) hC hM 0 (Nat.le_of_ble_eq_true rfl) (eR_0 V) inW12 rfl 0 (by decide) q_1146 (fun _ h9 => h9) rfl dX12_powerOf_71 ?_
      refine lv_iconst hC.1 hC.2.1 dX12_powerOf_74 ci_1 ?_
      obtain ⟨hg11, hf⟩ := o_g hf
      refine mw_iald hC hM 1 0 (Nat.le_of_ble_eq_true rfl) (eR_1 V) rfl hg11 dX12_powerOf_75 ?_
      refine lv_bipush hC.1 hC.2.1 dX12_powerOf_76 cb_6 ?_
      refine lv_icmp_ge (tgt := 85) hC.1 hC.2.1 dX12_powerOf_78 (by decide) (fun hc12 => ?_) (fun hc12 => ?_)
      · have hf := o_t hc12 hf
        refine lv_iload_n hC.1 hC.2.1 dX12_powerOf_85 rfl (lv_at hl 3 rfl) ?_
        refine lv_iconst hC.1 hC.2.1 dX12_powerOf_86 ci_2 ?_
        refine lv_idiv hC.1 hC.2.1 dX12_powerOf_87 (by decide) ?_
        exact hret (o_r1 hf) (o_r2 hf hM) dX12_powerOf_88
      · have hf := o_f hc12 hf
        refine lv_iconst hC.1 hC.2.1 dX12_powerOf_81 ci_0 ?_
        refine lv_goto (tgt := 88) hC.1 hC.2.1 dX12_powerOf_82 (by decide) ?_
        exact hret (o_r1 hf) (o_r2 hf hM) dX12_powerOf_88
    have hf := o_f hc13 hf
    have hc8 := sw_ne (k := 2) (v := 2) rfl hc8
    have hc9 := sw_ne (k := 3) (v := 3) rfl hc9
    have hc10 := sw_ne (k := 4) (v := 4) rfl hc10
    have hc13 := sw_ne (k := 5) (v := 5) rfl hc13
    refine lv_tableOut (tgt := 89) hC.1 hC.2.1 dX12_powerOf_31 (by omega) (by decide) ?_
    refine lv_iload_n hC.1 hC.2.1 dX12_powerOf_89 rfl (lv_at hl 3 rfl) ?_
    exact hret (o_r1 hf) (o_r2 hf hM) dX12_powerOf_90
  refine lv_aload_n hC.1 hC.2.1 dX12_powerOf_0 rfl (lv_at hl 0 rfl) ?_
  refine lv_iload_n hC.1 hC.2.1 dX12_powerOf_1 rfl (lv_at hl 1 rfl) ?_
  obtain ⟨r1, M3, hq2, hf⟩ := o_b2 hf
  refine mw_cVi (As := [.int p1]) (rest := []) hC hM (mcX12_weighs V l M p1 r1 M3 hq2) (mw_kV hC q_1297 q_1299 q_49 q_120 q_1300 ⟨rfl, rfl⟩ kV_X12_weighs ⟨Nat.le_of_ble_eq_true rfl, Nat.le_of_ble_eq_true rfl⟩) (Nat.le_of_ble_eq_true rfl) (eR_0 V) rfl rfl rfl (Nat.le_of_ble_eq_true rfl) hl.1 dX12_powerOf_2 (fun H locs hM _ => ?_)
  refine lv_istore_n (lv' := [(2, .int r1), (0, .ref (mvA V 0)), (1, .int p1)]) hC.1 hC.2.1 dX12_powerOf_5 rfl hl (Nat.le_of_ble_eq_true rfl) rfl (fun ls hl => ?_)
  refine lv_aload_n hC.1 hC.2.1 dX12_powerOf_6 rfl (lv_at hl 1 rfl) ?_
  refine mw_get (v := .ref (mvA V 1)) hC hM 0 (Nat.le_of_ble_eq_true rfl) (eR_0 V) inW12 rfl 0 (by decide) q_1146 (fun _ h9 => h9) rfl dX12_powerOf_7 ?_
  refine lv_iconst hC.1 hC.2.1 dX12_powerOf_10 ci_1 ?_
  obtain ⟨hg4, hf⟩ := o_g hf
  refine mw_iald hC hM 1 0 (Nat.le_of_ble_eq_true rfl) (eR_1 V) rfl hg4 dX12_powerOf_11 ?_
  refine lv_bipush hC.1 hC.2.1 dX12_powerOf_12 cb_12 ?_
  refine lv_icmp_ge (tgt := 21) hC.1 hC.2.1 dX12_powerOf_14 (by decide) (fun hc5 => ?_) (fun hc5 => ?_)
  · have hf := o_t hc5 hf
    refine lv_iload_n hC.1 hC.2.1 dX12_powerOf_21 rfl (lv_at hl 0 rfl) ?_
    refine lv_iconst hC.1 hC.2.1 dX12_powerOf_22 ci_2 ?_
    refine lv_iadd hC.1 hC.2.1 dX12_powerOf_23 ?_
    exact hL24 _ _ _ _ _ _ _ hf hM (lv_sub hl [1, 2, 0] rfl)
  · have hf := o_f hc5 hf
    refine lv_iload_n hC.1 hC.2.1 dX12_powerOf_17 rfl (lv_at hl 0 rfl) ?_
    refine lv_goto (tgt := 24) hC.1 hC.2.1 dX12_powerOf_18 (by decide) ?_
    exact hL24 _ _ _ _ _ _ _ hf hM (lv_sub hl [1, 2, 0] rfl)
set_option maxHeartbeats 4000000 in
set_option maxRecDepth 100000 in
theorem mcX12_around (V : mV) (l : Launch) (M : mM) (p0 : Int32) (r : Int32) (hf : fX12_around p0 = r) : IR V l yX12_around cX12_around 1 ({ frames := 0, cells := 0, slots := 0, locals := 0 } : Room) [.int p0] M r M := by
  unfold fX12_around at hf
  refine mw_enterI RX12 rfl (by decide +kernel) (Nat.le_of_ble_eq_true rfl) (fun {p e s m args below meth c} ls A Q hC hret hM hl => ?_)
  have hl : lv_has ls 1 [(0, .int p0)] := hl
  refine lv_iload_n hC.1 hC.2.1 dX12_around_0 rfl (lv_at hl 0 rfl) ?_
  refine lv_bipush hC.1 hC.2.1 dX12_around_1 cb_24 ?_
  refine mw_irem hC.1 hC.2.1 dX12_around_3 (by decide) ?_
  refine lv_bipush hC.1 hC.2.1 dX12_around_4 cb_24 ?_
  refine lv_iadd hC.1 hC.2.1 dX12_around_6 ?_
  refine lv_bipush hC.1 hC.2.1 dX12_around_7 cb_24 ?_
  refine mw_irem hC.1 hC.2.1 dX12_around_9 (by decide) ?_
  exact hret hf hM dX12_around_10
set_option maxHeartbeats 4000000 in
set_option maxRecDepth 100000 in
theorem mcX12_voteOf (V : mV) (l : Launch) (M : mM) (p1 : Int32) (r : Int32) (hf : fX12_voteOf M p1 = some r) : IR V l yX12_voteOf cX12_voteOf 3 ({ frames := 1, cells := 0, slots := 0, locals := 22 } : Room) [.ref (mvA V 0), .int p1] M r M := by
  unfold fX12_voteOf at hf
  refine mw_enterI RX12 rfl (by decide +kernel) (Nat.le_of_ble_eq_true rfl) (fun {p e s m args below meth c} ls A Q hC hret hM hl => ?_)
  have hl : lv_has ls 3 [(0, .ref (mvA V 0)), (1, .int p1)] := hl
  refine lv_aload_n hC.1 hC.2.1 dX12_voteOf_0 rfl (lv_at hl 0 rfl) ?_
  refine lv_iload_n hC.1 hC.2.1 dX12_voteOf_1 rfl (lv_at hl 1 rfl) ?_
  refine lv_iconst hC.1 hC.2.1 dX12_voteOf_2 ci_1 ?_
  obtain ⟨r1, hq2, hf⟩ := o_b hf
  refine mw_cVi (As := [.int p1, .int 1]) (rest := []) hC hM (mcX12_its V l M p1 1 r1 hq2) (mw_kV hC q_1282 q_1284 q_46 q_120 q_1285 ⟨rfl, rfl⟩ kV_X12_its ⟨Nat.le_of_ble_eq_true rfl, Nat.le_of_ble_eq_true rfl⟩) (Nat.le_of_ble_eq_true rfl) (eR_0 V) rfl rfl rfl (Nat.le_of_ble_eq_true rfl) hl.1 dX12_voteOf_3 (fun H locs hM _ => ?_)
  refine lv_aload_n hC.1 hC.2.1 dX12_voteOf_6 rfl (lv_at hl 0 rfl) ?_
  refine mw_get (v := .ref (mvA V 1)) hC hM 0 (Nat.le_of_ble_eq_true rfl) (eR_0 V) inW12 rfl 0 (by decide) q_1146 (fun _ h9 => h9) rfl dX12_voteOf_7 ?_
  refine lv_iconst hC.1 hC.2.1 dX12_voteOf_10 ci_1 ?_
  obtain ⟨hg3, hf⟩ := o_g hf
  refine mw_iald hC hM 1 0 (Nat.le_of_ble_eq_true rfl) (eR_1 V) rfl hg3 dX12_voteOf_11 ?_
  refine lv_isub hC.1 hC.2.1 dX12_voteOf_12 ?_
  refine mw_cSi (As := [.int (r1 - (M 1 (Int32.toNatClampNeg 1)))]) (rest := []) hC hM (mcX12_around V l M (r1 - (M 1 (Int32.toNatClampNeg 1))) _ rfl) (mw_kS hC q_1290 q_1291 q_120 q_1292 ⟨rfl, rfl⟩ kS_X12_around ⟨Nat.le_of_ble_eq_true rfl, Nat.le_of_ble_eq_true rfl⟩) rfl rfl (Nat.le_of_ble_eq_true rfl) hl.1 dX12_voteOf_13 (fun H locs hM _ => ?_)
  refine lv_istore_n (lv' := [(2, .int (fX12_around (r1 - (M 1 (Int32.toNatClampNeg 1))))), (0, .ref (mvA V 0)), (1, .int p1)]) hC.1 hC.2.1 dX12_voteOf_16 rfl hl (Nat.le_of_ble_eq_true rfl) rfl (fun ls hl => ?_)
  refine lv_iload_n hC.1 hC.2.1 dX12_voteOf_17 rfl (lv_at hl 0 rfl) ?_
  refine lv_if_ne (tgt := 25) hC.1 hC.2.1 dX12_voteOf_18 (by decide) (fun hc5 => ?_) (fun hc5 => ?_)
  · have hf := o_f hc5 hf
    refine lv_iload_n hC.1 hC.2.1 dX12_voteOf_25 rfl (lv_at hl 0 rfl) ?_
    refine lv_bipush hC.1 hC.2.1 dX12_voteOf_26 cb_12 ?_
    refine lv_icmp_gt (tgt := 35) hC.1 hC.2.1 dX12_voteOf_28 (by decide) (fun hc4 => ?_) (fun hc4 => ?_)
    · have hf := o_t hc4 hf
      refine lv_iconst hC.1 hC.2.1 dX12_voteOf_35 ci_m1 ?_
      exact hret (Option.some.inj hf) hM dX12_voteOf_36
    · have hf := o_f hc4 hf
      refine lv_iconst hC.1 hC.2.1 dX12_voteOf_31 ci_1 ?_
      refine lv_goto (tgt := 36) hC.1 hC.2.1 dX12_voteOf_32 (by decide) ?_
      exact hret (Option.some.inj hf) hM dX12_voteOf_36
  · have hf := o_t hc5 hf
    refine lv_iconst hC.1 hC.2.1 dX12_voteOf_21 ci_0 ?_
    refine lv_goto (tgt := 36) hC.1 hC.2.1 dX12_voteOf_22 (by decide) ?_
    exact hret (Option.some.inj hf) hM dX12_voteOf_36
set_option maxHeartbeats 4000000 in
set_option maxRecDepth 100000 in
theorem mcX12_voterOf (V : mV) (l : Launch) (M : mM) (p1 : Int32) (p2 : Int32) (r : Int32) (M' : mM) (hf : fX12_voterOf M p1 p2 = some (r, M')) : IR V l yX12_voterOf cX12_voterOf 3 ({ frames := 6, cells := 0, slots := 0, locals := 139 } : Room) [.ref (mvA V 0), .int p1, .int p2] M r M' := by
  unfold fX12_voterOf at hf
  refine mw_enterI RX12 rfl (by decide +kernel) (Nat.le_of_ble_eq_true rfl) (fun {p e s m args below meth c} ls A Q hC hret hM hl => ?_)
  have hl : lv_has ls 3 [(0, .ref (mvA V 0)), (1, .int p1), (2, .int p2)] := hl
  refine lv_aload_n hC.1 hC.2.1 dX12_voterOf_0 rfl (lv_at hl 0 rfl) ?_
  refine lv_iload_n hC.1 hC.2.1 dX12_voterOf_1 rfl (lv_at hl 1 rfl) ?_
  obtain ⟨r1, hq2, hf⟩ := o_b hf
  refine mw_cVi (As := [.int p1]) (rest := []) hC hM (mcX12_isVoter V l M p1 r1 hq2) (mw_kV hC q_1277 q_1279 q_45 q_120 q_1280 ⟨rfl, rfl⟩ kV_X12_isVoter ⟨Nat.le_of_ble_eq_true rfl, Nat.le_of_ble_eq_true rfl⟩) (Nat.le_of_ble_eq_true rfl) (eR_0 V) rfl rfl rfl (Nat.le_of_ble_eq_true rfl) hl.1 dX12_voterOf_2 (fun H locs hM hb3 => ?_)
  refine lv_if_eq (tgt := 20) hC.1 hC.2.1 dX12_voterOf_5 (by decide) (fun hc15 => ?_) (fun hc15 => ?_)
  · have hf := o_t hc15 hf
    refine lv_iconst hC.1 hC.2.1 dX12_voterOf_20 ci_m1 ?_
    exact hret (o_r1 hf) (o_r2 hf hM) dX12_voterOf_21
  · have hf := o_f hc15 hf
    refine lv_iload_n hC.1 hC.2.1 dX12_voterOf_8 rfl (lv_at hl 2 rfl) ?_
    refine lv_i2l (v := (Int32.toInt64 p2)) hC.1 hC.2.1 dX12_voterOf_9 rfl ?_
    refine lv_lconst (v := 0) hC.1 hC.2.1 dX12_voterOf_10 rfl ?_
    refine lv_ldc2 hC.1 hC.2.1 hC.2.2.2.1 (mw_w hC q_1281) dX12_voterOf_11 ?_
    refine mw_cSi (As := [.long (Int32.toInt64 p2), .long 0, .long 6]) (rest := []) hC hM (mcX12_in V l M (Int32.toInt64 p2) 0 6 _ rfl) (mw_kS hC q_1257 q_1258 q_120 q_1259 ⟨rfl, rfl⟩ kS_X12_in ⟨Nat.le_of_ble_eq_true rfl, Nat.le_of_ble_eq_true rfl⟩) rfl rfl (Nat.le_of_ble_eq_true rfl) hl.1 dX12_voterOf_14 (fun H locs hM hb4 => ?_)
    refine lv_if_ne (tgt := 22) hC.1 hC.2.1 dX12_voterOf_17 (by decide) (fun hc14 => ?_) (fun hc14 => ?_)
    · have hf := o_f hc14 hf
      refine lv_iload_n hC.1 hC.2.1 dX12_voterOf_22 rfl (lv_at hl 2 rfl) ?_
      refine lv_iconst hC.1 hC.2.1 dX12_voterOf_23 ci_5 ?_
      refine lv_icmp_ge (tgt := 36) hC.1 hC.2.1 dX12_voterOf_24 (by decide) (fun hc13 => ?_) (fun hc13 => ?_)
      · have hf := o_t hc13 hf
        refine lv_iload_n hC.1 hC.2.1 dX12_voterOf_36 rfl (lv_at hl 2 rfl) ?_
        refine lv_iconst hC.1 hC.2.1 dX12_voterOf_37 ci_5 ?_
        refine lv_icmp_ne (tgt := 51) hC.1 hC.2.1 dX12_voterOf_38 (by decide) (fun hc10 => ?_) (fun hc10 => ?_)
        · have hf := o_f hc10 hf
          refine lv_aload_n hC.1 hC.2.1 dX12_voterOf_51 rfl (lv_at hl 0 rfl) ?_
          refine lv_iload_n hC.1 hC.2.1 dX12_voterOf_52 rfl (lv_at hl 1 rfl) ?_
          obtain ⟨r5, M7, hq6, hf⟩ := o_b2 hf
          refine mw_cVi (As := [.int p1]) (rest := []) hC hM (mcX12_powerOf V l M p1 r5 M7 hq6) (mw_kV hC q_1293 q_1295 q_48 q_120 q_1296 ⟨rfl, rfl⟩ kV_X12_powerOf ⟨Nat.le_of_ble_eq_true rfl, Nat.le_of_ble_eq_true rfl⟩) (Nat.le_of_ble_eq_true rfl) (eR_0 V) rfl rfl rfl (Nat.le_of_ble_eq_true rfl) hl.1 dX12_voterOf_53 (fun H locs hM _ => ?_)
          exact hret (o_r1 hf) (o_r2 hf hM) dX12_voterOf_56
        · have hf := o_t hc10 hf
          refine lv_aload_n hC.1 hC.2.1 dX12_voterOf_41 rfl (lv_at hl 0 rfl) ?_
          refine lv_iload_n hC.1 hC.2.1 dX12_voterOf_42 rfl (lv_at hl 1 rfl) ?_
          obtain ⟨r8, hq9, hf⟩ := o_b hf
          refine mw_cVi (As := [.int p1]) (rest := []) hC hM (mcX12_voteOf V l M p1 r8 hq9) (mw_kV hC q_1286 q_1288 q_47 q_120 q_1289 ⟨rfl, rfl⟩ kV_X12_voteOf ⟨Nat.le_of_ble_eq_true rfl, Nat.le_of_ble_eq_true rfl⟩) (Nat.le_of_ble_eq_true rfl) (eR_0 V) rfl rfl rfl (Nat.le_of_ble_eq_true rfl) hl.1 dX12_voterOf_43 (fun H locs hM _ => ?_)
          refine lv_iconst hC.1 hC.2.1 dX12_voterOf_46 ci_1 ?_
          refine lv_iadd hC.1 hC.2.1 dX12_voterOf_47 ?_
          refine lv_goto (tgt := 56) hC.1 hC.2.1 dX12_voterOf_48 (by decide) ?_
          exact hret (o_r1 hf) (o_r2 hf hM) dX12_voterOf_56
      · have hf := o_f hc13 hf
        refine lv_aload_n hC.1 hC.2.1 dX12_voterOf_27 rfl (lv_at hl 0 rfl) ?_
        refine lv_iload_n hC.1 hC.2.1 dX12_voterOf_28 rfl (lv_at hl 1 rfl) ?_
        refine lv_iload_n hC.1 hC.2.1 dX12_voterOf_29 rfl (lv_at hl 2 rfl) ?_
        obtain ⟨r11, hq12, hf⟩ := o_b hf
        refine mw_cVi (As := [.int p1, .int p2]) (rest := []) hC hM (mcX12_its V l M p1 p2 r11 hq12) (mw_kV hC q_1282 q_1284 q_46 q_120 q_1285 ⟨rfl, rfl⟩ kV_X12_its ⟨Nat.le_of_ble_eq_true rfl, Nat.le_of_ble_eq_true rfl⟩) (Nat.le_of_ble_eq_true rfl) (eR_0 V) rfl rfl rfl (Nat.le_of_ble_eq_true rfl) hl.1 dX12_voterOf_30 (fun H locs hM _ => ?_)
        refine lv_goto (tgt := 56) hC.1 hC.2.1 dX12_voterOf_33 (by decide) ?_
        exact hret (o_r1 hf) (o_r2 hf hM) dX12_voterOf_56
    · have hf := o_t hc14 hf
      refine lv_iconst hC.1 hC.2.1 dX12_voterOf_20 ci_m1 ?_
      exact hret (o_r1 hf) (o_r2 hf hM) dX12_voterOf_21
set_option maxHeartbeats 4000000 in
set_option maxRecDepth 100000 in
theorem mcX12_becomes (V : mV) (l : Launch) (M : mM) (p1 : Int32) (p2 : Int32) (r : Int32) (M' : mM) (hf : fX12_becomes M p1 p2 = some (r, M')) : IR V l yX12_becomes cX12_becomes 4 ({ frames := 0, cells := 0, slots := 0, locals := 0 } : Room) [.ref (mvA V 0), .int p1, .int p2] M r M' := by
  unfold fX12_becomes at hf
  refine mw_enterI RX12 rfl (by decide +kernel) (Nat.le_of_ble_eq_true rfl) (fun {p e s m args below meth c} ls A Q hC hret hM hl => ?_)
  have hl : lv_has ls 4 [(0, .ref (mvA V 0)), (1, .int p1), (2, .int p2)] := hl
  refine lv_aload_n hC.1 hC.2.1 dX12_becomes_0 rfl (lv_at hl 0 rfl) ?_
  refine mw_get (v := .ref (mvA V 1)) hC hM 0 (Nat.le_of_ble_eq_true rfl) (eR_0 V) inW12 rfl 0 (by decide) q_1146 (fun _ h9 => h9) rfl dX12_becomes_1 ?_
  refine lv_iload_n hC.1 hC.2.1 dX12_becomes_4 rfl (lv_at hl 1 rfl) ?_
  obtain ⟨hg1, hf⟩ := o_g hf
  refine mw_iald hC hM 1 0 (Nat.le_of_ble_eq_true rfl) (eR_1 V) rfl hg1 dX12_becomes_5 ?_
  refine lv_istore_n (lv' := [(3, .int (M 1 (Int32.toNatClampNeg p1))), (0, .ref (mvA V 0)), (1, .int p1), (2, .int p2)]) hC.1 hC.2.1 dX12_becomes_6 rfl hl (Nat.le_of_ble_eq_true rfl) rfl (fun ls hl => ?_)
  refine lv_aload_n hC.1 hC.2.1 dX12_becomes_7 rfl (lv_at hl 1 rfl) ?_
  refine mw_get (v := .ref (mvA V 1)) hC hM 0 (Nat.le_of_ble_eq_true rfl) (eR_0 V) inW12 rfl 0 (by decide) q_1146 (fun _ h9 => h9) rfl dX12_becomes_8 ?_
  refine lv_iload_n hC.1 hC.2.1 dX12_becomes_11 rfl (lv_at hl 2 rfl) ?_
  refine lv_iload_n hC.1 hC.2.1 dX12_becomes_12 rfl (lv_at hl 3 rfl) ?_
  obtain ⟨hg2, hf⟩ := o_g hf
  refine mw_iast hC hM 1 0 (Nat.le_of_ble_eq_true rfl) (eR_1 V) rfl hg2 dX12_becomes_13 (fun H locs hM => ?_)
  refine lv_iload_n hC.1 hC.2.1 dX12_becomes_14 rfl (lv_at hl 0 rfl) ?_
  exact hret (o_r1 hf) (o_r2 hf hM) dX12_becomes_15
set_option maxHeartbeats 4000000 in
set_option maxRecDepth 100000 in
theorem mcX12_change (V : mV) (l : Launch) (M : mM) (p1 : Int32) (p2 : Int32) (p3 : Int32) (r : Int32) (M' : mM) (hf : fX12_change M p1 p2 p3 = some (r, M')) : IR V l yX12_change cX12_change 4 ({ frames := 3, cells := 0, slots := 0, locals := 66 } : Room) [.ref (mvA V 0), .int p1, .int p2, .int p3] M r M' := by
  unfold fX12_change at hf
  refine mw_enterI RX12 rfl (by decide +kernel) (Nat.le_of_ble_eq_true rfl) (fun {p e s m args below meth c} ls A Q hC hret hM hl => ?_)
  have hl : lv_has ls 4 [(0, .ref (mvA V 0)), (1, .int p1), (2, .int p2), (3, .int p3)] := hl
  refine lv_aload_n hC.1 hC.2.1 dX12_change_0 rfl (lv_at hl 0 rfl) ?_
  refine lv_iload_n hC.1 hC.2.1 dX12_change_1 rfl (lv_at hl 1 rfl) ?_
  obtain ⟨r1, hq2, hf⟩ := o_b hf
  refine mw_cVi (As := [.int p1]) (rest := []) hC hM (mcX12_isVoter V l M p1 r1 hq2) (mw_kV hC q_1277 q_1279 q_45 q_120 q_1280 ⟨rfl, rfl⟩ kV_X12_isVoter ⟨Nat.le_of_ble_eq_true rfl, Nat.le_of_ble_eq_true rfl⟩) (Nat.le_of_ble_eq_true rfl) (eR_0 V) rfl rfl rfl (Nat.le_of_ble_eq_true rfl) hl.1 dX12_change_2 (fun H locs hM hb3 => ?_)
  refine lv_if_eq (tgt := 32) hC.1 hC.2.1 dX12_change_5 (by decide) (fun hc9 => ?_) (fun hc9 => ?_)
  · have hf := o_t hc9 hf
    refine lv_iconst hC.1 hC.2.1 dX12_change_32 ci_m1 ?_
    exact hret (o_r1 hf) (o_r2 hf hM) dX12_change_33
  · have hf := o_f hc9 hf
    refine lv_iload_n hC.1 hC.2.1 dX12_change_8 rfl (lv_at hl 2 rfl) ?_
    refine lv_iload_n hC.1 hC.2.1 dX12_change_9 rfl (lv_at hl 3 rfl) ?_
    refine mw_cSi (As := [.int p2, .int p3]) (rest := []) hC hM (mcX12_mayBe V l M p2 p3 _ rfl) (mw_kS hC q_1260 q_1261 q_120 q_1262 ⟨rfl, rfl⟩ kS_X12_mayBe ⟨Nat.le_of_ble_eq_true rfl, Nat.le_of_ble_eq_true rfl⟩) rfl rfl (Nat.le_of_ble_eq_true rfl) hl.1 dX12_change_10 (fun H locs hM hb4 => ?_)
    refine lv_if_eq (tgt := 32) hC.1 hC.2.1 dX12_change_13 (by decide) (fun hc8 => ?_) (fun hc8 => ?_)
    · have hf := o_t hc8 hf
      refine lv_iconst hC.1 hC.2.1 dX12_change_32 ci_m1 ?_
      exact hret (o_r1 hf) (o_r2 hf hM) dX12_change_33
    · have hf := o_f hc8 hf
      refine lv_aload_n hC.1 hC.2.1 dX12_change_16 rfl (lv_at hl 0 rfl) ?_
      refine lv_bipush hC.1 hC.2.1 dX12_change_17 cb_8 ?_
      refine lv_iconst hC.1 hC.2.1 dX12_change_19 ci_5 ?_
      refine lv_iload_n hC.1 hC.2.1 dX12_change_20 rfl (lv_at hl 1 rfl) ?_
      refine lv_imul hC.1 hC.2.1 dX12_change_21 ?_
      refine lv_iadd hC.1 hC.2.1 dX12_change_22 ?_
      refine lv_iload_n hC.1 hC.2.1 dX12_change_23 rfl (lv_at hl 2 rfl) ?_
      refine lv_iadd hC.1 hC.2.1 dX12_change_24 ?_
      refine lv_iload_n hC.1 hC.2.1 dX12_change_25 rfl (lv_at hl 3 rfl) ?_
      obtain ⟨r5, M7, hq6, hf⟩ := o_b2 hf
      refine mw_cVi (As := [.int ((8 + (5 * p1)) + p2), .int p3]) (rest := []) hC hM (mcX12_becomes V l M ((8 + (5 * p1)) + p2) p3 r5 M7 hq6) (mw_kV hC q_1324 q_1326 q_53 q_120 q_1327 ⟨rfl, rfl⟩ kV_X12_becomes ⟨Nat.le_of_ble_eq_true rfl, Nat.le_of_ble_eq_true rfl⟩) (Nat.le_of_ble_eq_true rfl) (eR_0 V) rfl rfl rfl (Nat.le_of_ble_eq_true rfl) hl.1 dX12_change_26 (fun H locs hM _ => ?_)
      refine lv_goto (tgt := 33) hC.1 hC.2.1 dX12_change_29 (by decide) ?_
      exact hret (o_r1 hf) (o_r2 hf hM) dX12_change_33
set_option maxHeartbeats 4000000 in
set_option maxRecDepth 100000 in
theorem mcX12_remake (V : mV) (l : Launch) (M : mM) (p1 : Int32) (p2 : Int32) (r : Int32) (M' : mM) (hf : fX12_remake M p1 p2 = some (r, M')) : IR V l yX12_remake cX12_remake 3 ({ frames := 2, cells := 0, slots := 0, locals := 46 } : Room) [.ref (mvA V 0), .int p1, .int p2] M r M' := by
  unfold fX12_remake at hf
  refine mw_enterI RX12 rfl (by decide +kernel) (Nat.le_of_ble_eq_true rfl) (fun {p e s m args below meth c} ls A Q hC hret hM hl => ?_)
  have hl : lv_has ls 3 [(0, .ref (mvA V 0)), (1, .int p1), (2, .int p2)] := hl
  refine lv_aload_n hC.1 hC.2.1 dX12_remake_0 rfl (lv_at hl 0 rfl) ?_
  refine lv_iload_n hC.1 hC.2.1 dX12_remake_1 rfl (lv_at hl 1 rfl) ?_
  obtain ⟨r1, hq2, hf⟩ := o_b hf
  refine mw_cVi (As := [.int p1]) (rest := []) hC hM (mcX12_isVoter V l M p1 r1 hq2) (mw_kV hC q_1277 q_1279 q_45 q_120 q_1280 ⟨rfl, rfl⟩ kV_X12_isVoter ⟨Nat.le_of_ble_eq_true rfl, Nat.le_of_ble_eq_true rfl⟩) (Nat.le_of_ble_eq_true rfl) (eR_0 V) rfl rfl rfl (Nat.le_of_ble_eq_true rfl) hl.1 dX12_remake_2 (fun H locs hM hb3 => ?_)
  refine lv_if_eq (tgt := 29) hC.1 hC.2.1 dX12_remake_5 (by decide) (fun hc9 => ?_) (fun hc9 => ?_)
  · have hf := o_t hc9 hf
    refine lv_iconst hC.1 hC.2.1 dX12_remake_29 ci_m1 ?_
    exact hret (o_r1 hf) (o_r2 hf hM) dX12_remake_30
  · have hf := o_f hc9 hf
    refine lv_iload_n hC.1 hC.2.1 dX12_remake_8 rfl (lv_at hl 2 rfl) ?_
    refine mw_cSi (As := [.int p2]) (rest := []) hC hM (mcX12_isKind V l M p2 _ rfl) (mw_kS hC q_1253 q_1254 q_120 q_1255 ⟨rfl, rfl⟩ kS_X12_isKind ⟨Nat.le_of_ble_eq_true rfl, Nat.le_of_ble_eq_true rfl⟩) rfl rfl (Nat.le_of_ble_eq_true rfl) hl.1 dX12_remake_9 (fun H locs hM hb4 => ?_)
    refine lv_if_eq (tgt := 29) hC.1 hC.2.1 dX12_remake_12 (by decide) (fun hc8 => ?_) (fun hc8 => ?_)
    · have hf := o_t hc8 hf
      refine lv_iconst hC.1 hC.2.1 dX12_remake_29 ci_m1 ?_
      exact hret (o_r1 hf) (o_r2 hf hM) dX12_remake_30
    · have hf := o_f hc8 hf
      refine lv_aload_n hC.1 hC.2.1 dX12_remake_15 rfl (lv_at hl 0 rfl) ?_
      refine lv_bipush hC.1 hC.2.1 dX12_remake_16 cb_8 ?_
      refine lv_iconst hC.1 hC.2.1 dX12_remake_18 ci_5 ?_
      refine lv_iload_n hC.1 hC.2.1 dX12_remake_19 rfl (lv_at hl 1 rfl) ?_
      refine lv_imul hC.1 hC.2.1 dX12_remake_20 ?_
      refine lv_iadd hC.1 hC.2.1 dX12_remake_21 ?_
      refine lv_iload_n hC.1 hC.2.1 dX12_remake_22 rfl (lv_at hl 2 rfl) ?_
      obtain ⟨r5, M7, hq6, hf⟩ := o_b2 hf
      refine mw_cVi (As := [.int (8 + (5 * p1)), .int p2]) (rest := []) hC hM (mcX12_becomes V l M (8 + (5 * p1)) p2 r5 M7 hq6) (mw_kV hC q_1324 q_1326 q_53 q_120 q_1327 ⟨rfl, rfl⟩ kV_X12_becomes ⟨Nat.le_of_ble_eq_true rfl, Nat.le_of_ble_eq_true rfl⟩) (Nat.le_of_ble_eq_true rfl) (eR_0 V) rfl rfl rfl (Nat.le_of_ble_eq_true rfl) hl.1 dX12_remake_23 (fun H locs hM _ => ?_)
      refine lv_goto (tgt := 30) hC.1 hC.2.1 dX12_remake_26 (by decide) ?_
      exact hret (o_r1 hf) (o_r2 hf hM) dX12_remake_30
set_option maxHeartbeats 4000000 in
set_option maxRecDepth 100000 in
theorem mcX12_wakes (V : mV) (l : Launch) (M : mM) (p1 : Int32) (p2 : Int32) (r : Int32) (M' : mM) (hf : fX12_wakes M p1 p2 = some (r, M')) : IR V l yX12_wakes cX12_wakes 3 ({ frames := 2, cells := 0, slots := 0, locals := 46 } : Room) [.ref (mvA V 0), .int p1, .int p2] M r M' := by
  unfold fX12_wakes at hf
  refine mw_enterI RX12 rfl (by decide +kernel) (Nat.le_of_ble_eq_true rfl) (fun {p e s m args below meth c} ls A Q hC hret hM hl => ?_)
  have hl : lv_has ls 3 [(0, .ref (mvA V 0)), (1, .int p1), (2, .int p2)] := hl
  refine lv_aload_n hC.1 hC.2.1 dX12_wakes_0 rfl (lv_at hl 0 rfl) ?_
  refine lv_iload_n hC.1 hC.2.1 dX12_wakes_1 rfl (lv_at hl 1 rfl) ?_
  obtain ⟨r1, hq2, hf⟩ := o_b hf
  refine mw_cVi (As := [.int p1]) (rest := []) hC hM (mcX12_isVoter V l M p1 r1 hq2) (mw_kV hC q_1277 q_1279 q_45 q_120 q_1280 ⟨rfl, rfl⟩ kV_X12_isVoter ⟨Nat.le_of_ble_eq_true rfl, Nat.le_of_ble_eq_true rfl⟩) (Nat.le_of_ble_eq_true rfl) (eR_0 V) rfl rfl rfl (Nat.le_of_ble_eq_true rfl) hl.1 dX12_wakes_2 (fun H locs hM hb3 => ?_)
  refine lv_if_eq (tgt := 32) hC.1 hC.2.1 dX12_wakes_5 (by decide) (fun hc11 => ?_) (fun hc11 => ?_)
  · have hf := o_t hc11 hf
    refine lv_iconst hC.1 hC.2.1 dX12_wakes_32 ci_m1 ?_
    exact hret (o_r1 hf) (o_r2 hf hM) dX12_wakes_33
  · have hf := o_f hc11 hf
    refine lv_aload_n hC.1 hC.2.1 dX12_wakes_8 rfl (lv_at hl 0 rfl) ?_
    refine lv_bipush hC.1 hC.2.1 dX12_wakes_9 cb_8 ?_
    refine lv_iconst hC.1 hC.2.1 dX12_wakes_11 ci_5 ?_
    refine lv_iload_n hC.1 hC.2.1 dX12_wakes_12 rfl (lv_at hl 1 rfl) ?_
    refine lv_imul hC.1 hC.2.1 dX12_wakes_13 ?_
    refine lv_iadd hC.1 hC.2.1 dX12_wakes_14 ?_
    refine lv_iconst hC.1 hC.2.1 dX12_wakes_15 ci_4 ?_
    refine lv_iadd hC.1 hC.2.1 dX12_wakes_16 ?_
    refine lv_iload_n hC.1 hC.2.1 dX12_wakes_17 rfl (lv_at hl 2 rfl) ?_
    refine lv_if_eq (tgt := 25) hC.1 hC.2.1 dX12_wakes_18 (by decide) (fun hc10 => ?_) (fun hc10 => ?_)
    · have hf := o_t hc10 hf
      refine lv_iconst hC.1 hC.2.1 dX12_wakes_25 ci_0 ?_
      obtain ⟨r4, M6, hq5, hf⟩ := o_b2 hf
      refine mw_cVi (As := [.int ((8 + (5 * p1)) + 4), .int 0]) (rest := []) hC hM (mcX12_becomes V l M ((8 + (5 * p1)) + 4) 0 r4 M6 hq5) (mw_kV hC q_1324 q_1326 q_53 q_120 q_1327 ⟨rfl, rfl⟩ kV_X12_becomes ⟨Nat.le_of_ble_eq_true rfl, Nat.le_of_ble_eq_true rfl⟩) (Nat.le_of_ble_eq_true rfl) (eR_0 V) rfl rfl rfl (Nat.le_of_ble_eq_true rfl) hl.1 dX12_wakes_26 (fun H locs hM _ => ?_)
      refine lv_goto (tgt := 33) hC.1 hC.2.1 dX12_wakes_29 (by decide) ?_
      exact hret (o_r1 hf) (o_r2 hf hM) dX12_wakes_33
    · have hf := o_f hc10 hf
      refine lv_iconst hC.1 hC.2.1 dX12_wakes_21 ci_1 ?_
      refine lv_goto (tgt := 26) hC.1 hC.2.1 dX12_wakes_22 (by decide) ?_
      obtain ⟨r7, M9, hq8, hf⟩ := o_b2 hf
      refine mw_cVi (As := [.int ((8 + (5 * p1)) + 4), .int 1]) (rest := []) hC hM (mcX12_becomes V l M ((8 + (5 * p1)) + 4) 1 r7 M9 hq8) (mw_kV hC q_1324 q_1326 q_53 q_120 q_1327 ⟨rfl, rfl⟩ kV_X12_becomes ⟨Nat.le_of_ble_eq_true rfl, Nat.le_of_ble_eq_true rfl⟩) (Nat.le_of_ble_eq_true rfl) (eR_0 V) rfl rfl rfl (Nat.le_of_ble_eq_true rfl) hl.1 dX12_wakes_26 (fun H locs hM _ => ?_)
      refine lv_goto (tgt := 33) hC.1 hC.2.1 dX12_wakes_29 (by decide) ?_
      exact hret (o_r1 hf) (o_r2 hf hM) dX12_wakes_33
