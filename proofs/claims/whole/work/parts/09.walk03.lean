set_option maxHeartbeats 4000000 in
set_option maxRecDepth 100000 in
theorem mcX5_cutWords (V : mV) (l : Launch) (M : mM) (r : Int32) (M' : mM) (hf : fX5_cutWords M = some (r, M')) : UC V l yX5_cutWords cX5_cutWords 4 ({ frames := 11, cells := 0, slots := 0, locals := 347 } : Room) [.ref (mvA V 33)] M M' := by
  unfold fX5_cutWords at hf
  refine mw_enterV RX5 rfl (by decide +kernel) (Nat.le_of_ble_eq_true rfl) (fun {p e s m args below meth c} ls A Q hC hret hM hl => ?_)
  have hl : lv_has ls 4 [(0, .ref (mvA V 33))] := hl
  have hL7 : ∀ (n : Nat) (M : mM) (x2 : Int32) (H : Heap) (locs : List Loc) (ls : Array Slot), fX5_cutWords_L7 n M x2 = some (r, M') → PC V M A s H locs → lv_has ls 4 [(0, .ref (mvA V 33)), (2, .int x2)] → W p l e ({ frames := 11, cells := 0, slots := 0, locals := 347 } : Room) s m args below meth c H locs 0 0 Q (F0 m 7 ls []) := by
    intro n5
    induction n5 with
    | zero => intro M x2 H locs ls hf; cases hf
    | succ n5 ih5 =>
      intro M x2 H locs ls hf hM hl
      have hf : fX5_cutWords_L7_b (fX5_cutWords_L7 n5) M x2 = some (r, M') := hf
      unfold fX5_cutWords_L7_b at hf
      have hL131 : ∀ (M : mM) (x1 : Int32) (x2 : Int32) (H : Heap) (locs : List Loc) (ls : Array Slot), fX5_cutWords_L131 (fX5_cutWords_L7 n5) M x1 x2 = some (r, M') → PC V M A s H locs → lv_has ls 4 [(0, .ref (mvA V 33)), (1, .int x1), (2, .int x2)] → W p l e ({ frames := 11, cells := 0, slots := 0, locals := 347 } : Room) s m args below meth c H locs 0 0 Q (F0 m 131 ls []) := by
        intro M x1 x2 H locs ls hf hM hl
        unfold fX5_cutWords_L131 at hf
        refine lv_aload_n hC.1 hC.2.1 dX5_cutWords_131 rfl (lv_at hl 0 rfl) ?_
        refine lv_iload_n hC.1 hC.2.1 dX5_cutWords_132 rfl (lv_at hl 2 rfl) ?_
        refine lv_iload_n hC.1 hC.2.1 dX5_cutWords_133 rfl (lv_at hl 1 rfl) ?_
        obtain ⟨r25, M27, hq26, hf⟩ := o_b2 hf
        refine mw_cVv (As := [.int x2, .int x1]) (rest := []) hC hM (mcX5_addNumber V l M x2 x1 r25 M27 hq26) (mw_kV hC q_673 q_675 q_10 q_111 q_676 ⟨rfl, rfl⟩ kV_X5_addNumber ⟨Nat.le_of_ble_eq_true rfl, Nat.le_of_ble_eq_true rfl⟩) (Nat.le_of_ble_eq_true rfl) (eC_33 V) rfl rfl rfl (Nat.le_of_ble_eq_true rfl) hl.1 dX5_cutWords_134 (fun H locs hM => ?_)
        refine lv_goto (tgt := 167) hC.1 hC.2.1 dX5_cutWords_137 (by decide) ?_
        refine lv_iload_n hC.1 hC.2.1 dX5_cutWords_167 rfl (lv_at hl 1 rfl) ?_
        refine lv_istore_n (lv' := [(2, .int x1), (0, .ref (mvA V 33)), (1, .int x1)]) hC.1 hC.2.1 dX5_cutWords_168 rfl hl (Nat.le_of_ble_eq_true rfl) rfl (fun ls hl => ?_)
        refine lv_goto (tgt := 7) hC.1 hC.2.1 dX5_cutWords_169 (by decide) ?_
        exact ih5 _ _ _ _ _ hf hM (lv_sub hl [1, 0] rfl)
      have hL105 : ∀ (n : Nat) (M : mM) (x1 : Int32) (x2 : Int32) (H : Heap) (locs : List Loc) (ls : Array Slot), fX5_cutWords_L105 (fX5_cutWords_L7 n5) n M x1 x2 = some (r, M') → PC V M A s H locs → lv_has ls 4 [(0, .ref (mvA V 33)), (1, .int x1), (2, .int x2)] → W p l e ({ frames := 11, cells := 0, slots := 0, locals := 347 } : Room) s m args below meth c H locs 0 0 Q (F0 m 105 ls []) := by
        intro n57
        induction n57 with
        | zero => intro M x1 x2 H locs ls hf; cases hf
        | succ n57 ih57 =>
          intro M x1 x2 H locs ls hf hM hl
          have hf : fX5_cutWords_L105_b (fX5_cutWords_L7 n5) (fX5_cutWords_L105 (fX5_cutWords_L7 n5) n57) M x1 x2 = some (r, M') := hf
          unfold fX5_cutWords_L105_b at hf
          refine lv_iload_n hC.1 hC.2.1 dX5_cutWords_105 rfl (lv_at hl 1 rfl) ?_
          refine lv_aload_n hC.1 hC.2.1 dX5_cutWords_106 rfl (lv_at hl 0 rfl) ?_
          refine mw_get (v := .int (M 33 0)) hC hM 33 (Nat.le_of_ble_eq_true rfl) (eC_33 V) inW5 rfl 0 (by decide) q_275 (fun _ h9 => h9) rfl dX5_cutWords_107 ?_
          refine lv_icmp_ge (tgt := 131) hC.1 hC.2.1 dX5_cutWords_110 (by decide) (fun hc20 => ?_) (fun hc20 => ?_)
          · have hf := o_t hc20 hf
            exact hL131 _ _ _ _ _ _ hf hM (lv_sub hl [0, 1, 2] rfl)
          · have hf := o_f hc20 hf
            refine lv_aload_n hC.1 hC.2.1 dX5_cutWords_113 rfl (lv_at hl 0 rfl) ?_
            refine mw_get (v := .ref (mvA V 43)) hC hM 33 (Nat.le_of_ble_eq_true rfl) (eC_33 V) inW5 rfl 2 (by decide) q_279 (fun _ h9 => h9) rfl dX5_cutWords_114 ?_
            refine lv_iload_n hC.1 hC.2.1 dX5_cutWords_117 rfl (lv_at hl 1 rfl) ?_
            obtain ⟨hg17, hf⟩ := o_g hf
            refine mw_iald hC hM 43 0 (Nat.le_of_ble_eq_true rfl) (eC_43 V) rfl hg17 dX5_cutWords_118 ?_
            refine mw_cSi (As := [.int (M 43 (Int32.toNatClampNeg x1))]) (rest := []) hC hM (mcX5_isDigit V l M (M 43 (Int32.toNatClampNeg x1)) _ rfl) (mw_kS hC q_670 q_671 q_111 q_672 ⟨rfl, rfl⟩ kS_X5_isDigit ⟨Nat.le_of_ble_eq_true rfl, Nat.le_of_ble_eq_true rfl⟩) rfl rfl (Nat.le_of_ble_eq_true rfl) hl.1 dX5_cutWords_119 (fun H locs hM hb18 => ?_)
            refine lv_if_eq (tgt := 131) hC.1 hC.2.1 dX5_cutWords_122 (by decide) (fun hc19 => ?_) (fun hc19 => ?_)
            · have hf := o_t hc19 hf
              exact hL131 _ _ _ _ _ _ hf hM (lv_sub hl [0, 1, 2] rfl)
            · have hf := o_f hc19 hf
              refine lv_iinc (k := 1) (lv' := [(1, .int (x1 + 1)), (0, .ref (mvA V 33)), (2, .int x2)]) hC.1 hC.2.1 dX5_cutWords_125 hl rfl (inc_1 _) (Nat.le_of_ble_eq_true rfl) rfl (fun ls hl => ?_)
              refine lv_goto (tgt := 105) hC.1 hC.2.1 dX5_cutWords_128 (by decide) ?_
              exact ih57 _ _ _ _ _ _ hf hM (lv_sub hl [1, 0, 2] rfl)
      have hL57 : ∀ (M : mM) (x1 : Int32) (x2 : Int32) (H : Heap) (locs : List Loc) (ls : Array Slot), fX5_cutWords_L57 (fX5_cutWords_L7 n5) M x1 x2 = some (r, M') → PC V M A s H locs → lv_has ls 4 [(0, .ref (mvA V 33)), (1, .int x1), (2, .int x2)] → W p l e ({ frames := 11, cells := 0, slots := 0, locals := 347 } : Room) s m args below meth c H locs 0 0 Q (F0 m 57 ls []) := by
        intro M x1 x2 H locs ls hf hM hl
        unfold fX5_cutWords_L57 at hf
        refine lv_aload_n hC.1 hC.2.1 dX5_cutWords_57 rfl (lv_at hl 0 rfl) ?_
        refine lv_iload_n hC.1 hC.2.1 dX5_cutWords_58 rfl (lv_at hl 2 rfl) ?_
        refine lv_iload_n hC.1 hC.2.1 dX5_cutWords_59 rfl (lv_at hl 1 rfl) ?_
        obtain ⟨r28, hq29, hf⟩ := o_b hf
        refine mw_cVi (As := [.int x2, .int x1]) (rest := []) hC hM (mcX5_nameAt V l M x2 x1 r28 hq29) (mw_kV hC q_591 q_593 q_7 q_111 q_594 ⟨rfl, rfl⟩ kV_X5_nameAt ⟨Nat.le_of_ble_eq_true rfl, Nat.le_of_ble_eq_true rfl⟩) (Nat.le_of_ble_eq_true rfl) (eC_33 V) rfl rfl rfl (Nat.le_of_ble_eq_true rfl) hl.1 dX5_cutWords_60 (fun H locs hM _ => ?_)
        refine lv_istore_n (lv' := [(3, .int r28), (0, .ref (mvA V 33)), (1, .int x1), (2, .int x2)]) hC.1 hC.2.1 dX5_cutWords_63 rfl hl (Nat.le_of_ble_eq_true rfl) rfl (fun ls hl => ?_)
        refine lv_aload_n hC.1 hC.2.1 dX5_cutWords_64 rfl (lv_at hl 1 rfl) ?_
        refine lv_iload_n hC.1 hC.2.1 dX5_cutWords_65 rfl (lv_at hl 0 rfl) ?_
        refine lv_iload_n hC.1 hC.2.1 dX5_cutWords_66 rfl (lv_at hl 3 rfl) ?_
        refine lv_iload_n hC.1 hC.2.1 dX5_cutWords_67 rfl (lv_at hl 0 rfl) ?_
        refine lv_bipush hC.1 hC.2.1 dX5_cutWords_68 cb_10 ?_
        refine lv_bipush hC.1 hC.2.1 dX5_cutWords_70 cb_14 ?_
        refine mw_cNi (As := [.int r28, .int 10, .int 14]) (rest := [.int x2, .int r28, .ref (mvA V 33)]) hC hM (mcX11_isIn V l M r28 10 14 _ rfl) (mw_kN hC (mw_nw hC 1 rfl) q_469 q_107 q_470 ⟨rfl, rfl⟩ kS_X11_isIn ⟨Nat.le_of_ble_eq_true rfl, Nat.le_of_ble_eq_true rfl⟩) rfl rfl (Nat.le_of_ble_eq_true rfl) hl.1 dX5_cutWords_72 (fun H locs hM hb30 => ?_)
        refine lv_if_eq (tgt := 85) hC.1 hC.2.1 dX5_cutWords_75 (by decide) (fun hc37 => ?_) (fun hc37 => ?_)
        · have hf := o_t hc37 hf
          refine lv_bipush hC.1 hC.2.1 dX5_cutWords_85 cb_m3 ?_
          obtain ⟨r31, M33, hq32, hf⟩ := o_b2 hf
          refine mw_cVv (As := [.int r28, .int x2, .int (-3)]) (rest := []) hC hM (mcX5_addWord V l M r28 x2 (-3) r31 M33 hq32) (mw_kV hC q_666 q_668 q_9 q_111 q_669 ⟨rfl, rfl⟩ kV_X5_addWord ⟨Nat.le_of_ble_eq_true rfl, Nat.le_of_ble_eq_true rfl⟩) (Nat.le_of_ble_eq_true rfl) (eC_33 V) rfl rfl rfl (Nat.le_of_ble_eq_true rfl) hl.1 dX5_cutWords_87 (fun H locs hM => ?_)
          refine lv_goto (tgt := 167) hC.1 hC.2.1 dX5_cutWords_90 (by decide) ?_
          refine lv_iload_n hC.1 hC.2.1 dX5_cutWords_167 rfl (lv_at hl 2 rfl) ?_
          refine lv_istore_n (lv' := [(2, .int x1), (3, .int r28), (0, .ref (mvA V 33)), (1, .int x1)]) hC.1 hC.2.1 dX5_cutWords_168 rfl hl (Nat.le_of_ble_eq_true rfl) rfl (fun ls hl => ?_)
          refine lv_goto (tgt := 7) hC.1 hC.2.1 dX5_cutWords_169 (by decide) ?_
          exact ih5 _ _ _ _ _ hf hM (lv_sub hl [2, 0] rfl)
        · have hf := o_f hc37 hf
          refine lv_iload_n hC.1 hC.2.1 dX5_cutWords_78 rfl (lv_at hl 0 rfl) ?_
          refine lv_bipush hC.1 hC.2.1 dX5_cutWords_79 cb_10 ?_
          refine lv_isub hC.1 hC.2.1 dX5_cutWords_81 ?_
          refine lv_goto (tgt := 87) hC.1 hC.2.1 dX5_cutWords_82 (by decide) ?_
          obtain ⟨r34, M36, hq35, hf⟩ := o_b2 hf
          refine mw_cVv (As := [.int r28, .int x2, .int (r28 - 10)]) (rest := []) hC hM (mcX5_addWord V l M r28 x2 (r28 - 10) r34 M36 hq35) (mw_kV hC q_666 q_668 q_9 q_111 q_669 ⟨rfl, rfl⟩ kV_X5_addWord ⟨Nat.le_of_ble_eq_true rfl, Nat.le_of_ble_eq_true rfl⟩) (Nat.le_of_ble_eq_true rfl) (eC_33 V) rfl rfl rfl (Nat.le_of_ble_eq_true rfl) hl.1 dX5_cutWords_87 (fun H locs hM => ?_)
          refine lv_goto (tgt := 167) hC.1 hC.2.1 dX5_cutWords_90 (by decide) ?_
          refine lv_iload_n hC.1 hC.2.1 dX5_cutWords_167 rfl (lv_at hl 2 rfl) ?_
          refine lv_istore_n (lv' := [(2, .int x1), (3, .int r28), (0, .ref (mvA V 33)), (1, .int x1)]) hC.1 hC.2.1 dX5_cutWords_168 rfl hl (Nat.le_of_ble_eq_true rfl) rfl (fun ls hl => ?_)
          refine lv_goto (tgt := 7) hC.1 hC.2.1 dX5_cutWords_169 (by decide) ?_
          exact ih5 _ _ _ _ _ hf hM (lv_sub hl [2, 0] rfl)
      have hL31 : ∀ (n : Nat) (M : mM) (x1 : Int32) (x2 : Int32) (H : Heap) (locs : List Loc) (ls : Array Slot), fX5_cutWords_L31 (fX5_cutWords_L7 n5) n M x1 x2 = some (r, M') → PC V M A s H locs → lv_has ls 4 [(0, .ref (mvA V 33)), (1, .int x1), (2, .int x2)] → W p l e ({ frames := 11, cells := 0, slots := 0, locals := 347 } : Room) s m args below meth c H locs 0 0 Q (F0 m 31 ls []) := by
        intro n19
        induction n19 with
        | zero => intro M x1 x2 H locs ls hf; cases hf
        | succ n19 ih19 =>
          intro M x1 x2 H locs ls hf hM hl
          have hf : fX5_cutWords_L31_b (fX5_cutWords_L7 n5) (fX5_cutWords_L31 (fX5_cutWords_L7 n5) n19) M x1 x2 = some (r, M') := hf
          unfold fX5_cutWords_L31_b at hf
          refine lv_iload_n hC.1 hC.2.1 dX5_cutWords_31 rfl (lv_at hl 1 rfl) ?_
          refine lv_aload_n hC.1 hC.2.1 dX5_cutWords_32 rfl (lv_at hl 0 rfl) ?_
          refine mw_get (v := .int (M 33 0)) hC hM 33 (Nat.le_of_ble_eq_true rfl) (eC_33 V) inW5 rfl 0 (by decide) q_275 (fun _ h9 => h9) rfl dX5_cutWords_33 ?_
          refine lv_icmp_ge (tgt := 57) hC.1 hC.2.1 dX5_cutWords_36 (by decide) (fun hc24 => ?_) (fun hc24 => ?_)
          · have hf := o_t hc24 hf
            exact hL57 _ _ _ _ _ _ hf hM (lv_sub hl [0, 1, 2] rfl)
          · have hf := o_f hc24 hf
            refine lv_aload_n hC.1 hC.2.1 dX5_cutWords_39 rfl (lv_at hl 0 rfl) ?_
            refine mw_get (v := .ref (mvA V 43)) hC hM 33 (Nat.le_of_ble_eq_true rfl) (eC_33 V) inW5 rfl 2 (by decide) q_279 (fun _ h9 => h9) rfl dX5_cutWords_40 ?_
            refine lv_iload_n hC.1 hC.2.1 dX5_cutWords_43 rfl (lv_at hl 1 rfl) ?_
            obtain ⟨hg21, hf⟩ := o_g hf
            refine mw_iald hC hM 43 0 (Nat.le_of_ble_eq_true rfl) (eC_43 V) rfl hg21 dX5_cutWords_44 ?_
            refine mw_cSi (As := [.int (M 43 (Int32.toNatClampNeg x1))]) (rest := []) hC hM (mcX5_isLetter V l M (M 43 (Int32.toNatClampNeg x1)) _ rfl) (mw_kS hC q_588 q_589 q_111 q_590 ⟨rfl, rfl⟩ kS_X5_isLetter ⟨Nat.le_of_ble_eq_true rfl, Nat.le_of_ble_eq_true rfl⟩) rfl rfl (Nat.le_of_ble_eq_true rfl) hl.1 dX5_cutWords_45 (fun H locs hM hb22 => ?_)
            refine lv_if_eq (tgt := 57) hC.1 hC.2.1 dX5_cutWords_48 (by decide) (fun hc23 => ?_) (fun hc23 => ?_)
            · have hf := o_t hc23 hf
              exact hL57 _ _ _ _ _ _ hf hM (lv_sub hl [0, 1, 2] rfl)
            · have hf := o_f hc23 hf
              refine lv_iinc (k := 1) (lv' := [(1, .int (x1 + 1)), (0, .ref (mvA V 33)), (2, .int x2)]) hC.1 hC.2.1 dX5_cutWords_51 hl rfl (inc_1 _) (Nat.le_of_ble_eq_true rfl) rfl (fun ls hl => ?_)
              refine lv_goto (tgt := 31) hC.1 hC.2.1 dX5_cutWords_54 (by decide) ?_
              exact ih19 _ _ _ _ _ _ hf hM (lv_sub hl [1, 0, 2] rfl)
      refine lv_iload_n hC.1 hC.2.1 dX5_cutWords_7 rfl (lv_at hl 1 rfl) ?_
      refine lv_aload_n hC.1 hC.2.1 dX5_cutWords_8 rfl (lv_at hl 0 rfl) ?_
      refine mw_get (v := .int (M 33 0)) hC hM 33 (Nat.le_of_ble_eq_true rfl) (eC_33 V) inW5 rfl 0 (by decide) q_275 (fun _ h9 => h9) rfl dX5_cutWords_9 ?_
      refine lv_icmp_ge (tgt := 172) hC.1 hC.2.1 dX5_cutWords_12 (by decide) (fun hc16 => ?_) (fun hc16 => ?_)
      · have hf := o_t hc16 hf
        refine lv_aload_n hC.1 hC.2.1 dX5_cutWords_172 rfl (lv_at hl 0 rfl) ?_
        refine lv_bipush hC.1 hC.2.1 dX5_cutWords_173 cb_40 ?_
        refine lv_aload_n hC.1 hC.2.1 dX5_cutWords_175 rfl (lv_at hl 0 rfl) ?_
        refine mw_get (v := .int (M 33 0)) hC hM 33 (Nat.le_of_ble_eq_true rfl) (eC_33 V) inW5 rfl 0 (by decide) q_275 (fun _ h9 => h9) rfl dX5_cutWords_176 ?_
        refine lv_bipush hC.1 hC.2.1 dX5_cutWords_179 cb_m3 ?_
        obtain ⟨r1, M3, hq2, hf⟩ := o_b2 hf
        refine mw_cVv (As := [.int 40, .int (M 33 0), .int (-3)]) (rest := []) hC hM (mcX5_addWord V l M 40 (M 33 0) (-3) r1 M3 hq2) (mw_kV hC q_666 q_668 q_9 q_111 q_669 ⟨rfl, rfl⟩ kV_X5_addWord ⟨Nat.le_of_ble_eq_true rfl, Nat.le_of_ble_eq_true rfl⟩) (Nat.le_of_ble_eq_true rfl) (eC_33 V) rfl rfl rfl (Nat.le_of_ble_eq_true rfl) hl.1 dX5_cutWords_181 (fun H locs hM => ?_)
        exact hret (o_r2 hf hM) dX5_cutWords_184
      · have hf := o_f hc16 hf
        refine lv_iload_n hC.1 hC.2.1 dX5_cutWords_15 rfl (lv_at hl 1 rfl) ?_
        refine lv_iconst hC.1 hC.2.1 dX5_cutWords_16 ci_1 ?_
        refine lv_iadd hC.1 hC.2.1 dX5_cutWords_17 ?_
        refine lv_istore_n (lv' := [(1, .int (x2 + 1)), (0, .ref (mvA V 33)), (2, .int x2)]) hC.1 hC.2.1 dX5_cutWords_18 rfl hl (Nat.le_of_ble_eq_true rfl) rfl (fun ls hl => ?_)
        refine lv_aload_n hC.1 hC.2.1 dX5_cutWords_19 rfl (lv_at hl 1 rfl) ?_
        refine mw_get (v := .ref (mvA V 43)) hC hM 33 (Nat.le_of_ble_eq_true rfl) (eC_33 V) inW5 rfl 2 (by decide) q_279 (fun _ h9 => h9) rfl dX5_cutWords_20 ?_
        refine lv_iload_n hC.1 hC.2.1 dX5_cutWords_23 rfl (lv_at hl 2 rfl) ?_
        obtain ⟨hg4, hf⟩ := o_g hf
        refine mw_iald hC hM 43 0 (Nat.le_of_ble_eq_true rfl) (eC_43 V) rfl hg4 dX5_cutWords_24 ?_
        refine mw_cSi (As := [.int (M 43 (Int32.toNatClampNeg x2))]) (rest := []) hC hM (mcX5_isLetter V l M (M 43 (Int32.toNatClampNeg x2)) _ rfl) (mw_kS hC q_588 q_589 q_111 q_590 ⟨rfl, rfl⟩ kS_X5_isLetter ⟨Nat.le_of_ble_eq_true rfl, Nat.le_of_ble_eq_true rfl⟩) rfl rfl (Nat.le_of_ble_eq_true rfl) hl.1 dX5_cutWords_25 (fun H locs hM hb5 => ?_)
        refine lv_if_eq (tgt := 93) hC.1 hC.2.1 dX5_cutWords_28 (by decide) (fun hc15 => ?_) (fun hc15 => ?_)
        · have hf := o_t hc15 hf
          refine lv_aload_n hC.1 hC.2.1 dX5_cutWords_93 rfl (lv_at hl 1 rfl) ?_
          refine mw_get (v := .ref (mvA V 43)) hC hM 33 (Nat.le_of_ble_eq_true rfl) (eC_33 V) inW5 rfl 2 (by decide) q_279 (fun _ h9 => h9) rfl dX5_cutWords_94 ?_
          refine lv_iload_n hC.1 hC.2.1 dX5_cutWords_97 rfl (lv_at hl 2 rfl) ?_
          obtain ⟨hg6, hf⟩ := o_g hf
          refine mw_iald hC hM 43 0 (Nat.le_of_ble_eq_true rfl) (eC_43 V) rfl hg6 dX5_cutWords_98 ?_
          refine mw_cSi (As := [.int (M 43 (Int32.toNatClampNeg x2))]) (rest := []) hC hM (mcX5_isDigit V l M (M 43 (Int32.toNatClampNeg x2)) _ rfl) (mw_kS hC q_670 q_671 q_111 q_672 ⟨rfl, rfl⟩ kS_X5_isDigit ⟨Nat.le_of_ble_eq_true rfl, Nat.le_of_ble_eq_true rfl⟩) rfl rfl (Nat.le_of_ble_eq_true rfl) hl.1 dX5_cutWords_99 (fun H locs hM hb7 => ?_)
          refine lv_if_eq (tgt := 140) hC.1 hC.2.1 dX5_cutWords_102 (by decide) (fun hc14 => ?_) (fun hc14 => ?_)
          · have hf := o_t hc14 hf
            refine lv_aload_n hC.1 hC.2.1 dX5_cutWords_140 rfl (lv_at hl 1 rfl) ?_
            refine mw_get (v := .ref (mvA V 43)) hC hM 33 (Nat.le_of_ble_eq_true rfl) (eC_33 V) inW5 rfl 2 (by decide) q_279 (fun _ h9 => h9) rfl dX5_cutWords_141 ?_
            refine lv_iload_n hC.1 hC.2.1 dX5_cutWords_144 rfl (lv_at hl 2 rfl) ?_
            obtain ⟨hg8, hf⟩ := o_g hf
            refine mw_iald hC hM 43 0 (Nat.le_of_ble_eq_true rfl) (eC_43 V) rfl hg8 dX5_cutWords_145 ?_
            refine lv_bipush hC.1 hC.2.1 dX5_cutWords_146 cb_32 ?_
            refine lv_icmp_eq (tgt := 167) hC.1 hC.2.1 dX5_cutWords_148 (by decide) (fun hc13 => ?_) (fun hc13 => ?_)
            · have hf := o_t hc13 hf
              refine lv_iload_n hC.1 hC.2.1 dX5_cutWords_167 rfl (lv_at hl 0 rfl) ?_
              refine lv_istore_n (lv' := [(2, .int (x2 + 1)), (1, .int (x2 + 1)), (0, .ref (mvA V 33))]) hC.1 hC.2.1 dX5_cutWords_168 rfl hl (Nat.le_of_ble_eq_true rfl) rfl (fun ls hl => ?_)
              refine lv_goto (tgt := 7) hC.1 hC.2.1 dX5_cutWords_169 (by decide) ?_
              exact ih5 _ _ _ _ _ hf hM (lv_sub hl [2, 0] rfl)
            · have hf := o_f hc13 hf
              refine lv_aload_n hC.1 hC.2.1 dX5_cutWords_151 rfl (lv_at hl 1 rfl) ?_
              refine lv_aload_n hC.1 hC.2.1 dX5_cutWords_152 rfl (lv_at hl 1 rfl) ?_
              refine mw_get (v := .ref (mvA V 43)) hC hM 33 (Nat.le_of_ble_eq_true rfl) (eC_33 V) inW5 rfl 2 (by decide) q_279 (fun _ h9 => h9) rfl dX5_cutWords_153 ?_
              refine lv_iload_n hC.1 hC.2.1 dX5_cutWords_156 rfl (lv_at hl 2 rfl) ?_
              obtain ⟨hg9, hf⟩ := o_g hf
              refine mw_iald hC hM 43 0 (Nat.le_of_ble_eq_true rfl) (eC_43 V) rfl hg9 dX5_cutWords_157 ?_
              refine mw_cSi (As := [.int (M 43 (Int32.toNatClampNeg x2))]) (rest := [.ref (mvA V 33)]) hC hM (mcX5_signOf V l M (M 43 (Int32.toNatClampNeg x2)) _ rfl) (mw_kS hC q_681 q_682 q_111 q_683 ⟨rfl, rfl⟩ kS_X5_signOf ⟨Nat.le_of_ble_eq_true rfl, Nat.le_of_ble_eq_true rfl⟩) rfl rfl (Nat.le_of_ble_eq_true rfl) hl.1 dX5_cutWords_158 (fun H locs hM _ => ?_)
              refine lv_iload_n hC.1 hC.2.1 dX5_cutWords_161 rfl (lv_at hl 2 rfl) ?_
              refine lv_bipush hC.1 hC.2.1 dX5_cutWords_162 cb_m3 ?_
              obtain ⟨r10, M12, hq11, hf⟩ := o_b2 hf
              refine mw_cVv (As := [.int (fX5_signOf (M 43 (Int32.toNatClampNeg x2))), .int x2, .int (-3)]) (rest := []) hC hM (mcX5_addWord V l M (fX5_signOf (M 43 (Int32.toNatClampNeg x2))) x2 (-3) r10 M12 hq11) (mw_kV hC q_666 q_668 q_9 q_111 q_669 ⟨rfl, rfl⟩ kV_X5_addWord ⟨Nat.le_of_ble_eq_true rfl, Nat.le_of_ble_eq_true rfl⟩) (Nat.le_of_ble_eq_true rfl) (eC_33 V) rfl rfl rfl (Nat.le_of_ble_eq_true rfl) hl.1 dX5_cutWords_164 (fun H locs hM => ?_)
              refine lv_iload_n hC.1 hC.2.1 dX5_cutWords_167 rfl (lv_at hl 0 rfl) ?_
              refine lv_istore_n (lv' := [(2, .int (x2 + 1)), (1, .int (x2 + 1)), (0, .ref (mvA V 33))]) hC.1 hC.2.1 dX5_cutWords_168 rfl hl (Nat.le_of_ble_eq_true rfl) rfl (fun ls hl => ?_)
              refine lv_goto (tgt := 7) hC.1 hC.2.1 dX5_cutWords_169 (by decide) ?_
              exact ih5 _ _ _ _ _ hf hM (lv_sub hl [2, 0] rfl)
          · have hf := o_f hc14 hf
            exact hL105 _ _ _ _ _ _ _ hf hM (lv_sub hl [1, 0, 2] rfl)
        · have hf := o_f hc15 hf
          exact hL31 _ _ _ _ _ _ _ hf hM (lv_sub hl [1, 0, 2] rfl)
  refine lv_aload_n hC.1 hC.2.1 dX5_cutWords_0 rfl (lv_at hl 0 rfl) ?_
  refine lv_iconst hC.1 hC.2.1 dX5_cutWords_1 ci_0 ?_
  refine mw_put hC hM 33 (Nat.le_of_ble_eq_true rfl) (eC_33 V) inW5 tyX5 tyX5_ok nmX5 rfl 3 (by decide) q_280 (fun _ h9 => h9) rfl rfl rfl (Nat.le_of_ble_eq_true rfl) rfl dX5_cutWords_2 (fun H locs hM => ?_)
  refine lv_iconst hC.1 hC.2.1 dX5_cutWords_5 ci_0 ?_
  refine lv_istore_n (lv' := [(2, .int 0), (0, .ref (mvA V 33))]) hC.1 hC.2.1 dX5_cutWords_6 rfl hl (Nat.le_of_ble_eq_true rfl) rfl (fun ls hl => ?_)
  exact hL7 _ _ _ _ _ _ hf hM (lv_sub hl [1, 0] rfl)
set_option maxHeartbeats 4000000 in
set_option maxRecDepth 100000 in
theorem mcX5_goPast (V : mV) (l : Launch) (M : mM) (p1 : Int32) (r : Int32) (M' : mM) (hf : fX5_goPast M p1 = some (r, M')) : ZC V l yX5_goPast cX5_goPast 2 ({ frames := 0, cells := 0, slots := 0, locals := 0 } : Room) [.ref (mvA V 33), .int p1] M r M' := by
  unfold fX5_goPast at hf
  refine mw_enterZ RX5 rfl (by decide +kernel) (Nat.le_of_ble_eq_true rfl) (fun {p e s m args below meth c} ls A Q hC hret hM hl => ?_)
  have hl : lv_has ls 2 [(0, .ref (mvA V 33)), (1, .int p1)] := hl
  refine lv_aload_n hC.1 hC.2.1 dX5_goPast_0 rfl (lv_at hl 0 rfl) ?_
  refine mw_get (v := .ref (mvA V 44)) hC hM 33 (Nat.le_of_ble_eq_true rfl) (eC_33 V) inW5 rfl 4 (by decide) q_281 (fun _ h9 => h9) rfl dX5_goPast_1 ?_
  refine lv_aload_n hC.1 hC.2.1 dX5_goPast_4 rfl (lv_at hl 0 rfl) ?_
  refine mw_get (v := .int (M 33 7)) hC hM 33 (Nat.le_of_ble_eq_true rfl) (eC_33 V) inW5 rfl 7 (by decide) q_284 (fun _ h9 => h9) rfl dX5_goPast_5 ?_
  obtain ⟨hg1, hf⟩ := o_g hf
  refine mw_iald hC hM 44 0 (Nat.le_of_ble_eq_true rfl) (eC_44 V) rfl hg1 dX5_goPast_8 ?_
  refine lv_iload_n hC.1 hC.2.1 dX5_goPast_9 rfl (lv_at hl 1 rfl) ?_
  refine lv_icmp_ne (tgt := 19) hC.1 hC.2.1 dX5_goPast_10 (by decide) (fun hc3 => ?_) (fun hc3 => ?_)
  · have hf := o_f hc3 hf
    refine lv_iconst hC.1 hC.2.1 dX5_goPast_19 ci_0 ?_
    exact hret (o_r1 hf) (Or.inl rfl) (o_r2 hf hM) dX5_goPast_20
  · have hf := o_t hc3 hf
    refine lv_iload_n hC.1 hC.2.1 dX5_goPast_13 rfl (lv_at hl 1 rfl) ?_
    refine lv_bipush hC.1 hC.2.1 dX5_goPast_14 cb_40 ?_
    refine lv_icmp_ne (tgt := 21) hC.1 hC.2.1 dX5_goPast_16 (by decide) (fun hc2 => ?_) (fun hc2 => ?_)
    · have hf := o_f hc2 hf
      refine lv_aload_n hC.1 hC.2.1 dX5_goPast_21 rfl (lv_at hl 0 rfl) ?_
      refine lv_dup hC.1 hC.2.1 dX5_goPast_22 rfl ?_
      refine mw_get (v := .int (M 33 7)) hC hM 33 (Nat.le_of_ble_eq_true rfl) (eC_33 V) inW5 rfl 7 (by decide) q_284 (fun _ h9 => h9) rfl dX5_goPast_23 ?_
      refine lv_iconst hC.1 hC.2.1 dX5_goPast_26 ci_1 ?_
      refine lv_iadd hC.1 hC.2.1 dX5_goPast_27 ?_
      refine mw_put hC hM 33 (Nat.le_of_ble_eq_true rfl) (eC_33 V) inW5 tyX5 tyX5_ok nmX5 rfl 7 (by decide) q_284 (fun _ h9 => h9) rfl rfl rfl (Nat.le_of_ble_eq_true rfl) rfl dX5_goPast_28 (fun H locs hM => ?_)
      refine lv_iconst hC.1 hC.2.1 dX5_goPast_31 ci_1 ?_
      exact hret (o_r1 hf) (Or.inr rfl) (o_r2 hf hM) dX5_goPast_32
    · have hf := o_t hc2 hf
      refine lv_iconst hC.1 hC.2.1 dX5_goPast_19 ci_0 ?_
      exact hret (o_r1 hf) (Or.inl rfl) (o_r2 hf hM) dX5_goPast_20
set_option maxHeartbeats 4000000 in
set_option maxRecDepth 100000 in
theorem mcX6_addStep_q34 (V : mV) (l : Launch) (M : mM) (p1 : Int32) (p2 : Int32) (p3 : Int32) (r : Int32) (M' : mM) (hf : fX6_addStep_q34 M p1 p2 p3 = some (r, M')) : UC V l yX6_addStep cX6_addStep 4 ({ frames := 0, cells := 0, slots := 0, locals := 0 } : Room) [.ref (mvA V 34), .int p1, .int p2, .int p3] M M' := by
  unfold fX6_addStep_q34 at hf
  refine mw_enterV RX6 rfl (by decide +kernel) (Nat.le_of_ble_eq_true rfl) (fun {p e s m args below meth c} ls A Q hC hret hM hl => ?_)
  have hl : lv_has ls 4 [(0, .ref (mvA V 34)), (1, .int p1), (2, .int p2), (3, .int p3)] := hl
  refine lv_aload_n hC.1 hC.2.1 dX6_addStep_0 rfl (lv_at hl 0 rfl) ?_
  refine mw_get (v := .int (M 34 5)) hC hM 34 (Nat.le_of_ble_eq_true rfl) (eC_34 V) inW6 rfl 5 (by decide) q_175 (fun _ h9 => h9) rfl dX6_addStep_1 ?_
  refine lv_sipush hC.1 hC.2.1 dX6_addStep_4 cs_200 ?_
  refine lv_icmp_ge (tgt := 50) hC.1 hC.2.1 dX6_addStep_7 (by decide) (fun hc4 => ?_) (fun hc4 => ?_)
  · have hf := o_t hc4 hf
    exact hret (o_r2 hf hM) dX6_addStep_50
  · have hf := o_f hc4 hf
    refine lv_aload_n hC.1 hC.2.1 dX6_addStep_10 rfl (lv_at hl 0 rfl) ?_
    refine mw_get (v := .ref (mvA V 39)) hC hM 34 (Nat.le_of_ble_eq_true rfl) (eC_34 V) inW6 rfl 6 (by decide) q_176 (fun _ h9 => h9) rfl dX6_addStep_11 ?_
    refine lv_aload_n hC.1 hC.2.1 dX6_addStep_14 rfl (lv_at hl 0 rfl) ?_
    refine mw_get (v := .int (M 34 5)) hC hM 34 (Nat.le_of_ble_eq_true rfl) (eC_34 V) inW6 rfl 5 (by decide) q_175 (fun _ h9 => h9) rfl dX6_addStep_15 ?_
    refine lv_iload_n hC.1 hC.2.1 dX6_addStep_18 rfl (lv_at hl 1 rfl) ?_
    obtain ⟨hg1, hf⟩ := o_g hf
    refine mw_iast hC hM 39 0 (Nat.le_of_ble_eq_true rfl) (eC_39 V) rfl hg1 dX6_addStep_19 (fun H locs hM => ?_)
    refine lv_aload_n hC.1 hC.2.1 dX6_addStep_20 rfl (lv_at hl 0 rfl) ?_
    refine mw_get (v := .ref (mvA V 40)) hC hM 34 (Nat.le_of_ble_eq_true rfl) (eC_34 V) inW6 rfl 7 (by decide) q_177 (fun _ h9 => h9) rfl dX6_addStep_21 ?_
    refine lv_aload_n hC.1 hC.2.1 dX6_addStep_24 rfl (lv_at hl 0 rfl) ?_
    refine mw_get (v := .int ((wr M 39 (Int32.toNatClampNeg (M 34 5)) p1) 34 5)) hC hM 34 (Nat.le_of_ble_eq_true rfl) (eC_34 V) inW6 rfl 5 (by decide) q_175 (fun _ h9 => h9) rfl dX6_addStep_25 ?_
    refine lv_iload_n hC.1 hC.2.1 dX6_addStep_28 rfl (lv_at hl 2 rfl) ?_
    obtain ⟨hg2, hf⟩ := o_g hf
    refine mw_iast hC hM 40 0 (Nat.le_of_ble_eq_true rfl) (eC_40 V) rfl hg2 dX6_addStep_29 (fun H locs hM => ?_)
    refine lv_aload_n hC.1 hC.2.1 dX6_addStep_30 rfl (lv_at hl 0 rfl) ?_
    refine mw_get (v := .ref (mvA V 41)) hC hM 34 (Nat.le_of_ble_eq_true rfl) (eC_34 V) inW6 rfl 8 (by decide) q_178 (fun _ h9 => h9) rfl dX6_addStep_31 ?_
    refine lv_aload_n hC.1 hC.2.1 dX6_addStep_34 rfl (lv_at hl 0 rfl) ?_
    refine mw_get (v := .int ((wr (wr M 39 (Int32.toNatClampNeg (M 34 5)) p1) 40 (Int32.toNatClampNeg ((wr M 39 (Int32.toNatClampNeg (M 34 5)) p1) 34 5)) p2) 34 5)) hC hM 34 (Nat.le_of_ble_eq_true rfl) (eC_34 V) inW6 rfl 5 (by decide) q_175 (fun _ h9 => h9) rfl dX6_addStep_35 ?_
    refine lv_iload_n hC.1 hC.2.1 dX6_addStep_38 rfl (lv_at hl 3 rfl) ?_
    obtain ⟨hg3, hf⟩ := o_g hf
    refine mw_iast hC hM 41 0 (Nat.le_of_ble_eq_true rfl) (eC_41 V) rfl hg3 dX6_addStep_39 (fun H locs hM => ?_)
    refine lv_aload_n hC.1 hC.2.1 dX6_addStep_40 rfl (lv_at hl 0 rfl) ?_
    refine lv_dup hC.1 hC.2.1 dX6_addStep_41 rfl ?_
    refine mw_get (v := .int ((wr (wr (wr M 39 (Int32.toNatClampNeg (M 34 5)) p1) 40 (Int32.toNatClampNeg ((wr M 39 (Int32.toNatClampNeg (M 34 5)) p1) 34 5)) p2) 41 (Int32.toNatClampNeg ((wr (wr M 39 (Int32.toNatClampNeg (M 34 5)) p1) 40 (Int32.toNatClampNeg ((wr M 39 (Int32.toNatClampNeg (M 34 5)) p1) 34 5)) p2) 34 5)) p3) 34 5)) hC hM 34 (Nat.le_of_ble_eq_true rfl) (eC_34 V) inW6 rfl 5 (by decide) q_175 (fun _ h9 => h9) rfl dX6_addStep_42 ?_
    refine lv_iconst hC.1 hC.2.1 dX6_addStep_45 ci_1 ?_
    refine lv_iadd hC.1 hC.2.1 dX6_addStep_46 ?_
    refine mw_put hC hM 34 (Nat.le_of_ble_eq_true rfl) (eC_34 V) inW6 tyX6 tyX6_ok nmX6 rfl 5 (by decide) q_175 (fun _ h9 => h9) rfl rfl rfl (Nat.le_of_ble_eq_true rfl) rfl dX6_addStep_47 (fun H locs hM => ?_)
    exact hret (o_r2 hf hM) dX6_addStep_50
set_option maxHeartbeats 4000000 in
set_option maxRecDepth 100000 in
theorem mcX5_readComparison (V : mV) (l : Launch) (M : mM) (r : Int32) (M' : mM) (hf : fX5_readComparison M = some (r, M')) : ZC V l yX5_readComparison cX5_readComparison 4 ({ frames := 1, cells := 0, slots := 0, locals := 23 } : Room) [.ref (mvA V 33)] M r M' := by
  unfold fX5_readComparison at hf
  refine mw_enterZ RX5 rfl (by decide +kernel) (Nat.le_of_ble_eq_true rfl) (fun {p e s m args below meth c} ls A Q hC hret hM hl => ?_)
  have hl : lv_has ls 4 [(0, .ref (mvA V 33))] := hl
  refine lv_aload_n hC.1 hC.2.1 dX5_readComparison_0 rfl (lv_at hl 0 rfl) ?_
  refine mw_get (v := .ref (mvA V 46)) hC hM 33 (Nat.le_of_ble_eq_true rfl) (eC_33 V) inW5 rfl 6 (by decide) q_283 (fun _ h9 => h9) rfl dX5_readComparison_1 ?_
  refine lv_aload_n hC.1 hC.2.1 dX5_readComparison_4 rfl (lv_at hl 0 rfl) ?_
  refine mw_get (v := .int (M 33 7)) hC hM 33 (Nat.le_of_ble_eq_true rfl) (eC_33 V) inW5 rfl 7 (by decide) q_284 (fun _ h9 => h9) rfl dX5_readComparison_5 ?_
  obtain ⟨hg1, hf⟩ := o_g hf
  refine mw_iald hC hM 46 0 (Nat.le_of_ble_eq_true rfl) (eC_46 V) rfl hg1 dX5_readComparison_8 ?_
  refine lv_istore_n (lv' := [(1, .int (M 46 (Int32.toNatClampNeg (M 33 7)))), (0, .ref (mvA V 33))]) hC.1 hC.2.1 dX5_readComparison_9 rfl hl (Nat.le_of_ble_eq_true rfl) rfl (fun ls hl => ?_)
  refine lv_iload_n hC.1 hC.2.1 dX5_readComparison_10 rfl (lv_at hl 0 rfl) ?_
  refine lv_if_ge (tgt := 16) hC.1 hC.2.1 dX5_readComparison_11 (by decide) (fun hc10 => ?_) (fun hc10 => ?_)
  · have hf := o_t hc10 hf
    refine lv_aload_n hC.1 hC.2.1 dX5_readComparison_16 rfl (lv_at hl 1 rfl) ?_
    refine lv_dup hC.1 hC.2.1 dX5_readComparison_17 rfl ?_
    refine mw_get (v := .int (M 33 7)) hC hM 33 (Nat.le_of_ble_eq_true rfl) (eC_33 V) inW5 rfl 7 (by decide) q_284 (fun _ h9 => h9) rfl dX5_readComparison_18 ?_
    refine lv_iconst hC.1 hC.2.1 dX5_readComparison_21 ci_1 ?_
    refine lv_iadd hC.1 hC.2.1 dX5_readComparison_22 ?_
    refine mw_put hC hM 33 (Nat.le_of_ble_eq_true rfl) (eC_33 V) inW5 tyX5 tyX5_ok nmX5 rfl 7 (by decide) q_284 (fun _ h9 => h9) rfl rfl rfl (Nat.le_of_ble_eq_true rfl) rfl dX5_readComparison_23 (fun H locs hM => ?_)
    refine lv_aload_n hC.1 hC.2.1 dX5_readComparison_26 rfl (lv_at hl 1 rfl) ?_
    refine mw_get (v := .ref (mvA V 44)) hC hM 33 (Nat.le_of_ble_eq_true rfl) (eC_33 V) inW5 rfl 4 (by decide) q_281 (fun _ h9 => h9) rfl dX5_readComparison_27 ?_
    refine lv_aload_n hC.1 hC.2.1 dX5_readComparison_30 rfl (lv_at hl 1 rfl) ?_
    refine mw_get (v := .int ((wr M 33 7 ((M 33 7) + 1)) 33 7)) hC hM 33 (Nat.le_of_ble_eq_true rfl) (eC_33 V) inW5 rfl 7 (by decide) q_284 (fun _ h9 => h9) rfl dX5_readComparison_31 ?_
    obtain ⟨hg2, hf⟩ := o_g hf
    refine mw_iald hC hM 44 0 (Nat.le_of_ble_eq_true rfl) (eC_44 V) rfl hg2 dX5_readComparison_34 ?_
    refine lv_istore_n (lv' := [(2, .int ((wr M 33 7 ((M 33 7) + 1)) 44 (Int32.toNatClampNeg ((wr M 33 7 ((M 33 7) + 1)) 33 7)))), (1, .int (M 46 (Int32.toNatClampNeg (M 33 7)))), (0, .ref (mvA V 33))]) hC.1 hC.2.1 dX5_readComparison_35 rfl hl (Nat.le_of_ble_eq_true rfl) rfl (fun ls hl => ?_)
    refine lv_iload_n hC.1 hC.2.1 dX5_readComparison_36 rfl (lv_at hl 0 rfl) ?_
    refine lv_bipush hC.1 hC.2.1 dX5_readComparison_37 cb_31 ?_
    refine lv_bipush hC.1 hC.2.1 dX5_readComparison_39 cb_33 ?_
    refine mw_cNi (As := [.int ((wr M 33 7 ((M 33 7) + 1)) 44 (Int32.toNatClampNeg ((wr M 33 7 ((M 33 7) + 1)) 33 7))), .int 31, .int 33]) (rest := []) hC hM (mcX11_isIn V l (wr M 33 7 ((M 33 7) + 1)) ((wr M 33 7 ((M 33 7) + 1)) 44 (Int32.toNatClampNeg ((wr M 33 7 ((M 33 7) + 1)) 33 7))) 31 33 _ rfl) (mw_kN hC (mw_nw hC 1 rfl) q_469 q_107 q_470 ⟨rfl, rfl⟩ kS_X11_isIn ⟨Nat.le_of_ble_eq_true rfl, Nat.le_of_ble_eq_true rfl⟩) rfl rfl (Nat.le_of_ble_eq_true rfl) hl.1 dX5_readComparison_41 (fun H locs hM hb3 => ?_)
    refine lv_if_ne (tgt := 49) hC.1 hC.2.1 dX5_readComparison_44 (by decide) (fun hc9 => ?_) (fun hc9 => ?_)
    · have hf := o_f hc9 hf
      refine lv_aload_n hC.1 hC.2.1 dX5_readComparison_49 rfl (lv_at hl 2 rfl) ?_
      refine lv_dup hC.1 hC.2.1 dX5_readComparison_50 rfl ?_
      refine mw_get (v := .int ((wr M 33 7 ((M 33 7) + 1)) 33 7)) hC hM 33 (Nat.le_of_ble_eq_true rfl) (eC_33 V) inW5 rfl 7 (by decide) q_284 (fun _ h9 => h9) rfl dX5_readComparison_51 ?_
      refine lv_iconst hC.1 hC.2.1 dX5_readComparison_54 ci_1 ?_
      refine lv_iadd hC.1 hC.2.1 dX5_readComparison_55 ?_
      refine mw_put hC hM 33 (Nat.le_of_ble_eq_true rfl) (eC_33 V) inW5 tyX5 tyX5_ok nmX5 rfl 7 (by decide) q_284 (fun _ h9 => h9) rfl rfl rfl (Nat.le_of_ble_eq_true rfl) rfl dX5_readComparison_56 (fun H locs hM => ?_)
      refine lv_aload_n hC.1 hC.2.1 dX5_readComparison_59 rfl (lv_at hl 2 rfl) ?_
      refine mw_get (v := .ref (mvA V 46)) hC hM 33 (Nat.le_of_ble_eq_true rfl) (eC_33 V) inW5 rfl 6 (by decide) q_283 (fun _ h9 => h9) rfl dX5_readComparison_60 ?_
      refine lv_aload_n hC.1 hC.2.1 dX5_readComparison_63 rfl (lv_at hl 2 rfl) ?_
      refine mw_get (v := .int ((wr (wr M 33 7 ((M 33 7) + 1)) 33 7 (((wr M 33 7 ((M 33 7) + 1)) 33 7) + 1)) 33 7)) hC hM 33 (Nat.le_of_ble_eq_true rfl) (eC_33 V) inW5 rfl 7 (by decide) q_284 (fun _ h9 => h9) rfl dX5_readComparison_64 ?_
      obtain ⟨hg4, hf⟩ := o_g hf
      refine mw_iald hC hM 46 0 (Nat.le_of_ble_eq_true rfl) (eC_46 V) rfl hg4 dX5_readComparison_67 ?_
      refine lv_istore_n (lv' := [(3, .int ((wr (wr M 33 7 ((M 33 7) + 1)) 33 7 (((wr M 33 7 ((M 33 7) + 1)) 33 7) + 1)) 46 (Int32.toNatClampNeg ((wr (wr M 33 7 ((M 33 7) + 1)) 33 7 (((wr M 33 7 ((M 33 7) + 1)) 33 7) + 1)) 33 7)))), (2, .int ((wr M 33 7 ((M 33 7) + 1)) 44 (Int32.toNatClampNeg ((wr M 33 7 ((M 33 7) + 1)) 33 7)))), (1, .int (M 46 (Int32.toNatClampNeg (M 33 7)))), (0, .ref (mvA V 33))]) hC.1 hC.2.1 dX5_readComparison_68 rfl hl (Nat.le_of_ble_eq_true rfl) rfl (fun ls hl => ?_)
      refine lv_iload_n hC.1 hC.2.1 dX5_readComparison_69 rfl (lv_at hl 0 rfl) ?_
      refine lv_if_ge (tgt := 75) hC.1 hC.2.1 dX5_readComparison_70 (by decide) (fun hc8 => ?_) (fun hc8 => ?_)
      · have hf := o_t hc8 hf
        refine lv_aload_n hC.1 hC.2.1 dX5_readComparison_75 rfl (lv_at hl 3 rfl) ?_
        refine lv_dup hC.1 hC.2.1 dX5_readComparison_76 rfl ?_
        refine mw_get (v := .int ((wr (wr M 33 7 ((M 33 7) + 1)) 33 7 (((wr M 33 7 ((M 33 7) + 1)) 33 7) + 1)) 33 7)) hC hM 33 (Nat.le_of_ble_eq_true rfl) (eC_33 V) inW5 rfl 7 (by decide) q_284 (fun _ h9 => h9) rfl dX5_readComparison_77 ?_
        refine lv_iconst hC.1 hC.2.1 dX5_readComparison_80 ci_1 ?_
        refine lv_iadd hC.1 hC.2.1 dX5_readComparison_81 ?_
        refine mw_put hC hM 33 (Nat.le_of_ble_eq_true rfl) (eC_33 V) inW5 tyX5 tyX5_ok nmX5 rfl 7 (by decide) q_284 (fun _ h9 => h9) rfl rfl rfl (Nat.le_of_ble_eq_true rfl) rfl dX5_readComparison_82 (fun H locs hM => ?_)
        refine lv_aload_n hC.1 hC.2.1 dX5_readComparison_85 rfl (lv_at hl 3 rfl) ?_
        refine mw_get (v := .ref (mvA V 34)) hC hM 33 (Nat.le_of_ble_eq_true rfl) (eC_33 V) inW5 rfl 1 (by decide) q_277 (fun _ h9 => h9) rfl dX5_readComparison_86 ?_
        refine lv_iload_n hC.1 hC.2.1 dX5_readComparison_89 rfl (lv_at hl 1 rfl) ?_
        refine lv_iload_n hC.1 hC.2.1 dX5_readComparison_90 rfl (lv_at hl 2 rfl) ?_
        refine lv_iload_n hC.1 hC.2.1 dX5_readComparison_91 rfl (lv_at hl 0 rfl) ?_
        obtain ⟨r5, M7, hq6, hf⟩ := o_b2 hf
        refine mw_cVv (As := [.int ((wr M 33 7 ((M 33 7) + 1)) 44 (Int32.toNatClampNeg ((wr M 33 7 ((M 33 7) + 1)) 33 7))), .int (M 46 (Int32.toNatClampNeg (M 33 7))), .int ((wr (wr M 33 7 ((M 33 7) + 1)) 33 7 (((wr M 33 7 ((M 33 7) + 1)) 33 7) + 1)) 46 (Int32.toNatClampNeg ((wr (wr M 33 7 ((M 33 7) + 1)) 33 7 (((wr M 33 7 ((M 33 7) + 1)) 33 7) + 1)) 33 7)))]) (rest := []) hC hM (mcX6_addStep_q34 V l (wr (wr (wr M 33 7 ((M 33 7) + 1)) 33 7 (((wr M 33 7 ((M 33 7) + 1)) 33 7) + 1)) 33 7 (((wr (wr M 33 7 ((M 33 7) + 1)) 33 7 (((wr M 33 7 ((M 33 7) + 1)) 33 7) + 1)) 33 7) + 1)) ((wr M 33 7 ((M 33 7) + 1)) 44 (Int32.toNatClampNeg ((wr M 33 7 ((M 33 7) + 1)) 33 7))) (M 46 (Int32.toNatClampNeg (M 33 7))) ((wr (wr M 33 7 ((M 33 7) + 1)) 33 7 (((wr M 33 7 ((M 33 7) + 1)) 33 7) + 1)) 46 (Int32.toNatClampNeg ((wr (wr M 33 7 ((M 33 7) + 1)) 33 7 (((wr M 33 7 ((M 33 7) + 1)) 33 7) + 1)) 33 7))) r5 M7 hq6) (mw_kV hC q_708 q_709 q_710 q_110 q_711 ⟨rfl, rfl⟩ kV_X6_addStep ⟨Nat.le_of_ble_eq_true rfl, Nat.le_of_ble_eq_true rfl⟩) (Nat.le_of_ble_eq_true rfl) (eC_34 V) rfl rfl rfl (Nat.le_of_ble_eq_true rfl) hl.1 dX5_readComparison_92 (fun H locs hM => ?_)
        refine lv_iconst hC.1 hC.2.1 dX5_readComparison_95 ci_1 ?_
        exact hret (o_r1 hf) (Or.inr rfl) (o_r2 hf hM) dX5_readComparison_96
      · have hf := o_f hc8 hf
        refine lv_iconst hC.1 hC.2.1 dX5_readComparison_73 ci_0 ?_
        exact hret (o_r1 hf) (Or.inl rfl) (o_r2 hf hM) dX5_readComparison_74
    · have hf := o_t hc9 hf
      refine lv_iconst hC.1 hC.2.1 dX5_readComparison_47 ci_0 ?_
      exact hret (o_r1 hf) (Or.inl rfl) (o_r2 hf hM) dX5_readComparison_48
  · have hf := o_f hc10 hf
    refine lv_iconst hC.1 hC.2.1 dX5_readComparison_14 ci_0 ?_
    exact hret (o_r1 hf) (Or.inl rfl) (o_r2 hf hM) dX5_readComparison_15
set_option maxHeartbeats 4000000 in
set_option maxRecDepth 100000 in
theorem mcX5_readOne (V : mV) (l : Launch) (rec : mM → Int32 → Option (Int32 × mM)) (d : Nat) (hrec : ∀ (M : mM) (p1 : Int32) (r : Int32) (M' : mM), rec M p1 = some (r, M') → ZC V l yX5_readCond cX5_readCond 4 ({ frames := 2 + 3 * d, cells := 0, slots := 0, locals := 46 + 69 * d } : Room) [.ref (mvA V 33), .int p1] M r M') (M : mM) (p1 : Int32) (r : Int32) (M' : mM) (hf : fX5_readOne rec M p1 = some (r, M')) : ZC V l yX5_readOne cX5_readOne 4 ({ frames := 3 + 3 * d, cells := 0, slots := 0, locals := 69 + 69 * d } : Room) [.ref (mvA V 33), .int p1] M r M' := by
  unfold fX5_readOne at hf
  refine mw_enterZ RX5 rfl (by decide +kernel) (Nat.le_of_ble_eq_true rfl) (fun {p e s m args below meth c} ls A Q hC hret hM hl => ?_)
  have hl : lv_has ls 4 [(0, .ref (mvA V 33)), (1, .int p1)] := hl
  have hL81 : ∀ (M : mM) (x2 : Int32) (t0 : Int32) (H : Heap) (locs : List Loc) (ls : Array Slot), fX5_readOne_L81 rec M x2 t0 = some (r, M') → PC V M A s H locs → lv_has ls 4 [(0, .ref (mvA V 33)), (2, .int x2)] → W p l e ({ frames := 3 + 3 * d, cells := 0, slots := 0, locals := 69 + 69 * d } : Room) s m args below meth c H locs 0 0 Q (F0 m 81 ls [.int t0]) := by
    intro M x2 t0 H locs ls hf hM hl
    unfold fX5_readOne_L81 at hf
    refine lv_istore_n (lv' := [(3, .int t0), (0, .ref (mvA V 33)), (2, .int x2)]) hC.1 hC.2.1 dX5_readOne_81 rfl hl (Nat.le_of_ble_eq_true rfl) rfl (fun ls hl => ?_)
    refine lv_iload_n hC.1 hC.2.1 dX5_readOne_82 rfl (lv_at hl 2 rfl) ?_
    refine lv_if_eq (tgt := 97) hC.1 hC.2.1 dX5_readOne_83 (by decide) (fun hc33 => ?_) (fun hc33 => ?_)
    · have hf := o_t hc33 hf
      refine lv_iload_n hC.1 hC.2.1 dX5_readOne_97 rfl (lv_at hl 0 rfl) ?_
      obtain ⟨hg28, hf⟩ := o_g hf
      exact hret (o_r1 hf) (isB_or hg28) (o_r2 hf hM) dX5_readOne_98
    · have hf := o_f hc33 hf
      refine lv_aload_n hC.1 hC.2.1 dX5_readOne_86 rfl (lv_at hl 1 rfl) ?_
      refine mw_get (v := .ref (mvA V 34)) hC hM 33 (Nat.le_of_ble_eq_true rfl) (eC_33 V) inW5 rfl 1 (by decide) q_277 (fun _ h9 => h9) rfl dX5_readOne_87 ?_
      refine lv_bipush hC.1 hC.2.1 dX5_readOne_90 cb_23 ?_
      refine lv_iconst hC.1 hC.2.1 dX5_readOne_92 ci_0 ?_
      refine lv_iconst hC.1 hC.2.1 dX5_readOne_93 ci_0 ?_
      obtain ⟨r29, M31, hq30, hf⟩ := o_b2 hf
      refine mw_cVv (As := [.int 23, .int 0, .int 0]) (rest := []) hC hM (mcX6_addStep_q34 V l M 23 0 0 r29 M31 hq30) (mw_kV hC q_708 q_709 q_710 q_110 q_711 ⟨rfl, rfl⟩ kV_X6_addStep ⟨by dsimp only; omega, by dsimp only; omega⟩) (Nat.le_of_ble_eq_true rfl) (eC_34 V) rfl rfl rfl (Nat.le_of_ble_eq_true rfl) hl.1 dX5_readOne_94 (fun H locs hM => ?_)
      refine lv_iload_n hC.1 hC.2.1 dX5_readOne_97 rfl (lv_at hl 0 rfl) ?_
      obtain ⟨hg32, hf⟩ := o_g hf
      exact hret (o_r1 hf) (isB_or hg32) (o_r2 hf hM) dX5_readOne_98
  have hL77 : ∀ (M : mM) (x2 : Int32) (H : Heap) (locs : List Loc) (ls : Array Slot), fX5_readOne_L77 rec M x2 = some (r, M') → PC V M A s H locs → lv_has ls 4 [(0, .ref (mvA V 33)), (2, .int x2)] → W p l e ({ frames := 3 + 3 * d, cells := 0, slots := 0, locals := 69 + 69 * d } : Room) s m args below meth c H locs 0 0 Q (F0 m 77 ls []) := by
    intro M x2 H locs ls hf hM hl
    unfold fX5_readOne_L77 at hf
    refine lv_aload_n hC.1 hC.2.1 dX5_readOne_77 rfl (lv_at hl 0 rfl) ?_
    obtain ⟨r24, M26, hq25, hf⟩ := o_b2 hf
    refine mw_cVi (As := []) (rest := []) hC hM (mcX5_readComparison V l M r24 M26 hq25) (mw_kV hC q_704 q_706 q_16 q_111 q_707 ⟨rfl, rfl⟩ kV_X5_readComparison ⟨by dsimp only; omega, by dsimp only; omega⟩) (Nat.le_of_ble_eq_true rfl) (eC_33 V) rfl rfl rfl (Nat.le_of_ble_eq_true rfl) hl.1 dX5_readOne_78 (fun H locs hM hb27 => ?_)
    exact hL81 _ _ _ _ _ _ hf hM (lv_sub hl [0, 1] rfl)
  have hL73 : ∀ (M : mM) (x2 : Int32) (H : Heap) (locs : List Loc) (ls : Array Slot), fX5_readOne_L73 rec M x2 = some (r, M') → PC V M A s H locs → lv_has ls 4 [(0, .ref (mvA V 33)), (2, .int x2)] → W p l e ({ frames := 3 + 3 * d, cells := 0, slots := 0, locals := 69 + 69 * d } : Room) s m args below meth c H locs 0 0 Q (F0 m 73 ls []) := by
    intro M x2 H locs ls hf hM hl
    unfold fX5_readOne_L73 at hf
    refine lv_iconst hC.1 hC.2.1 dX5_readOne_73 ci_0 ?_
    refine lv_goto (tgt := 81) hC.1 hC.2.1 dX5_readOne_74 (by decide) ?_
    exact hL81 _ _ _ _ _ _ hf hM (lv_sub hl [0, 1] rfl)
  have hL36 : ∀ (M : mM) (x1 : Int32) (x2 : Int32) (H : Heap) (locs : List Loc) (ls : Array Slot), fX5_readOne_L36 rec M x1 x2 = some (r, M') → PC V M A s H locs → lv_has ls 4 [(0, .ref (mvA V 33)), (1, .int x1), (2, .int x2)] → W p l e ({ frames := 3 + 3 * d, cells := 0, slots := 0, locals := 69 + 69 * d } : Room) s m args below meth c H locs 0 0 Q (F0 m 36 ls []) := by
    intro M x1 x2 H locs ls hf hM hl
    unfold fX5_readOne_L36 at hf
    refine lv_iload_n hC.1 hC.2.1 dX5_readOne_36 rfl (lv_at hl 1 rfl) ?_
    refine lv_iconst hC.1 hC.2.1 dX5_readOne_37 ci_3 ?_
    refine lv_icmp_ge (tgt := 77) hC.1 hC.2.1 dX5_readOne_38 (by decide) (fun hc23 => ?_) (fun hc23 => ?_)
    · have hf := o_t hc23 hf
      exact hL77 _ _ _ _ _ hf hM (lv_sub hl [0, 2] rfl)
    · have hf := o_f hc23 hf
      refine lv_aload_n hC.1 hC.2.1 dX5_readOne_41 rfl (lv_at hl 0 rfl) ?_
      refine lv_bipush hC.1 hC.2.1 dX5_readOne_42 cb_34 ?_
      obtain ⟨r8, M10, hq9, hf⟩ := o_b2 hf
      refine mw_cVi (As := [.int 34]) (rest := []) hC hM (mcX5_goPast V l M 34 r8 M10 hq9) (mw_kV hC q_688 q_690 q_12 q_111 q_691 ⟨rfl, rfl⟩ kV_X5_goPast ⟨by dsimp only; omega, by dsimp only; omega⟩) (Nat.le_of_ble_eq_true rfl) (eC_33 V) rfl rfl rfl (Nat.le_of_ble_eq_true rfl) hl.1 dX5_readOne_44 (fun H locs hM hb11 => ?_)
      refine lv_if_eq (tgt := 77) hC.1 hC.2.1 dX5_readOne_47 (by decide) (fun hc22 => ?_) (fun hc22 => ?_)
      · have hf := o_t hc22 hf
        exact hL77 _ _ _ _ _ hf hM (lv_sub hl [0, 2] rfl)
      · have hf := o_f hc22 hf
        refine lv_aload_n hC.1 hC.2.1 dX5_readOne_50 rfl (lv_at hl 0 rfl) ?_
        refine lv_iload_n hC.1 hC.2.1 dX5_readOne_51 rfl (lv_at hl 1 rfl) ?_
        refine lv_iconst hC.1 hC.2.1 dX5_readOne_52 ci_1 ?_
        refine lv_iadd hC.1 hC.2.1 dX5_readOne_53 ?_
        obtain ⟨r12, M14, hq13, hf⟩ := o_b2 hf
        refine mw_cVi (As := [.int (x1 + 1)]) (rest := []) hC hM (hrec M10 (x1 + 1) r12 M14 hq13) (mw_kV hC q_692 q_694 q_13 q_111 q_695 ⟨rfl, rfl⟩ kV_X5_readCond ⟨by dsimp only; omega, by dsimp only; omega⟩) (Nat.le_of_ble_eq_true rfl) (eC_33 V) rfl rfl rfl (Nat.le_of_ble_eq_true rfl) hl.1 dX5_readOne_54 (fun H locs hM hb15 => ?_)
        refine lv_if_eq (tgt := 73) hC.1 hC.2.1 dX5_readOne_57 (by decide) (fun hc21 => ?_) (fun hc21 => ?_)
        · have hf := o_t hc21 hf
          exact hL73 _ _ _ _ _ hf hM (lv_sub hl [0, 2] rfl)
        · have hf := o_f hc21 hf
          refine lv_aload_n hC.1 hC.2.1 dX5_readOne_60 rfl (lv_at hl 0 rfl) ?_
          refine lv_bipush hC.1 hC.2.1 dX5_readOne_61 cb_35 ?_
          obtain ⟨r16, M18, hq17, hf⟩ := o_b2 hf
          refine mw_cVi (As := [.int 35]) (rest := []) hC hM (mcX5_goPast V l M14 35 r16 M18 hq17) (mw_kV hC q_688 q_690 q_12 q_111 q_691 ⟨rfl, rfl⟩ kV_X5_goPast ⟨by dsimp only; omega, by dsimp only; omega⟩) (Nat.le_of_ble_eq_true rfl) (eC_33 V) rfl rfl rfl (Nat.le_of_ble_eq_true rfl) hl.1 dX5_readOne_63 (fun H locs hM hb19 => ?_)
          refine lv_if_eq (tgt := 73) hC.1 hC.2.1 dX5_readOne_66 (by decide) (fun hc20 => ?_) (fun hc20 => ?_)
          · have hf := o_t hc20 hf
            exact hL73 _ _ _ _ _ hf hM (lv_sub hl [0, 2] rfl)
          · have hf := o_f hc20 hf
            refine lv_iconst hC.1 hC.2.1 dX5_readOne_69 ci_1 ?_
            refine lv_goto (tgt := 81) hC.1 hC.2.1 dX5_readOne_70 (by decide) ?_
            exact hL81 _ _ _ _ _ _ hf hM (lv_sub hl [0, 2] rfl)
  have hL4 : ∀ (n : Nat) (M : mM) (x1 : Int32) (x2 : Int32) (x3 : Int32) (H : Heap) (locs : List Loc) (ls : Array Slot), fX5_readOne_L4 rec n M x1 x2 x3 = some (r, M') → PC V M A s H locs → lv_has ls 4 [(0, .ref (mvA V 33)), (1, .int x1), (2, .int x2), (3, .int x3)] → W p l e ({ frames := 3 + 3 * d, cells := 0, slots := 0, locals := 69 + 69 * d } : Room) s m args below meth c H locs 0 0 Q (F0 m 4 ls []) := by
    intro n4
    induction n4 with
    | zero => intro M x1 x2 x3 H locs ls hf; cases hf
    | succ n4 ih4 =>
      intro M x1 x2 x3 H locs ls hf hM hl
      have hf : fX5_readOne_L4_b rec (fX5_readOne_L4 rec n4) M x1 x2 x3 = some (r, M') := hf
      unfold fX5_readOne_L4_b at hf
      refine lv_iload_n hC.1 hC.2.1 dX5_readOne_4 rfl (lv_at hl 3 rfl) ?_
      refine lv_sipush hC.1 hC.2.1 dX5_readOne_5 cs_200 ?_
      refine lv_icmp_ge (tgt := 36) hC.1 hC.2.1 dX5_readOne_8 (by decide) (fun hc7 => ?_) (fun hc7 => ?_)
      · have hf := o_t hc7 hf
        exact hL36 _ _ _ _ _ _ hf hM (lv_sub hl [0, 1, 2] rfl)
      · have hf := o_f hc7 hf
        refine lv_aload_n hC.1 hC.2.1 dX5_readOne_11 rfl (lv_at hl 0 rfl) ?_
        refine lv_bipush hC.1 hC.2.1 dX5_readOne_12 cb_23 ?_
        obtain ⟨r1, M3, hq2, hf⟩ := o_b2 hf
        refine mw_cVi (As := [.int 23]) (rest := []) hC hM (mcX5_goPast V l M 23 r1 M3 hq2) (mw_kV hC q_688 q_690 q_12 q_111 q_691 ⟨rfl, rfl⟩ kV_X5_goPast ⟨by dsimp only; omega, by dsimp only; omega⟩) (Nat.le_of_ble_eq_true rfl) (eC_33 V) rfl rfl rfl (Nat.le_of_ble_eq_true rfl) hl.1 dX5_readOne_14 (fun H locs hM hb4 => ?_)
        refine lv_if_eq (tgt := 36) hC.1 hC.2.1 dX5_readOne_17 (by decide) (fun hc6 => ?_) (fun hc6 => ?_)
        · have hf := o_t hc6 hf
          exact hL36 _ _ _ _ _ _ hf hM (lv_sub hl [0, 1, 2] rfl)
        · have hf := o_f hc6 hf
          refine lv_iload_n hC.1 hC.2.1 dX5_readOne_20 rfl (lv_at hl 2 rfl) ?_
          refine lv_if_ne (tgt := 28) hC.1 hC.2.1 dX5_readOne_21 (by decide) (fun hc5 => ?_) (fun hc5 => ?_)
          · have hf := o_f hc5 hf
            refine lv_iconst hC.1 hC.2.1 dX5_readOne_28 ci_0 ?_
            refine lv_istore_n (lv' := [(2, .int 0), (0, .ref (mvA V 33)), (1, .int x1), (3, .int x3)]) hC.1 hC.2.1 dX5_readOne_29 rfl hl (Nat.le_of_ble_eq_true rfl) rfl (fun ls hl => ?_)
            refine lv_iinc (k := 3) (lv' := [(3, .int (x3 + 1)), (2, .int 0), (0, .ref (mvA V 33)), (1, .int x1)]) hC.1 hC.2.1 dX5_readOne_30 hl rfl (inc_1 _) (Nat.le_of_ble_eq_true rfl) rfl (fun ls hl => ?_)
            refine lv_goto (tgt := 4) hC.1 hC.2.1 dX5_readOne_33 (by decide) ?_
            exact ih4 _ _ _ _ _ _ _ hf hM (lv_sub hl [2, 3, 1, 0] rfl)
          · have hf := o_t hc5 hf
            refine lv_iconst hC.1 hC.2.1 dX5_readOne_24 ci_1 ?_
            refine lv_goto (tgt := 29) hC.1 hC.2.1 dX5_readOne_25 (by decide) ?_
            refine lv_istore_n (lv' := [(2, .int 1), (0, .ref (mvA V 33)), (1, .int x1), (3, .int x3)]) hC.1 hC.2.1 dX5_readOne_29 rfl hl (Nat.le_of_ble_eq_true rfl) rfl (fun ls hl => ?_)
            refine lv_iinc (k := 3) (lv' := [(3, .int (x3 + 1)), (2, .int 1), (0, .ref (mvA V 33)), (1, .int x1)]) hC.1 hC.2.1 dX5_readOne_30 hl rfl (inc_1 _) (Nat.le_of_ble_eq_true rfl) rfl (fun ls hl => ?_)
            refine lv_goto (tgt := 4) hC.1 hC.2.1 dX5_readOne_33 (by decide) ?_
            exact ih4 _ _ _ _ _ _ _ hf hM (lv_sub hl [2, 3, 1, 0] rfl)
  refine lv_iconst hC.1 hC.2.1 dX5_readOne_0 ci_0 ?_
  refine lv_istore_n (lv' := [(2, .int 0), (0, .ref (mvA V 33)), (1, .int p1)]) hC.1 hC.2.1 dX5_readOne_1 rfl hl (Nat.le_of_ble_eq_true rfl) rfl (fun ls hl => ?_)
  refine lv_iconst hC.1 hC.2.1 dX5_readOne_2 ci_0 ?_
  refine lv_istore_n (lv' := [(3, .int 0), (2, .int 0), (0, .ref (mvA V 33)), (1, .int p1)]) hC.1 hC.2.1 dX5_readOne_3 rfl hl (Nat.le_of_ble_eq_true rfl) rfl (fun ls hl => ?_)
  exact hL4 _ _ _ _ _ _ _ _ hf hM (lv_sub hl [2, 3, 1, 0] rfl)
set_option maxHeartbeats 4000000 in
set_option maxRecDepth 100000 in
theorem mcX5_readAll (V : mV) (l : Launch) (rec : mM → Int32 → Option (Int32 × mM)) (d : Nat) (hrec : ∀ (M : mM) (p1 : Int32) (r : Int32) (M' : mM), rec M p1 = some (r, M') → ZC V l yX5_readCond cX5_readCond 4 ({ frames := 2 + 3 * d, cells := 0, slots := 0, locals := 46 + 69 * d } : Room) [.ref (mvA V 33), .int p1] M r M') (M : mM) (p1 : Int32) (r : Int32) (M' : mM) (hf : fX5_readAll rec M p1 = some (r, M')) : ZC V l yX5_readAll cX5_readAll 4 ({ frames := 4 + 3 * d, cells := 0, slots := 0, locals := 92 + 69 * d } : Room) [.ref (mvA V 33), .int p1] M r M' := by
  unfold fX5_readAll at hf
  refine mw_enterZ RX5 rfl (by decide +kernel) (Nat.le_of_ble_eq_true rfl) (fun {p e s m args below meth c} ls A Q hC hret hM hl => ?_)
  have hl : lv_has ls 4 [(0, .ref (mvA V 33)), (1, .int p1)] := hl
  have hL8 : ∀ (n : Nat) (M : mM) (x1 : Int32) (x2 : Int32) (x3 : Int32) (H : Heap) (locs : List Loc) (ls : Array Slot), fX5_readAll_L8 rec n M x1 x2 x3 = some (r, M') → PC V M A s H locs → lv_has ls 4 [(0, .ref (mvA V 33)), (1, .int x1), (2, .int x2), (3, .int x3)] → W p l e ({ frames := 4 + 3 * d, cells := 0, slots := 0, locals := 92 + 69 * d } : Room) s m args below meth c H locs 0 0 Q (F0 m 8 ls []) := by
    intro n6
    induction n6 with
    | zero => intro M x1 x2 x3 H locs ls hf; cases hf
    | succ n6 ih6 =>
      intro M x1 x2 x3 H locs ls hf hM hl
      have hf : fX5_readAll_L8_b rec (fX5_readAll_L8 rec n6) M x1 x2 x3 = some (r, M') := hf
      unfold fX5_readAll_L8_b at hf
      refine lv_iload_n hC.1 hC.2.1 dX5_readAll_8 rfl (lv_at hl 3 rfl) ?_
      refine lv_sipush hC.1 hC.2.1 dX5_readAll_9 cs_200 ?_
      refine lv_icmp_ge (tgt := 51) hC.1 hC.2.1 dX5_readAll_12 (by decide) (fun hc21 => ?_) (fun hc21 => ?_)
      · have hf := o_t hc21 hf
        refine lv_iload_n hC.1 hC.2.1 dX5_readAll_51 rfl (lv_at hl 2 rfl) ?_
        obtain ⟨hg5, hf⟩ := o_g hf
        exact hret (o_r1 hf) (isB_or hg5) (o_r2 hf hM) dX5_readAll_52
      · have hf := o_f hc21 hf
        refine lv_iload_n hC.1 hC.2.1 dX5_readAll_15 rfl (lv_at hl 2 rfl) ?_
        refine lv_if_eq (tgt := 51) hC.1 hC.2.1 dX5_readAll_16 (by decide) (fun hc20 => ?_) (fun hc20 => ?_)
        · have hf := o_t hc20 hf
          refine lv_iload_n hC.1 hC.2.1 dX5_readAll_51 rfl (lv_at hl 2 rfl) ?_
          obtain ⟨hg6, hf⟩ := o_g hf
          exact hret (o_r1 hf) (isB_or hg6) (o_r2 hf hM) dX5_readAll_52
        · have hf := o_f hc20 hf
          refine lv_aload_n hC.1 hC.2.1 dX5_readAll_19 rfl (lv_at hl 0 rfl) ?_
          refine lv_bipush hC.1 hC.2.1 dX5_readAll_20 cb_21 ?_
          obtain ⟨r7, M9, hq8, hf⟩ := o_b2 hf
          refine mw_cVi (As := [.int 21]) (rest := []) hC hM (mcX5_goPast V l M 21 r7 M9 hq8) (mw_kV hC q_688 q_690 q_12 q_111 q_691 ⟨rfl, rfl⟩ kV_X5_goPast ⟨by dsimp only; omega, by dsimp only; omega⟩) (Nat.le_of_ble_eq_true rfl) (eC_33 V) rfl rfl rfl (Nat.le_of_ble_eq_true rfl) hl.1 dX5_readAll_22 (fun H locs hM hb10 => ?_)
          refine lv_if_eq (tgt := 51) hC.1 hC.2.1 dX5_readAll_25 (by decide) (fun hc19 => ?_) (fun hc19 => ?_)
          · have hf := o_t hc19 hf
            refine lv_iload_n hC.1 hC.2.1 dX5_readAll_51 rfl (lv_at hl 2 rfl) ?_
            obtain ⟨hg11, hf⟩ := o_g hf
            exact hret (o_r1 hf) (isB_or hg11) (o_r2 hf hM) dX5_readAll_52
          · have hf := o_f hc19 hf
            refine lv_aload_n hC.1 hC.2.1 dX5_readAll_28 rfl (lv_at hl 0 rfl) ?_
            refine lv_iload_n hC.1 hC.2.1 dX5_readAll_29 rfl (lv_at hl 1 rfl) ?_
            obtain ⟨r12, M14, hq13, hf⟩ := o_b2 hf
            refine mw_cVi (As := [.int x1]) (rest := []) hC hM (mcX5_readOne V l rec d hrec M9 x1 r12 M14 hq13) (mw_kV hC q_700 q_702 q_15 q_111 q_703 ⟨rfl, rfl⟩ kV_X5_readOne ⟨by dsimp only; omega, by dsimp only; omega⟩) (Nat.le_of_ble_eq_true rfl) (eC_33 V) rfl rfl rfl (Nat.le_of_ble_eq_true rfl) hl.1 dX5_readAll_30 (fun H locs hM hb15 => ?_)
            refine lv_istore_n (lv' := [(2, .int r12), (0, .ref (mvA V 33)), (1, .int x1), (3, .int x3)]) hC.1 hC.2.1 dX5_readAll_33 rfl hl (Nat.le_of_ble_eq_true rfl) rfl (fun ls hl => ?_)
            refine lv_aload_n hC.1 hC.2.1 dX5_readAll_34 rfl (lv_at hl 1 rfl) ?_
            refine mw_get (v := .ref (mvA V 34)) hC hM 33 (Nat.le_of_ble_eq_true rfl) (eC_33 V) inW5 rfl 1 (by decide) q_277 (fun _ h9 => h9) rfl dX5_readAll_35 ?_
            refine lv_bipush hC.1 hC.2.1 dX5_readAll_38 cb_21 ?_
            refine lv_iconst hC.1 hC.2.1 dX5_readAll_40 ci_0 ?_
            refine lv_iconst hC.1 hC.2.1 dX5_readAll_41 ci_0 ?_
            obtain ⟨r16, M18, hq17, hf⟩ := o_b2 hf
            refine mw_cVv (As := [.int 21, .int 0, .int 0]) (rest := []) hC hM (mcX6_addStep_q34 V l M14 21 0 0 r16 M18 hq17) (mw_kV hC q_708 q_709 q_710 q_110 q_711 ⟨rfl, rfl⟩ kV_X6_addStep ⟨by dsimp only; omega, by dsimp only; omega⟩) (Nat.le_of_ble_eq_true rfl) (eC_34 V) rfl rfl rfl (Nat.le_of_ble_eq_true rfl) hl.1 dX5_readAll_42 (fun H locs hM => ?_)
            refine lv_iinc (k := 3) (lv' := [(3, .int (x3 + 1)), (2, .int r12), (0, .ref (mvA V 33)), (1, .int x1)]) hC.1 hC.2.1 dX5_readAll_45 hl rfl (inc_1 _) (Nat.le_of_ble_eq_true rfl) rfl (fun ls hl => ?_)
            refine lv_goto (tgt := 8) hC.1 hC.2.1 dX5_readAll_48 (by decide) ?_
            exact ih6 _ _ _ _ _ _ _ hf hM (lv_sub hl [2, 3, 1, 0] rfl)
  refine lv_aload_n hC.1 hC.2.1 dX5_readAll_0 rfl (lv_at hl 0 rfl) ?_
  refine lv_iload_n hC.1 hC.2.1 dX5_readAll_1 rfl (lv_at hl 1 rfl) ?_
  obtain ⟨r1, M3, hq2, hf⟩ := o_b2 hf
  refine mw_cVi (As := [.int p1]) (rest := []) hC hM (mcX5_readOne V l rec d hrec M p1 r1 M3 hq2) (mw_kV hC q_700 q_702 q_15 q_111 q_703 ⟨rfl, rfl⟩ kV_X5_readOne ⟨by dsimp only; omega, by dsimp only; omega⟩) (Nat.le_of_ble_eq_true rfl) (eC_33 V) rfl rfl rfl (Nat.le_of_ble_eq_true rfl) hl.1 dX5_readAll_2 (fun H locs hM hb4 => ?_)
  refine lv_istore_n (lv' := [(2, .int r1), (0, .ref (mvA V 33)), (1, .int p1)]) hC.1 hC.2.1 dX5_readAll_5 rfl hl (Nat.le_of_ble_eq_true rfl) rfl (fun ls hl => ?_)
  refine lv_iconst hC.1 hC.2.1 dX5_readAll_6 ci_0 ?_
  refine lv_istore_n (lv' := [(3, .int 0), (2, .int r1), (0, .ref (mvA V 33)), (1, .int p1)]) hC.1 hC.2.1 dX5_readAll_7 rfl hl (Nat.le_of_ble_eq_true rfl) rfl (fun ls hl => ?_)
  exact hL8 _ _ _ _ _ _ _ _ hf hM (lv_sub hl [2, 3, 1, 0] rfl)
set_option maxHeartbeats 4000000 in
set_option maxRecDepth 100000 in
theorem mcX5_readCond (V : mV) (l : Launch) : ∀ (d : Nat) (M : mM) (p1 : Int32) (r : Int32) (M' : mM), fX5_readCond d M p1 = some (r, M') → ZC V l yX5_readCond cX5_readCond 4 ({ frames := 2 + 3 * d, cells := 0, slots := 0, locals := 46 + 69 * d } : Room) [.ref (mvA V 33), .int p1] M r M' := by
  intro d
  induction d with
  | zero => intro M p1 r M' hf; cases hf
  | succ d ih =>
    intro M p1 r M' hf
    have hf : fX5_readCond_b (fX5_readCond d) M p1 = some (r, M') := hf
    unfold fX5_readCond_b at hf
    refine mw_enterZ RX5 rfl (by decide +kernel) (Nat.le_of_ble_eq_true rfl) (fun {p e s m args below meth c} ls A Q hC hret hM hl => ?_)
    have hl : lv_has ls 4 [(0, .ref (mvA V 33)), (1, .int p1)] := hl
    have hL8 : ∀ (n : Nat) (M : mM) (x1 : Int32) (x2 : Int32) (x3 : Int32) (H : Heap) (locs : List Loc) (ls : Array Slot), fX5_readCond_L8 (fX5_readCond d) n M x1 x2 x3 = some (r, M') → PC V M A s H locs → lv_has ls 4 [(0, .ref (mvA V 33)), (1, .int x1), (2, .int x2), (3, .int x3)] → W p l e ({ frames := 2 + 3 * (d + 1), cells := 0, slots := 0, locals := 46 + 69 * (d + 1) } : Room) s m args below meth c H locs 0 0 Q (F0 m 8 ls []) := by
      intro n6
      induction n6 with
      | zero => intro M x1 x2 x3 H locs ls hf; cases hf
      | succ n6 ih6 =>
        intro M x1 x2 x3 H locs ls hf hM hl
        have hf : fX5_readCond_L8_b (fX5_readCond d) (fX5_readCond_L8 (fX5_readCond d) n6) M x1 x2 x3 = some (r, M') := hf
        unfold fX5_readCond_L8_b at hf
        refine lv_iload_n hC.1 hC.2.1 dX5_readCond_8 rfl (lv_at hl 3 rfl) ?_
        refine lv_sipush hC.1 hC.2.1 dX5_readCond_9 cs_200 ?_
        refine lv_icmp_ge (tgt := 51) hC.1 hC.2.1 dX5_readCond_12 (by decide) (fun hc21 => ?_) (fun hc21 => ?_)
        · have hf := o_t hc21 hf
          refine lv_iload_n hC.1 hC.2.1 dX5_readCond_51 rfl (lv_at hl 2 rfl) ?_
          obtain ⟨hg5, hf⟩ := o_g hf
          exact hret (o_r1 hf) (isB_or hg5) (o_r2 hf hM) dX5_readCond_52
        · have hf := o_f hc21 hf
          refine lv_iload_n hC.1 hC.2.1 dX5_readCond_15 rfl (lv_at hl 2 rfl) ?_
          refine lv_if_eq (tgt := 51) hC.1 hC.2.1 dX5_readCond_16 (by decide) (fun hc20 => ?_) (fun hc20 => ?_)
          · have hf := o_t hc20 hf
            refine lv_iload_n hC.1 hC.2.1 dX5_readCond_51 rfl (lv_at hl 2 rfl) ?_
            obtain ⟨hg6, hf⟩ := o_g hf
            exact hret (o_r1 hf) (isB_or hg6) (o_r2 hf hM) dX5_readCond_52
          · have hf := o_f hc20 hf
            refine lv_aload_n hC.1 hC.2.1 dX5_readCond_19 rfl (lv_at hl 0 rfl) ?_
            refine lv_bipush hC.1 hC.2.1 dX5_readCond_20 cb_22 ?_
            obtain ⟨r7, M9, hq8, hf⟩ := o_b2 hf
            refine mw_cVi (As := [.int 22]) (rest := []) hC hM (mcX5_goPast V l M 22 r7 M9 hq8) (mw_kV hC q_688 q_690 q_12 q_111 q_691 ⟨rfl, rfl⟩ kV_X5_goPast ⟨by dsimp only; omega, by dsimp only; omega⟩) (Nat.le_of_ble_eq_true rfl) (eC_33 V) rfl rfl rfl (Nat.le_of_ble_eq_true rfl) hl.1 dX5_readCond_22 (fun H locs hM hb10 => ?_)
            refine lv_if_eq (tgt := 51) hC.1 hC.2.1 dX5_readCond_25 (by decide) (fun hc19 => ?_) (fun hc19 => ?_)
            · have hf := o_t hc19 hf
              refine lv_iload_n hC.1 hC.2.1 dX5_readCond_51 rfl (lv_at hl 2 rfl) ?_
              obtain ⟨hg11, hf⟩ := o_g hf
              exact hret (o_r1 hf) (isB_or hg11) (o_r2 hf hM) dX5_readCond_52
            · have hf := o_f hc19 hf
              refine lv_aload_n hC.1 hC.2.1 dX5_readCond_28 rfl (lv_at hl 0 rfl) ?_
              refine lv_iload_n hC.1 hC.2.1 dX5_readCond_29 rfl (lv_at hl 1 rfl) ?_
              obtain ⟨r12, M14, hq13, hf⟩ := o_b2 hf
              refine mw_cVi (As := [.int x1]) (rest := []) hC hM (mcX5_readAll V l (fX5_readCond d) d ih M9 x1 r12 M14 hq13) (mw_kV hC q_696 q_698 q_14 q_111 q_699 ⟨rfl, rfl⟩ kV_X5_readAll ⟨by dsimp only; omega, by dsimp only; omega⟩) (Nat.le_of_ble_eq_true rfl) (eC_33 V) rfl rfl rfl (Nat.le_of_ble_eq_true rfl) hl.1 dX5_readCond_30 (fun H locs hM hb15 => ?_)
              refine lv_istore_n (lv' := [(2, .int r12), (0, .ref (mvA V 33)), (1, .int x1), (3, .int x3)]) hC.1 hC.2.1 dX5_readCond_33 rfl hl (Nat.le_of_ble_eq_true rfl) rfl (fun ls hl => ?_)
              refine lv_aload_n hC.1 hC.2.1 dX5_readCond_34 rfl (lv_at hl 1 rfl) ?_
              refine mw_get (v := .ref (mvA V 34)) hC hM 33 (Nat.le_of_ble_eq_true rfl) (eC_33 V) inW5 rfl 1 (by decide) q_277 (fun _ h9 => h9) rfl dX5_readCond_35 ?_
              refine lv_bipush hC.1 hC.2.1 dX5_readCond_38 cb_22 ?_
              refine lv_iconst hC.1 hC.2.1 dX5_readCond_40 ci_0 ?_
              refine lv_iconst hC.1 hC.2.1 dX5_readCond_41 ci_0 ?_
              obtain ⟨r16, M18, hq17, hf⟩ := o_b2 hf
              refine mw_cVv (As := [.int 22, .int 0, .int 0]) (rest := []) hC hM (mcX6_addStep_q34 V l M14 22 0 0 r16 M18 hq17) (mw_kV hC q_708 q_709 q_710 q_110 q_711 ⟨rfl, rfl⟩ kV_X6_addStep ⟨by dsimp only; omega, by dsimp only; omega⟩) (Nat.le_of_ble_eq_true rfl) (eC_34 V) rfl rfl rfl (Nat.le_of_ble_eq_true rfl) hl.1 dX5_readCond_42 (fun H locs hM => ?_)
              refine lv_iinc (k := 3) (lv' := [(3, .int (x3 + 1)), (2, .int r12), (0, .ref (mvA V 33)), (1, .int x1)]) hC.1 hC.2.1 dX5_readCond_45 hl rfl (inc_1 _) (Nat.le_of_ble_eq_true rfl) rfl (fun ls hl => ?_)
              refine lv_goto (tgt := 8) hC.1 hC.2.1 dX5_readCond_48 (by decide) ?_
              exact ih6 _ _ _ _ _ _ _ hf hM (lv_sub hl [2, 3, 1, 0] rfl)
    refine lv_aload_n hC.1 hC.2.1 dX5_readCond_0 rfl (lv_at hl 0 rfl) ?_
    refine lv_iload_n hC.1 hC.2.1 dX5_readCond_1 rfl (lv_at hl 1 rfl) ?_
    obtain ⟨r1, M3, hq2, hf⟩ := o_b2 hf
    refine mw_cVi (As := [.int p1]) (rest := []) hC hM (mcX5_readAll V l (fX5_readCond d) d ih M p1 r1 M3 hq2) (mw_kV hC q_696 q_698 q_14 q_111 q_699 ⟨rfl, rfl⟩ kV_X5_readAll ⟨by dsimp only; omega, by dsimp only; omega⟩) (Nat.le_of_ble_eq_true rfl) (eC_33 V) rfl rfl rfl (Nat.le_of_ble_eq_true rfl) hl.1 dX5_readCond_2 (fun H locs hM hb4 => ?_)
    refine lv_istore_n (lv' := [(2, .int r1), (0, .ref (mvA V 33)), (1, .int p1)]) hC.1 hC.2.1 dX5_readCond_5 rfl hl (Nat.le_of_ble_eq_true rfl) rfl (fun ls hl => ?_)
    refine lv_iconst hC.1 hC.2.1 dX5_readCond_6 ci_0 ?_
    refine lv_istore_n (lv' := [(3, .int 0), (2, .int r1), (0, .ref (mvA V 33)), (1, .int p1)]) hC.1 hC.2.1 dX5_readCond_7 rfl hl (Nat.le_of_ble_eq_true rfl) rfl (fun ls hl => ?_)
    exact hL8 _ _ _ _ _ _ _ _ hf hM (lv_sub hl [2, 3, 1, 0] rfl)
set_option maxHeartbeats 4000000 in
set_option maxRecDepth 100000 in
theorem mcX6_addRule_q34 (V : mV) (l : Launch) (M : mM) (p1 : Int32) (p2 : Int32) (p3 : Int32) (r : Int32) (M' : mM) (hf : fX6_addRule_q34 M p1 p2 p3 = some (r, M')) : UC V l yX6_addRule cX6_addRule 4 ({ frames := 0, cells := 0, slots := 0, locals := 0 } : Room) [.ref (mvA V 34), .int p1, .int p2, .int p3] M M' := by
  unfold fX6_addRule_q34 at hf
  refine mw_enterV RX6 rfl (by decide +kernel) (Nat.le_of_ble_eq_true rfl) (fun {p e s m args below meth c} ls A Q hC hret hM hl => ?_)
  have hl : lv_has ls 4 [(0, .ref (mvA V 34)), (1, .int p1), (2, .int p2), (3, .int p3)] := hl
  refine lv_aload_n hC.1 hC.2.1 dX6_addRule_0 rfl (lv_at hl 0 rfl) ?_
  refine mw_get (v := .int (M 34 0)) hC hM 34 (Nat.le_of_ble_eq_true rfl) (eC_34 V) inW6 rfl 0 (by decide) q_169 (fun _ h9 => h9) rfl dX6_addRule_1 ?_
  refine lv_bipush hC.1 hC.2.1 dX6_addRule_4 cb_8 ?_
  refine lv_icmp_ge (tgt := 62) hC.1 hC.2.1 dX6_addRule_6 (by decide) (fun hc5 => ?_) (fun hc5 => ?_)
  · have hf := o_t hc5 hf
    exact hret (o_r2 hf hM) dX6_addRule_62
  · have hf := o_f hc5 hf
    refine lv_aload_n hC.1 hC.2.1 dX6_addRule_9 rfl (lv_at hl 0 rfl) ?_
    refine mw_get (v := .ref (mvA V 35)) hC hM 34 (Nat.le_of_ble_eq_true rfl) (eC_34 V) inW6 rfl 1 (by decide) q_171 (fun _ h9 => h9) rfl dX6_addRule_10 ?_
    refine lv_aload_n hC.1 hC.2.1 dX6_addRule_13 rfl (lv_at hl 0 rfl) ?_
    refine mw_get (v := .int (M 34 0)) hC hM 34 (Nat.le_of_ble_eq_true rfl) (eC_34 V) inW6 rfl 0 (by decide) q_169 (fun _ h9 => h9) rfl dX6_addRule_14 ?_
    refine lv_iload_n hC.1 hC.2.1 dX6_addRule_17 rfl (lv_at hl 1 rfl) ?_
    obtain ⟨hg1, hf⟩ := o_g hf
    refine mw_iast hC hM 35 0 (Nat.le_of_ble_eq_true rfl) (eC_35 V) rfl hg1 dX6_addRule_18 (fun H locs hM => ?_)
    refine lv_aload_n hC.1 hC.2.1 dX6_addRule_19 rfl (lv_at hl 0 rfl) ?_
    refine mw_get (v := .ref (mvA V 36)) hC hM 34 (Nat.le_of_ble_eq_true rfl) (eC_34 V) inW6 rfl 2 (by decide) q_172 (fun _ h9 => h9) rfl dX6_addRule_20 ?_
    refine lv_aload_n hC.1 hC.2.1 dX6_addRule_23 rfl (lv_at hl 0 rfl) ?_
    refine mw_get (v := .int ((wr M 35 (Int32.toNatClampNeg (M 34 0)) p1) 34 0)) hC hM 34 (Nat.le_of_ble_eq_true rfl) (eC_34 V) inW6 rfl 0 (by decide) q_169 (fun _ h9 => h9) rfl dX6_addRule_24 ?_
    refine lv_iload_n hC.1 hC.2.1 dX6_addRule_27 rfl (lv_at hl 2 rfl) ?_
    obtain ⟨hg2, hf⟩ := o_g hf
    refine mw_iast hC hM 36 0 (Nat.le_of_ble_eq_true rfl) (eC_36 V) rfl hg2 dX6_addRule_28 (fun H locs hM => ?_)
    refine lv_aload_n hC.1 hC.2.1 dX6_addRule_29 rfl (lv_at hl 0 rfl) ?_
    refine mw_get (v := .ref (mvA V 37)) hC hM 34 (Nat.le_of_ble_eq_true rfl) (eC_34 V) inW6 rfl 3 (by decide) q_173 (fun _ h9 => h9) rfl dX6_addRule_30 ?_
    refine lv_aload_n hC.1 hC.2.1 dX6_addRule_33 rfl (lv_at hl 0 rfl) ?_
    refine mw_get (v := .int ((wr (wr M 35 (Int32.toNatClampNeg (M 34 0)) p1) 36 (Int32.toNatClampNeg ((wr M 35 (Int32.toNatClampNeg (M 34 0)) p1) 34 0)) p2) 34 0)) hC hM 34 (Nat.le_of_ble_eq_true rfl) (eC_34 V) inW6 rfl 0 (by decide) q_169 (fun _ h9 => h9) rfl dX6_addRule_34 ?_
    refine lv_iload_n hC.1 hC.2.1 dX6_addRule_37 rfl (lv_at hl 3 rfl) ?_
    obtain ⟨hg3, hf⟩ := o_g hf
    refine mw_iast hC hM 37 0 (Nat.le_of_ble_eq_true rfl) (eC_37 V) rfl hg3 dX6_addRule_38 (fun H locs hM => ?_)
    refine lv_aload_n hC.1 hC.2.1 dX6_addRule_39 rfl (lv_at hl 0 rfl) ?_
    refine mw_get (v := .ref (mvA V 38)) hC hM 34 (Nat.le_of_ble_eq_true rfl) (eC_34 V) inW6 rfl 4 (by decide) q_174 (fun _ h9 => h9) rfl dX6_addRule_40 ?_
    refine lv_aload_n hC.1 hC.2.1 dX6_addRule_43 rfl (lv_at hl 0 rfl) ?_
    refine mw_get (v := .int ((wr (wr (wr M 35 (Int32.toNatClampNeg (M 34 0)) p1) 36 (Int32.toNatClampNeg ((wr M 35 (Int32.toNatClampNeg (M 34 0)) p1) 34 0)) p2) 37 (Int32.toNatClampNeg ((wr (wr M 35 (Int32.toNatClampNeg (M 34 0)) p1) 36 (Int32.toNatClampNeg ((wr M 35 (Int32.toNatClampNeg (M 34 0)) p1) 34 0)) p2) 34 0)) p3) 34 0)) hC hM 34 (Nat.le_of_ble_eq_true rfl) (eC_34 V) inW6 rfl 0 (by decide) q_169 (fun _ h9 => h9) rfl dX6_addRule_44 ?_
    refine lv_aload_n hC.1 hC.2.1 dX6_addRule_47 rfl (lv_at hl 0 rfl) ?_
    refine mw_get (v := .int ((wr (wr (wr M 35 (Int32.toNatClampNeg (M 34 0)) p1) 36 (Int32.toNatClampNeg ((wr M 35 (Int32.toNatClampNeg (M 34 0)) p1) 34 0)) p2) 37 (Int32.toNatClampNeg ((wr (wr M 35 (Int32.toNatClampNeg (M 34 0)) p1) 36 (Int32.toNatClampNeg ((wr M 35 (Int32.toNatClampNeg (M 34 0)) p1) 34 0)) p2) 34 0)) p3) 34 5)) hC hM 34 (Nat.le_of_ble_eq_true rfl) (eC_34 V) inW6 rfl 5 (by decide) q_175 (fun _ h9 => h9) rfl dX6_addRule_48 ?_
    obtain ⟨hg4, hf⟩ := o_g hf
    refine mw_iast hC hM 38 0 (Nat.le_of_ble_eq_true rfl) (eC_38 V) rfl hg4 dX6_addRule_51 (fun H locs hM => ?_)
    refine lv_aload_n hC.1 hC.2.1 dX6_addRule_52 rfl (lv_at hl 0 rfl) ?_
    refine lv_dup hC.1 hC.2.1 dX6_addRule_53 rfl ?_
    refine mw_get (v := .int ((wr (wr (wr (wr M 35 (Int32.toNatClampNeg (M 34 0)) p1) 36 (Int32.toNatClampNeg ((wr M 35 (Int32.toNatClampNeg (M 34 0)) p1) 34 0)) p2) 37 (Int32.toNatClampNeg ((wr (wr M 35 (Int32.toNatClampNeg (M 34 0)) p1) 36 (Int32.toNatClampNeg ((wr M 35 (Int32.toNatClampNeg (M 34 0)) p1) 34 0)) p2) 34 0)) p3) 38 (Int32.toNatClampNeg ((wr (wr (wr M 35 (Int32.toNatClampNeg (M 34 0)) p1) 36 (Int32.toNatClampNeg ((wr M 35 (Int32.toNatClampNeg (M 34 0)) p1) 34 0)) p2) 37 (Int32.toNatClampNeg ((wr (wr M 35 (Int32.toNatClampNeg (M 34 0)) p1) 36 (Int32.toNatClampNeg ((wr M 35 (Int32.toNatClampNeg (M 34 0)) p1) 34 0)) p2) 34 0)) p3) 34 0)) ((wr (wr (wr M 35 (Int32.toNatClampNeg (M 34 0)) p1) 36 (Int32.toNatClampNeg ((wr M 35 (Int32.toNatClampNeg (M 34 0)) p1) 34 0)) p2) 37 (Int32.toNatClampNeg ((wr (wr M 35 (Int32.toNatClampNeg (M 34 0)) p1) 36 (Int32.toNatClampNeg ((wr M 35 (Int32.toNatClampNeg (M 34 0)) p1) 34 0)) p2) 34 0)) p3) 34 5)) 34 0)) hC hM 34 (Nat.le_of_ble_eq_true rfl) (eC_34 V) inW6 rfl 0 (by decide) q_169 (fun _ h9 => h9) rfl dX6_addRule_54 ?_
    refine lv_iconst hC.1 hC.2.1 dX6_addRule_57 ci_1 ?_
    refine lv_iadd hC.1 hC.2.1 dX6_addRule_58 ?_
    refine mw_put hC hM 34 (Nat.le_of_ble_eq_true rfl) (eC_34 V) inW6 tyX6 tyX6_ok nmX6 rfl 0 (by decide) q_169 (fun _ h9 => h9) rfl rfl rfl (Nat.le_of_ble_eq_true rfl) rfl dX6_addRule_59 (fun H locs hM => ?_)
    exact hret (o_r2 hf hM) dX6_addRule_62
set_option maxHeartbeats 4000000 in
set_option maxRecDepth 100000 in
theorem mcX5_readRule (V : mV) (l : Launch) (M : mM) (r : Int32) (M' : mM) (hf : fX5_readRule M = some (r, M')) : ZC V l yX5_readRule cX5_readRule 4 ({ frames := 21, cells := 0, slots := 0, locals := 483 } : Room) [.ref (mvA V 33)] M r M' := by
  unfold fX5_readRule at hf
  refine mw_enterZ RX5 rfl (by decide +kernel) (Nat.le_of_ble_eq_true rfl) (fun {p e s m args below meth c} ls A Q hC hret hM hl => ?_)
  have hl : lv_has ls 4 [(0, .ref (mvA V 33))] := hl
  have hL150 : ∀ (M : mM) (x1 : Int32) (x2 : Int32) (x3 : Int32) (H : Heap) (locs : List Loc) (ls : Array Slot), fX5_readRule_L150 M x1 x2 x3 = some (r, M') → PC V M A s H locs → lv_has ls 4 [(0, .ref (mvA V 33)), (1, .int x1), (2, .int x2), (3, .int x3)] → W p l e ({ frames := 21, cells := 0, slots := 0, locals := 483 } : Room) s m args below meth c H locs 0 0 Q (F0 m 150 ls []) := by
    intro M x1 x2 x3 H locs ls hf hM hl
    unfold fX5_readRule_L150 at hf
    refine lv_aload_n hC.1 hC.2.1 dX5_readRule_150 rfl (lv_at hl 0 rfl) ?_
    refine mw_get (v := .ref (mvA V 34)) hC hM 33 (Nat.le_of_ble_eq_true rfl) (eC_33 V) inW5 rfl 1 (by decide) q_277 (fun _ h9 => h9) rfl dX5_readRule_151 ?_
    refine lv_iload_n hC.1 hC.2.1 dX5_readRule_154 rfl (lv_at hl 1 rfl) ?_
    refine lv_iload_n hC.1 hC.2.1 dX5_readRule_155 rfl (lv_at hl 2 rfl) ?_
    refine lv_iload_n hC.1 hC.2.1 dX5_readRule_156 rfl (lv_at hl 3 rfl) ?_
    obtain ⟨r22, M24, hq23, hf⟩ := o_b2 hf
    refine mw_cVv (As := [.int x1, .int x2, .int x3]) (rest := []) hC hM (mcX6_addRule_q34 V l M x1 x2 x3 r22 M24 hq23) (mw_kV hC q_712 q_713 q_714 q_110 q_715 ⟨rfl, rfl⟩ kV_X6_addRule ⟨Nat.le_of_ble_eq_true rfl, Nat.le_of_ble_eq_true rfl⟩) (Nat.le_of_ble_eq_true rfl) (eC_34 V) rfl rfl rfl (Nat.le_of_ble_eq_true rfl) hl.1 dX5_readRule_157 (fun H locs hM => ?_)
    refine lv_aload_n hC.1 hC.2.1 dX5_readRule_160 rfl (lv_at hl 0 rfl) ?_
    refine lv_bipush hC.1 hC.2.1 dX5_readRule_161 cb_36 ?_
    obtain ⟨r25, M27, hq26, hf⟩ := o_b2 hf
    refine mw_cVi (As := [.int 36]) (rest := []) hC hM (mcX5_goPast V l M24 36 r25 M27 hq26) (mw_kV hC q_688 q_690 q_12 q_111 q_691 ⟨rfl, rfl⟩ kV_X5_goPast ⟨Nat.le_of_ble_eq_true rfl, Nat.le_of_ble_eq_true rfl⟩) (Nat.le_of_ble_eq_true rfl) (eC_33 V) rfl rfl rfl (Nat.le_of_ble_eq_true rfl) hl.1 dX5_readRule_163 (fun H locs hM hb28 => ?_)
    exact hret (o_r1 hf) hb28 (o_r2 hf hM) dX5_readRule_166
  have hL127 : ∀ (M : mM) (x1 : Int32) (x2 : Int32) (t0 : Int32) (H : Heap) (locs : List Loc) (ls : Array Slot), fX5_readRule_L127 M x1 x2 t0 = some (r, M') → PC V M A s H locs → lv_has ls 4 [(0, .ref (mvA V 33)), (1, .int x1), (2, .int x2)] → W p l e ({ frames := 21, cells := 0, slots := 0, locals := 483 } : Room) s m args below meth c H locs 0 0 Q (F0 m 127 ls [.int t0]) := by
    intro M x1 x2 t0 H locs ls hf hM hl
    unfold fX5_readRule_L127 at hf
    refine lv_istore_n (lv' := [(3, .int t0), (0, .ref (mvA V 33)), (1, .int x1), (2, .int x2)]) hC.1 hC.2.1 dX5_readRule_127 rfl hl (Nat.le_of_ble_eq_true rfl) rfl (fun ls hl => ?_)
    refine lv_iload_n hC.1 hC.2.1 dX5_readRule_128 rfl (lv_at hl 0 rfl) ?_
    refine lv_iconst hC.1 hC.2.1 dX5_readRule_129 ci_0 ?_
    refine lv_bipush hC.1 hC.2.1 dX5_readRule_130 cb_99 ?_
    refine mw_cNi (As := [.int t0, .int 0, .int 99]) (rest := []) hC hM (mcX11_isIn V l M t0 0 99 _ rfl) (mw_kN hC (mw_nw hC 1 rfl) q_469 q_107 q_470 ⟨rfl, rfl⟩ kS_X11_isIn ⟨Nat.le_of_ble_eq_true rfl, Nat.le_of_ble_eq_true rfl⟩) rfl rfl (Nat.le_of_ble_eq_true rfl) hl.1 dX5_readRule_132 (fun H locs hM hb29 => ?_)
    refine lv_if_ne (tgt := 140) hC.1 hC.2.1 dX5_readRule_135 (by decide) (fun hc30 => ?_) (fun hc30 => ?_)
    · have hf := o_f hc30 hf
      refine lv_aload_n hC.1 hC.2.1 dX5_readRule_140 rfl (lv_at hl 1 rfl) ?_
      refine lv_dup hC.1 hC.2.1 dX5_readRule_141 rfl ?_
      refine mw_get (v := .int (M 33 7)) hC hM 33 (Nat.le_of_ble_eq_true rfl) (eC_33 V) inW5 rfl 7 (by decide) q_284 (fun _ h9 => h9) rfl dX5_readRule_142 ?_
      refine lv_iconst hC.1 hC.2.1 dX5_readRule_145 ci_1 ?_
      refine lv_iadd hC.1 hC.2.1 dX5_readRule_146 ?_
      refine mw_put hC hM 33 (Nat.le_of_ble_eq_true rfl) (eC_33 V) inW5 tyX5 tyX5_ok nmX5 rfl 7 (by decide) q_284 (fun _ h9 => h9) rfl rfl rfl (Nat.le_of_ble_eq_true rfl) rfl dX5_readRule_147 (fun H locs hM => ?_)
      exact hL150 _ _ _ _ _ _ _ hf hM (lv_sub hl [1, 2, 3, 0] rfl)
    · have hf := o_t hc30 hf
      refine lv_iconst hC.1 hC.2.1 dX5_readRule_138 ci_0 ?_
      exact hret (o_r1 hf) (Or.inl rfl) (o_r2 hf hM) dX5_readRule_139
  have hL50 : ∀ (M : mM) (x1 : Int32) (H : Heap) (locs : List Loc) (ls : Array Slot), fX5_readRule_L50 M x1 = some (r, M') → PC V M A s H locs → lv_has ls 4 [(0, .ref (mvA V 33)), (1, .int x1)] → W p l e ({ frames := 21, cells := 0, slots := 0, locals := 483 } : Room) s m args below meth c H locs 0 0 Q (F0 m 50 ls []) := by
    intro M x1 H locs ls hf hM hl
    unfold fX5_readRule_L50 at hf
    refine lv_aload_n hC.1 hC.2.1 dX5_readRule_50 rfl (lv_at hl 0 rfl) ?_
    refine mw_get (v := .ref (mvA V 44)) hC hM 33 (Nat.le_of_ble_eq_true rfl) (eC_33 V) inW5 rfl 4 (by decide) q_281 (fun _ h9 => h9) rfl dX5_readRule_51 ?_
    refine lv_aload_n hC.1 hC.2.1 dX5_readRule_54 rfl (lv_at hl 0 rfl) ?_
    refine mw_get (v := .int (M 33 7)) hC hM 33 (Nat.le_of_ble_eq_true rfl) (eC_33 V) inW5 rfl 7 (by decide) q_284 (fun _ h9 => h9) rfl dX5_readRule_55 ?_
    obtain ⟨hg14, hf⟩ := o_g hf
    refine mw_iald hC hM 44 0 (Nat.le_of_ble_eq_true rfl) (eC_44 V) rfl hg14 dX5_readRule_58 ?_
    refine lv_istore_n (lv' := [(2, .int (M 44 (Int32.toNatClampNeg (M 33 7)))), (0, .ref (mvA V 33)), (1, .int x1)]) hC.1 hC.2.1 dX5_readRule_59 rfl hl (Nat.le_of_ble_eq_true rfl) rfl (fun ls hl => ?_)
    refine lv_iload_n hC.1 hC.2.1 dX5_readRule_60 rfl (lv_at hl 0 rfl) ?_
    refine lv_bipush hC.1 hC.2.1 dX5_readRule_61 cb_24 ?_
    refine lv_bipush hC.1 hC.2.1 dX5_readRule_63 cb_26 ?_
    refine mw_cNi (As := [.int (M 44 (Int32.toNatClampNeg (M 33 7))), .int 24, .int 26]) (rest := []) hC hM (mcX11_isIn V l M (M 44 (Int32.toNatClampNeg (M 33 7))) 24 26 _ rfl) (mw_kN hC (mw_nw hC 1 rfl) q_469 q_107 q_470 ⟨rfl, rfl⟩ kS_X11_isIn ⟨Nat.le_of_ble_eq_true rfl, Nat.le_of_ble_eq_true rfl⟩) rfl rfl (Nat.le_of_ble_eq_true rfl) hl.1 dX5_readRule_65 (fun H locs hM hb15 => ?_)
    refine lv_if_ne (tgt := 73) hC.1 hC.2.1 dX5_readRule_68 (by decide) (fun hc21 => ?_) (fun hc21 => ?_)
    · have hf := o_f hc21 hf
      refine lv_aload_n hC.1 hC.2.1 dX5_readRule_73 rfl (lv_at hl 1 rfl) ?_
      refine lv_dup hC.1 hC.2.1 dX5_readRule_74 rfl ?_
      refine mw_get (v := .int (M 33 7)) hC hM 33 (Nat.le_of_ble_eq_true rfl) (eC_33 V) inW5 rfl 7 (by decide) q_284 (fun _ h9 => h9) rfl dX5_readRule_75 ?_
      refine lv_iconst hC.1 hC.2.1 dX5_readRule_78 ci_1 ?_
      refine lv_iadd hC.1 hC.2.1 dX5_readRule_79 ?_
      refine mw_put hC hM 33 (Nat.le_of_ble_eq_true rfl) (eC_33 V) inW5 tyX5 tyX5_ok nmX5 rfl 7 (by decide) q_284 (fun _ h9 => h9) rfl rfl rfl (Nat.le_of_ble_eq_true rfl) rfl dX5_readRule_80 (fun H locs hM => ?_)
      refine lv_iconst hC.1 hC.2.1 dX5_readRule_83 ci_0 ?_
      refine lv_istore_n (lv' := [(3, .int 0), (2, .int (M 44 (Int32.toNatClampNeg (M 33 7)))), (0, .ref (mvA V 33)), (1, .int x1)]) hC.1 hC.2.1 dX5_readRule_84 rfl hl (Nat.le_of_ble_eq_true rfl) rfl (fun ls hl => ?_)
      refine lv_iload_n hC.1 hC.2.1 dX5_readRule_85 rfl (lv_at hl 1 rfl) ?_
      refine lv_bipush hC.1 hC.2.1 dX5_readRule_86 cb_26 ?_
      refine lv_icmp_eq (tgt := 150) hC.1 hC.2.1 dX5_readRule_88 (by decide) (fun hc20 => ?_) (fun hc20 => ?_)
      · have hf := o_t hc20 hf
        exact hL150 _ _ _ _ _ _ _ hf hM (lv_sub hl [2, 3, 1, 0] rfl)
      · have hf := o_f hc20 hf
        refine lv_aload_n hC.1 hC.2.1 dX5_readRule_91 rfl (lv_at hl 2 rfl) ?_
        refine mw_get (v := .ref (mvA V 44)) hC hM 33 (Nat.le_of_ble_eq_true rfl) (eC_33 V) inW5 rfl 4 (by decide) q_281 (fun _ h9 => h9) rfl dX5_readRule_92 ?_
        refine lv_aload_n hC.1 hC.2.1 dX5_readRule_95 rfl (lv_at hl 2 rfl) ?_
        refine mw_get (v := .int ((wr M 33 7 ((M 33 7) + 1)) 33 7)) hC hM 33 (Nat.le_of_ble_eq_true rfl) (eC_33 V) inW5 rfl 7 (by decide) q_284 (fun _ h9 => h9) rfl dX5_readRule_96 ?_
        obtain ⟨hg16, hf⟩ := o_g hf
        refine mw_iald hC hM 44 0 (Nat.le_of_ble_eq_true rfl) (eC_44 V) rfl hg16 dX5_readRule_99 ?_
        refine lv_bipush hC.1 hC.2.1 dX5_readRule_100 cb_30 ?_
        refine lv_icmp_ne (tgt := 125) hC.1 hC.2.1 dX5_readRule_102 (by decide) (fun hc19 => ?_) (fun hc19 => ?_)
        · have hf := o_f hc19 hf
          refine lv_bipush hC.1 hC.2.1 dX5_readRule_125 cb_m3 ?_
          exact hL127 _ _ _ _ _ _ _ hf hM (lv_sub hl [2, 3, 1] rfl)
        · have hf := o_t hc19 hf
          refine lv_aload_n hC.1 hC.2.1 dX5_readRule_105 rfl (lv_at hl 2 rfl) ?_
          refine mw_get (v := .ref (mvA V 34)) hC hM 33 (Nat.le_of_ble_eq_true rfl) (eC_33 V) inW5 rfl 1 (by decide) q_277 (fun _ h9 => h9) rfl dX5_readRule_106 ?_
          refine mw_get (v := .ref (mvA V 42)) hC hM 34 (Nat.le_of_ble_eq_true rfl) (eC_34 V) inW6 rfl 10 (by decide) q_181 (fun _ h9 => h9) rfl dX5_readRule_109 ?_
          refine lv_aload_n hC.1 hC.2.1 dX5_readRule_112 rfl (lv_at hl 2 rfl) ?_
          refine mw_get (v := .ref (mvA V 46)) hC hM 33 (Nat.le_of_ble_eq_true rfl) (eC_33 V) inW5 rfl 6 (by decide) q_283 (fun _ h9 => h9) rfl dX5_readRule_113 ?_
          refine lv_aload_n hC.1 hC.2.1 dX5_readRule_116 rfl (lv_at hl 2 rfl) ?_
          refine mw_get (v := .int ((wr M 33 7 ((M 33 7) + 1)) 33 7)) hC hM 33 (Nat.le_of_ble_eq_true rfl) (eC_33 V) inW5 rfl 7 (by decide) q_284 (fun _ h9 => h9) rfl dX5_readRule_117 ?_
          obtain ⟨hg17, hf⟩ := o_g hf
          refine mw_iald hC hM 46 0 (Nat.le_of_ble_eq_true rfl) (eC_46 V) rfl hg17 dX5_readRule_120 ?_
          obtain ⟨hg18, hf⟩ := o_g hf
          refine mw_iald hC hM 42 0 (Nat.le_of_ble_eq_true rfl) (eC_42 V) rfl hg18 dX5_readRule_121 ?_
          refine lv_goto (tgt := 127) hC.1 hC.2.1 dX5_readRule_122 (by decide) ?_
          exact hL127 _ _ _ _ _ _ _ hf hM (lv_sub hl [2, 3, 1] rfl)
    · have hf := o_t hc21 hf
      refine lv_iconst hC.1 hC.2.1 dX5_readRule_71 ci_0 ?_
      exact hret (o_r1 hf) (Or.inl rfl) (o_r2 hf hM) dX5_readRule_72
  refine lv_aload_n hC.1 hC.2.1 dX5_readRule_0 rfl (lv_at hl 0 rfl) ?_
  refine mw_get (v := .ref (mvA V 44)) hC hM 33 (Nat.le_of_ble_eq_true rfl) (eC_33 V) inW5 rfl 4 (by decide) q_281 (fun _ h9 => h9) rfl dX5_readRule_1 ?_
  refine lv_aload_n hC.1 hC.2.1 dX5_readRule_4 rfl (lv_at hl 0 rfl) ?_
  refine mw_get (v := .int (M 33 7)) hC hM 33 (Nat.le_of_ble_eq_true rfl) (eC_33 V) inW5 rfl 7 (by decide) q_284 (fun _ h9 => h9) rfl dX5_readRule_5 ?_
  obtain ⟨hg1, hf⟩ := o_g hf
  refine mw_iald hC hM 44 0 (Nat.le_of_ble_eq_true rfl) (eC_44 V) rfl hg1 dX5_readRule_8 ?_
  refine lv_istore_n (lv' := [(1, .int (M 44 (Int32.toNatClampNeg (M 33 7)))), (0, .ref (mvA V 33))]) hC.1 hC.2.1 dX5_readRule_9 rfl hl (Nat.le_of_ble_eq_true rfl) rfl (fun ls hl => ?_)
  refine lv_iload_n hC.1 hC.2.1 dX5_readRule_10 rfl (lv_at hl 0 rfl) ?_
  refine lv_iconst hC.1 hC.2.1 dX5_readRule_11 ci_0 ?_
  refine lv_iconst hC.1 hC.2.1 dX5_readRule_12 ci_5 ?_
  refine mw_cNi (As := [.int (M 44 (Int32.toNatClampNeg (M 33 7))), .int 0, .int 5]) (rest := []) hC hM (mcX11_isIn V l M (M 44 (Int32.toNatClampNeg (M 33 7))) 0 5 _ rfl) (mw_kN hC (mw_nw hC 1 rfl) q_469 q_107 q_470 ⟨rfl, rfl⟩ kS_X11_isIn ⟨Nat.le_of_ble_eq_true rfl, Nat.le_of_ble_eq_true rfl⟩) rfl rfl (Nat.le_of_ble_eq_true rfl) hl.1 dX5_readRule_13 (fun H locs hM hb2 => ?_)
  refine lv_if_ne (tgt := 21) hC.1 hC.2.1 dX5_readRule_16 (by decide) (fun hc13 => ?_) (fun hc13 => ?_)
  · have hf := o_f hc13 hf
    refine lv_aload_n hC.1 hC.2.1 dX5_readRule_21 rfl (lv_at hl 1 rfl) ?_
    refine lv_dup hC.1 hC.2.1 dX5_readRule_22 rfl ?_
    refine mw_get (v := .int (M 33 7)) hC hM 33 (Nat.le_of_ble_eq_true rfl) (eC_33 V) inW5 rfl 7 (by decide) q_284 (fun _ h9 => h9) rfl dX5_readRule_23 ?_
    refine lv_iconst hC.1 hC.2.1 dX5_readRule_26 ci_1 ?_
    refine lv_iadd hC.1 hC.2.1 dX5_readRule_27 ?_
    refine mw_put hC hM 33 (Nat.le_of_ble_eq_true rfl) (eC_33 V) inW5 tyX5 tyX5_ok nmX5 rfl 7 (by decide) q_284 (fun _ h9 => h9) rfl rfl rfl (Nat.le_of_ble_eq_true rfl) rfl dX5_readRule_28 (fun H locs hM => ?_)
    refine lv_aload_n hC.1 hC.2.1 dX5_readRule_31 rfl (lv_at hl 1 rfl) ?_
    refine lv_bipush hC.1 hC.2.1 dX5_readRule_32 cb_20 ?_
    obtain ⟨r3, M5, hq4, hf⟩ := o_b2 hf
    refine mw_cVi (As := [.int 20]) (rest := []) hC hM (mcX5_goPast V l (wr M 33 7 ((M 33 7) + 1)) 20 r3 M5 hq4) (mw_kV hC q_688 q_690 q_12 q_111 q_691 ⟨rfl, rfl⟩ kV_X5_goPast ⟨Nat.le_of_ble_eq_true rfl, Nat.le_of_ble_eq_true rfl⟩) (Nat.le_of_ble_eq_true rfl) (eC_33 V) rfl rfl rfl (Nat.le_of_ble_eq_true rfl) hl.1 dX5_readRule_34 (fun H locs hM hb6 => ?_)
    refine lv_if_eq (tgt := 50) hC.1 hC.2.1 dX5_readRule_37 (by decide) (fun hc12 => ?_) (fun hc12 => ?_)
    · have hf := o_t hc12 hf
      exact hL50 _ _ _ _ _ hf hM (lv_sub hl [1, 0] rfl)
    · have hf := o_f hc12 hf
      refine lv_aload_n hC.1 hC.2.1 dX5_readRule_40 rfl (lv_at hl 1 rfl) ?_
      refine lv_iconst hC.1 hC.2.1 dX5_readRule_41 ci_0 ?_
      obtain ⟨r7, M9, hq8, hf⟩ := o_b2 hf
      refine mw_cVi (As := [.int 0]) (rest := []) hC hM (mcX5_readCond V l 6 M5 0 r7 M9 hq8) (mw_kV hC q_692 q_694 q_13 q_111 q_695 ⟨rfl, rfl⟩ kV_X5_readCond ⟨Nat.le_of_ble_eq_true rfl, Nat.le_of_ble_eq_true rfl⟩) (Nat.le_of_ble_eq_true rfl) (eC_33 V) rfl rfl rfl (Nat.le_of_ble_eq_true rfl) hl.1 dX5_readRule_42 (fun H locs hM hb10 => ?_)
      refine lv_if_ne (tgt := 50) hC.1 hC.2.1 dX5_readRule_45 (by decide) (fun hc11 => ?_) (fun hc11 => ?_)
      · have hf := o_f hc11 hf
        exact hL50 _ _ _ _ _ hf hM (lv_sub hl [1, 0] rfl)
      · have hf := o_t hc11 hf
        refine lv_iconst hC.1 hC.2.1 dX5_readRule_48 ci_0 ?_
        exact hret (o_r1 hf) (Or.inl rfl) (o_r2 hf hM) dX5_readRule_49
  · have hf := o_t hc13 hf
    refine lv_iconst hC.1 hC.2.1 dX5_readRule_19 ci_0 ?_
    exact hret (o_r1 hf) (Or.inl rfl) (o_r2 hf hM) dX5_readRule_20
set_option maxHeartbeats 4000000 in
set_option maxRecDepth 100000 in
theorem mcX5_read (V : mV) (l : Launch) (M : mM) (r : Int32) (M' : mM) (hf : fX5_read M = some (r, M')) : IC V l yX5_read cX5_read 3 ({ frames := 22, cells := 0, slots := 0, locals := 506 } : Room) [.ref (mvA V 33)] M r M' := by
  unfold fX5_read at hf
  refine mw_enterI RX5 rfl (by decide +kernel) (Nat.le_of_ble_eq_true rfl) (fun {p e s m args below meth c} ls A Q hC hret hM hl => ?_)
  have hl : lv_has ls 3 [(0, .ref (mvA V 33))] := hl
  have hL60 : ∀ (M : mM) (x1 : Int32) (H : Heap) (locs : List Loc) (ls : Array Slot), fX5_read_L60 M x1 = some (r, M') → PC V M A s H locs → lv_has ls 3 [(0, .ref (mvA V 33)), (1, .int x1)] → W p l e ({ frames := 22, cells := 0, slots := 0, locals := 506 } : Room) s m args below meth c H locs 0 0 Q (F0 m 60 ls []) := by
    intro M x1 H locs ls hf hM hl
    unfold fX5_read_L60 at hf
    refine lv_aload_n hC.1 hC.2.1 dX5_read_60 rfl (lv_at hl 0 rfl) ?_
    refine mw_get (v := .ref (mvA V 44)) hC hM 33 (Nat.le_of_ble_eq_true rfl) (eC_33 V) inW5 rfl 4 (by decide) q_281 (fun _ h9 => h9) rfl dX5_read_61 ?_
    refine lv_aload_n hC.1 hC.2.1 dX5_read_64 rfl (lv_at hl 0 rfl) ?_
    refine mw_get (v := .int (M 33 7)) hC hM 33 (Nat.le_of_ble_eq_true rfl) (eC_33 V) inW5 rfl 7 (by decide) q_284 (fun _ h9 => h9) rfl dX5_read_65 ?_
    obtain ⟨hg15, hf⟩ := o_g hf
    refine mw_iald hC hM 44 0 (Nat.le_of_ble_eq_true rfl) (eC_44 V) rfl hg15 dX5_read_68 ?_
    refine lv_bipush hC.1 hC.2.1 dX5_read_69 cb_40 ?_
    refine lv_icmp_ne (tgt := 82) hC.1 hC.2.1 dX5_read_71 (by decide) (fun hc19 => ?_) (fun hc19 => ?_)
    · have hf := o_f hc19 hf
      refine lv_aload_n hC.1 hC.2.1 dX5_read_82 rfl (lv_at hl 0 rfl) ?_
      refine mw_get (v := .ref (mvA V 45)) hC hM 33 (Nat.le_of_ble_eq_true rfl) (eC_33 V) inW5 rfl 5 (by decide) q_282 (fun _ h9 => h9) rfl dX5_read_83 ?_
      refine lv_aload_n hC.1 hC.2.1 dX5_read_86 rfl (lv_at hl 0 rfl) ?_
      refine mw_get (v := .int (M 33 7)) hC hM 33 (Nat.le_of_ble_eq_true rfl) (eC_33 V) inW5 rfl 7 (by decide) q_284 (fun _ h9 => h9) rfl dX5_read_87 ?_
      obtain ⟨hg16, hf⟩ := o_g hf
      refine mw_iald hC hM 45 0 (Nat.le_of_ble_eq_true rfl) (eC_45 V) rfl hg16 dX5_read_90 ?_
      exact hret (o_r1 hf) (o_r2 hf hM) dX5_read_91
    · have hf := o_t hc19 hf
      refine lv_iload_n hC.1 hC.2.1 dX5_read_74 rfl (lv_at hl 1 rfl) ?_
      refine lv_if_eq (tgt := 82) hC.1 hC.2.1 dX5_read_75 (by decide) (fun hc18 => ?_) (fun hc18 => ?_)
      · have hf := o_t hc18 hf
        refine lv_aload_n hC.1 hC.2.1 dX5_read_82 rfl (lv_at hl 0 rfl) ?_
        refine mw_get (v := .ref (mvA V 45)) hC hM 33 (Nat.le_of_ble_eq_true rfl) (eC_33 V) inW5 rfl 5 (by decide) q_282 (fun _ h9 => h9) rfl dX5_read_83 ?_
        refine lv_aload_n hC.1 hC.2.1 dX5_read_86 rfl (lv_at hl 0 rfl) ?_
        refine mw_get (v := .int (M 33 7)) hC hM 33 (Nat.le_of_ble_eq_true rfl) (eC_33 V) inW5 rfl 7 (by decide) q_284 (fun _ h9 => h9) rfl dX5_read_87 ?_
        obtain ⟨hg17, hf⟩ := o_g hf
        refine mw_iald hC hM 45 0 (Nat.le_of_ble_eq_true rfl) (eC_45 V) rfl hg17 dX5_read_90 ?_
        exact hret (o_r1 hf) (o_r2 hf hM) dX5_read_91
      · have hf := o_f hc18 hf
        refine lv_iconst hC.1 hC.2.1 dX5_read_78 ci_m1 ?_
        refine lv_goto (tgt := 91) hC.1 hC.2.1 dX5_read_79 (by decide) ?_
        exact hret (o_r1 hf) (o_r2 hf hM) dX5_read_91
  have hL25 : ∀ (n : Nat) (M : mM) (x1 : Int32) (x2 : Int32) (H : Heap) (locs : List Loc) (ls : Array Slot), fX5_read_L25 n M x1 x2 = some (r, M') → PC V M A s H locs → lv_has ls 3 [(0, .ref (mvA V 33)), (1, .int x1), (2, .int x2)] → W p l e ({ frames := 22, cells := 0, slots := 0, locals := 506 } : Room) s m args below meth c H locs 0 0 Q (F0 m 25 ls []) := by
    intro n15
    induction n15 with
    | zero => intro M x1 x2 H locs ls hf; cases hf
    | succ n15 ih15 =>
      intro M x1 x2 H locs ls hf hM hl
      have hf : fX5_read_L25_b (fX5_read_L25 n15) M x1 x2 = some (r, M') := hf
      unfold fX5_read_L25_b at hf
      refine lv_iload_n hC.1 hC.2.1 dX5_read_25 rfl (lv_at hl 2 rfl) ?_
      refine lv_bipush hC.1 hC.2.1 dX5_read_26 cb_8 ?_
      refine lv_icmp_ge (tgt := 60) hC.1 hC.2.1 dX5_read_28 (by decide) (fun hc14 => ?_) (fun hc14 => ?_)
      · have hf := o_t hc14 hf
        exact hL60 _ _ _ _ _ hf hM (lv_sub hl [0, 1] rfl)
      · have hf := o_f hc14 hf
        refine lv_iload_n hC.1 hC.2.1 dX5_read_31 rfl (lv_at hl 1 rfl) ?_
        refine lv_if_eq (tgt := 60) hC.1 hC.2.1 dX5_read_32 (by decide) (fun hc13 => ?_) (fun hc13 => ?_)
        · have hf := o_t hc13 hf
          exact hL60 _ _ _ _ _ hf hM (lv_sub hl [0, 1] rfl)
        · have hf := o_f hc13 hf
          refine lv_aload_n hC.1 hC.2.1 dX5_read_35 rfl (lv_at hl 0 rfl) ?_
          refine mw_get (v := .ref (mvA V 44)) hC hM 33 (Nat.le_of_ble_eq_true rfl) (eC_33 V) inW5 rfl 4 (by decide) q_281 (fun _ h9 => h9) rfl dX5_read_36 ?_
          refine lv_aload_n hC.1 hC.2.1 dX5_read_39 rfl (lv_at hl 0 rfl) ?_
          refine mw_get (v := .int (M 33 7)) hC hM 33 (Nat.le_of_ble_eq_true rfl) (eC_33 V) inW5 rfl 7 (by decide) q_284 (fun _ h9 => h9) rfl dX5_read_40 ?_
          obtain ⟨hg7, hf⟩ := o_g hf
          refine mw_iald hC hM 44 0 (Nat.le_of_ble_eq_true rfl) (eC_44 V) rfl hg7 dX5_read_43 ?_
          refine lv_bipush hC.1 hC.2.1 dX5_read_44 cb_40 ?_
          refine lv_icmp_eq (tgt := 60) hC.1 hC.2.1 dX5_read_46 (by decide) (fun hc12 => ?_) (fun hc12 => ?_)
          · have hf := o_t hc12 hf
            exact hL60 _ _ _ _ _ hf hM (lv_sub hl [0, 1] rfl)
          · have hf := o_f hc12 hf
            refine lv_aload_n hC.1 hC.2.1 dX5_read_49 rfl (lv_at hl 0 rfl) ?_
            obtain ⟨r8, M10, hq9, hf⟩ := o_b2 hf
            refine mw_cVi (As := []) (rest := []) hC hM (mcX5_readRule V l M r8 M10 hq9) (mw_kV hC q_684 q_686 q_11 q_111 q_687 ⟨rfl, rfl⟩ kV_X5_readRule ⟨Nat.le_of_ble_eq_true rfl, Nat.le_of_ble_eq_true rfl⟩) (Nat.le_of_ble_eq_true rfl) (eC_33 V) rfl rfl rfl (Nat.le_of_ble_eq_true rfl) hl.1 dX5_read_50 (fun H locs hM hb11 => ?_)
            refine lv_istore_n (lv' := [(1, .int r8), (0, .ref (mvA V 33)), (2, .int x2)]) hC.1 hC.2.1 dX5_read_53 rfl hl (Nat.le_of_ble_eq_true rfl) rfl (fun ls hl => ?_)
            refine lv_iinc (k := 2) (lv' := [(2, .int (x2 + 1)), (1, .int r8), (0, .ref (mvA V 33))]) hC.1 hC.2.1 dX5_read_54 hl rfl (inc_1 _) (Nat.le_of_ble_eq_true rfl) rfl (fun ls hl => ?_)
            refine lv_goto (tgt := 25) hC.1 hC.2.1 dX5_read_57 (by decide) ?_
            exact ih15 _ _ _ _ _ _ hf hM (lv_sub hl [2, 1, 0] rfl)
  refine lv_aload_n hC.1 hC.2.1 dX5_read_0 rfl (lv_at hl 0 rfl) ?_
  refine mw_get (v := .ref (mvA V 34)) hC hM 33 (Nat.le_of_ble_eq_true rfl) (eC_33 V) inW5 rfl 1 (by decide) q_277 (fun _ h9 => h9) rfl dX5_read_1 ?_
  obtain ⟨r1, M3, hq2, hf⟩ := o_b2 hf
  refine mw_cVv (As := []) (rest := []) hC hM (mcX6_clear_q34 V l M r1 M3 hq2) (mw_kV hC q_580 q_581 q_582 q_110 q_583 ⟨rfl, rfl⟩ kV_X6_clear ⟨Nat.le_of_ble_eq_true rfl, Nat.le_of_ble_eq_true rfl⟩) (Nat.le_of_ble_eq_true rfl) (eC_34 V) rfl rfl rfl (Nat.le_of_ble_eq_true rfl) hl.1 dX5_read_4 (fun H locs hM => ?_)
  refine lv_aload_n hC.1 hC.2.1 dX5_read_7 rfl (lv_at hl 0 rfl) ?_
  obtain ⟨r4, M6, hq5, hf⟩ := o_b2 hf
  refine mw_cVv (As := []) (rest := []) hC hM (mcX5_cutWords V l M3 r4 M6 hq5) (mw_kV hC q_584 q_586 q_6 q_111 q_587 ⟨rfl, rfl⟩ kV_X5_cutWords ⟨Nat.le_of_ble_eq_true rfl, Nat.le_of_ble_eq_true rfl⟩) (Nat.le_of_ble_eq_true rfl) (eC_33 V) rfl rfl rfl (Nat.le_of_ble_eq_true rfl) hl.1 dX5_read_8 (fun H locs hM => ?_)
  refine lv_aload_n hC.1 hC.2.1 dX5_read_11 rfl (lv_at hl 0 rfl) ?_
  refine lv_iconst hC.1 hC.2.1 dX5_read_12 ci_0 ?_
  refine mw_put hC hM 33 (Nat.le_of_ble_eq_true rfl) (eC_33 V) inW5 tyX5 tyX5_ok nmX5 rfl 0 (by decide) q_275 (fun _ h9 => h9) rfl rfl rfl (Nat.le_of_ble_eq_true rfl) rfl dX5_read_13 (fun H locs hM => ?_)
  refine lv_aload_n hC.1 hC.2.1 dX5_read_16 rfl (lv_at hl 0 rfl) ?_
  refine lv_iconst hC.1 hC.2.1 dX5_read_17 ci_0 ?_
  refine mw_put hC hM 33 (Nat.le_of_ble_eq_true rfl) (eC_33 V) inW5 tyX5 tyX5_ok nmX5 rfl 7 (by decide) q_284 (fun _ h9 => h9) rfl rfl rfl (Nat.le_of_ble_eq_true rfl) rfl dX5_read_18 (fun H locs hM => ?_)
  refine lv_iconst hC.1 hC.2.1 dX5_read_21 ci_1 ?_
  refine lv_istore_n (lv' := [(1, .int 1), (0, .ref (mvA V 33))]) hC.1 hC.2.1 dX5_read_22 rfl hl (Nat.le_of_ble_eq_true rfl) rfl (fun ls hl => ?_)
  refine lv_iconst hC.1 hC.2.1 dX5_read_23 ci_0 ?_
  refine lv_istore_n (lv' := [(2, .int 0), (1, .int 1), (0, .ref (mvA V 33))]) hC.1 hC.2.1 dX5_read_24 rfl hl (Nat.le_of_ble_eq_true rfl) rfl (fun ls hl => ?_)
  exact hL25 _ _ _ _ _ _ _ hf hM (lv_sub hl [2, 1, 0] rfl)
set_option maxHeartbeats 4000000 in
set_option maxRecDepth 100000 in
theorem mcX6_copyFrom_q8_q34 (V : mV) (l : Launch) (M : mM) (r : Int32) (M' : mM) (hf : fX6_copyFrom_q8_q34 M = some (r, M')) : UC V l yX6_copyFrom cX6_copyFrom 2 ({ frames := 1, cells := 0, slots := 0, locals := 40 } : Room) [.ref (mvA V 8), .ref (mvA V 34)] M M' := by
  unfold fX6_copyFrom_q8_q34 at hf
  refine mw_enterV RX6 rfl (by decide +kernel) (Nat.le_of_ble_eq_true rfl) (fun {p e s m args below meth c} ls A Q hC hret hM hl => ?_)
  have hl : lv_has ls 2 [(0, .ref (mvA V 8)), (1, .ref (mvA V 34))] := hl
  refine lv_aload_n hC.1 hC.2.1 dX6_copyFrom_0 rfl (lv_at hl 0 rfl) ?_
  refine lv_aload_n hC.1 hC.2.1 dX6_copyFrom_1 rfl (lv_at hl 1 rfl) ?_
  refine mw_get (v := .int (M 34 0)) hC hM 34 (Nat.le_of_ble_eq_true rfl) (eC_34 V) inW6 rfl 0 (by decide) q_169 (fun _ h9 => h9) rfl dX6_copyFrom_2 ?_
  refine mw_put hC hM 8 (Nat.le_of_ble_eq_true rfl) (eC_8 V) inW6 tyX6 tyX6_ok nmX6 rfl 0 (by decide) q_169 (fun _ h9 => h9) rfl rfl rfl (Nat.le_of_ble_eq_true rfl) rfl dX6_copyFrom_5 (fun H locs hM => ?_)
  refine lv_aload_n hC.1 hC.2.1 dX6_copyFrom_8 rfl (lv_at hl 1 rfl) ?_
  refine mw_get (v := .ref (mvA V 35)) hC hM 34 (Nat.le_of_ble_eq_true rfl) (eC_34 V) inW6 rfl 1 (by decide) q_171 (fun _ h9 => h9) rfl dX6_copyFrom_9 ?_
  refine lv_iconst hC.1 hC.2.1 dX6_copyFrom_12 ci_0 ?_
  refine lv_aload_n hC.1 hC.2.1 dX6_copyFrom_13 rfl (lv_at hl 0 rfl) ?_
  refine mw_get (v := .ref (mvA V 9)) hC hM 8 (Nat.le_of_ble_eq_true rfl) (eC_8 V) inW6 rfl 1 (by decide) q_171 (fun _ h9 => h9) rfl dX6_copyFrom_14 ?_
  refine lv_iconst hC.1 hC.2.1 dX6_copyFrom_17 ci_0 ?_
  refine lv_bipush hC.1 hC.2.1 dX6_copyFrom_18 cb_8 ?_
  obtain ⟨hg1, hf⟩ := o_g hf
  refine mw_copy (rest := []) hC hM 35 9 0 (Nat.le_of_ble_eq_true rfl) (Nat.le_of_ble_eq_true rfl) (eC_35 V) (eC_9 V) rfl hg1 hl.1 q_720 q_722 q_721 q_127 (Nat.le_of_ble_eq_true rfl) (Nat.le_of_ble_eq_true rfl) dX6_copyFrom_20 (fun H locs hM => ?_)
  refine lv_aload_n hC.1 hC.2.1 dX6_copyFrom_23 rfl (lv_at hl 1 rfl) ?_
  refine mw_get (v := .ref (mvA V 36)) hC hM 34 (Nat.le_of_ble_eq_true rfl) (eC_34 V) inW6 rfl 2 (by decide) q_172 (fun _ h9 => h9) rfl dX6_copyFrom_24 ?_
  refine lv_iconst hC.1 hC.2.1 dX6_copyFrom_27 ci_0 ?_
  refine lv_aload_n hC.1 hC.2.1 dX6_copyFrom_28 rfl (lv_at hl 0 rfl) ?_
  refine mw_get (v := .ref (mvA V 10)) hC hM 8 (Nat.le_of_ble_eq_true rfl) (eC_8 V) inW6 rfl 2 (by decide) q_172 (fun _ h9 => h9) rfl dX6_copyFrom_29 ?_
  refine lv_iconst hC.1 hC.2.1 dX6_copyFrom_32 ci_0 ?_
  refine lv_bipush hC.1 hC.2.1 dX6_copyFrom_33 cb_8 ?_
  obtain ⟨hg2, hf⟩ := o_g hf
  refine mw_copy (rest := []) hC hM 36 10 0 (Nat.le_of_ble_eq_true rfl) (Nat.le_of_ble_eq_true rfl) (eC_36 V) (eC_10 V) rfl hg2 hl.1 q_720 q_722 q_721 q_127 (Nat.le_of_ble_eq_true rfl) (Nat.le_of_ble_eq_true rfl) dX6_copyFrom_35 (fun H locs hM => ?_)
  refine lv_aload_n hC.1 hC.2.1 dX6_copyFrom_38 rfl (lv_at hl 1 rfl) ?_
  refine mw_get (v := .ref (mvA V 37)) hC hM 34 (Nat.le_of_ble_eq_true rfl) (eC_34 V) inW6 rfl 3 (by decide) q_173 (fun _ h9 => h9) rfl dX6_copyFrom_39 ?_
  refine lv_iconst hC.1 hC.2.1 dX6_copyFrom_42 ci_0 ?_
  refine lv_aload_n hC.1 hC.2.1 dX6_copyFrom_43 rfl (lv_at hl 0 rfl) ?_
  refine mw_get (v := .ref (mvA V 11)) hC hM 8 (Nat.le_of_ble_eq_true rfl) (eC_8 V) inW6 rfl 3 (by decide) q_173 (fun _ h9 => h9) rfl dX6_copyFrom_44 ?_
  refine lv_iconst hC.1 hC.2.1 dX6_copyFrom_47 ci_0 ?_
  refine lv_bipush hC.1 hC.2.1 dX6_copyFrom_48 cb_8 ?_
  obtain ⟨hg3, hf⟩ := o_g hf
  refine mw_copy (rest := []) hC hM 37 11 0 (Nat.le_of_ble_eq_true rfl) (Nat.le_of_ble_eq_true rfl) (eC_37 V) (eC_11 V) rfl hg3 hl.1 q_720 q_722 q_721 q_127 (Nat.le_of_ble_eq_true rfl) (Nat.le_of_ble_eq_true rfl) dX6_copyFrom_50 (fun H locs hM => ?_)
  refine lv_aload_n hC.1 hC.2.1 dX6_copyFrom_53 rfl (lv_at hl 1 rfl) ?_
  refine mw_get (v := .ref (mvA V 38)) hC hM 34 (Nat.le_of_ble_eq_true rfl) (eC_34 V) inW6 rfl 4 (by decide) q_174 (fun _ h9 => h9) rfl dX6_copyFrom_54 ?_
  refine lv_iconst hC.1 hC.2.1 dX6_copyFrom_57 ci_0 ?_
  refine lv_aload_n hC.1 hC.2.1 dX6_copyFrom_58 rfl (lv_at hl 0 rfl) ?_
  refine mw_get (v := .ref (mvA V 12)) hC hM 8 (Nat.le_of_ble_eq_true rfl) (eC_8 V) inW6 rfl 4 (by decide) q_174 (fun _ h9 => h9) rfl dX6_copyFrom_59 ?_
  refine lv_iconst hC.1 hC.2.1 dX6_copyFrom_62 ci_0 ?_
  refine lv_bipush hC.1 hC.2.1 dX6_copyFrom_63 cb_8 ?_
  obtain ⟨hg4, hf⟩ := o_g hf
  refine mw_copy (rest := []) hC hM 38 12 0 (Nat.le_of_ble_eq_true rfl) (Nat.le_of_ble_eq_true rfl) (eC_38 V) (eC_12 V) rfl hg4 hl.1 q_720 q_722 q_721 q_127 (Nat.le_of_ble_eq_true rfl) (Nat.le_of_ble_eq_true rfl) dX6_copyFrom_65 (fun H locs hM => ?_)
  refine lv_aload_n hC.1 hC.2.1 dX6_copyFrom_68 rfl (lv_at hl 0 rfl) ?_
  refine lv_aload_n hC.1 hC.2.1 dX6_copyFrom_69 rfl (lv_at hl 1 rfl) ?_
  refine mw_get (v := .int ((cpy (cpy (cpy (cpy (wr M 8 0 (M 34 0)) 35 9 0 0 8) 36 10 0 0 8) 37 11 0 0 8) 38 12 0 0 8) 34 5)) hC hM 34 (Nat.le_of_ble_eq_true rfl) (eC_34 V) inW6 rfl 5 (by decide) q_175 (fun _ h9 => h9) rfl dX6_copyFrom_70 ?_
  refine mw_put hC hM 8 (Nat.le_of_ble_eq_true rfl) (eC_8 V) inW6 tyX6 tyX6_ok nmX6 rfl 5 (by decide) q_175 (fun _ h9 => h9) rfl rfl rfl (Nat.le_of_ble_eq_true rfl) rfl dX6_copyFrom_73 (fun H locs hM => ?_)
  refine lv_aload_n hC.1 hC.2.1 dX6_copyFrom_76 rfl (lv_at hl 1 rfl) ?_
  refine mw_get (v := .ref (mvA V 39)) hC hM 34 (Nat.le_of_ble_eq_true rfl) (eC_34 V) inW6 rfl 6 (by decide) q_176 (fun _ h9 => h9) rfl dX6_copyFrom_77 ?_
  refine lv_iconst hC.1 hC.2.1 dX6_copyFrom_80 ci_0 ?_
  refine lv_aload_n hC.1 hC.2.1 dX6_copyFrom_81 rfl (lv_at hl 0 rfl) ?_
  refine mw_get (v := .ref (mvA V 13)) hC hM 8 (Nat.le_of_ble_eq_true rfl) (eC_8 V) inW6 rfl 6 (by decide) q_176 (fun _ h9 => h9) rfl dX6_copyFrom_82 ?_
  refine lv_iconst hC.1 hC.2.1 dX6_copyFrom_85 ci_0 ?_
  refine lv_aload_n hC.1 hC.2.1 dX6_copyFrom_86 rfl (lv_at hl 0 rfl) ?_
  refine mw_get (v := .int ((wr (cpy (cpy (cpy (cpy (wr M 8 0 (M 34 0)) 35 9 0 0 8) 36 10 0 0 8) 37 11 0 0 8) 38 12 0 0 8) 8 5 ((cpy (cpy (cpy (cpy (wr M 8 0 (M 34 0)) 35 9 0 0 8) 36 10 0 0 8) 37 11 0 0 8) 38 12 0 0 8) 34 5)) 8 5)) hC hM 8 (Nat.le_of_ble_eq_true rfl) (eC_8 V) inW6 rfl 5 (by decide) q_175 (fun _ h9 => h9) rfl dX6_copyFrom_87 ?_
  obtain ⟨hg5, hf⟩ := o_g hf
  refine mw_copy (rest := []) hC hM 39 13 0 (Nat.le_of_ble_eq_true rfl) (Nat.le_of_ble_eq_true rfl) (eC_39 V) (eC_13 V) rfl hg5 hl.1 q_720 q_722 q_721 q_127 (Nat.le_of_ble_eq_true rfl) (Nat.le_of_ble_eq_true rfl) dX6_copyFrom_90 (fun H locs hM => ?_)
  refine lv_aload_n hC.1 hC.2.1 dX6_copyFrom_93 rfl (lv_at hl 1 rfl) ?_
  refine mw_get (v := .ref (mvA V 40)) hC hM 34 (Nat.le_of_ble_eq_true rfl) (eC_34 V) inW6 rfl 7 (by decide) q_177 (fun _ h9 => h9) rfl dX6_copyFrom_94 ?_
  refine lv_iconst hC.1 hC.2.1 dX6_copyFrom_97 ci_0 ?_
  refine lv_aload_n hC.1 hC.2.1 dX6_copyFrom_98 rfl (lv_at hl 0 rfl) ?_
  refine mw_get (v := .ref (mvA V 14)) hC hM 8 (Nat.le_of_ble_eq_true rfl) (eC_8 V) inW6 rfl 7 (by decide) q_177 (fun _ h9 => h9) rfl dX6_copyFrom_99 ?_
  refine lv_iconst hC.1 hC.2.1 dX6_copyFrom_102 ci_0 ?_
  refine lv_aload_n hC.1 hC.2.1 dX6_copyFrom_103 rfl (lv_at hl 0 rfl) ?_
  refine mw_get (v := .int ((cpy (wr (cpy (cpy (cpy (cpy (wr M 8 0 (M 34 0)) 35 9 0 0 8) 36 10 0 0 8) 37 11 0 0 8) 38 12 0 0 8) 8 5 ((cpy (cpy (cpy (cpy (wr M 8 0 (M 34 0)) 35 9 0 0 8) 36 10 0 0 8) 37 11 0 0 8) 38 12 0 0 8) 34 5)) 39 13 0 0 ((wr (cpy (cpy (cpy (cpy (wr M 8 0 (M 34 0)) 35 9 0 0 8) 36 10 0 0 8) 37 11 0 0 8) 38 12 0 0 8) 8 5 ((cpy (cpy (cpy (cpy (wr M 8 0 (M 34 0)) 35 9 0 0 8) 36 10 0 0 8) 37 11 0 0 8) 38 12 0 0 8) 34 5)) 8 5)) 8 5)) hC hM 8 (Nat.le_of_ble_eq_true rfl) (eC_8 V) inW6 rfl 5 (by decide) q_175 (fun _ h9 => h9) rfl dX6_copyFrom_104 ?_
  obtain ⟨hg6, hf⟩ := o_g hf
  refine mw_copy (rest := []) hC hM 40 14 0 (Nat.le_of_ble_eq_true rfl) (Nat.le_of_ble_eq_true rfl) (eC_40 V) (eC_14 V) rfl hg6 hl.1 q_720 q_722 q_721 q_127 (Nat.le_of_ble_eq_true rfl) (Nat.le_of_ble_eq_true rfl) dX6_copyFrom_107 (fun H locs hM => ?_)
  refine lv_aload_n hC.1 hC.2.1 dX6_copyFrom_110 rfl (lv_at hl 1 rfl) ?_
  refine mw_get (v := .ref (mvA V 41)) hC hM 34 (Nat.le_of_ble_eq_true rfl) (eC_34 V) inW6 rfl 8 (by decide) q_178 (fun _ h9 => h9) rfl dX6_copyFrom_111 ?_
  refine lv_iconst hC.1 hC.2.1 dX6_copyFrom_114 ci_0 ?_
  refine lv_aload_n hC.1 hC.2.1 dX6_copyFrom_115 rfl (lv_at hl 0 rfl) ?_
  refine mw_get (v := .ref (mvA V 15)) hC hM 8 (Nat.le_of_ble_eq_true rfl) (eC_8 V) inW6 rfl 8 (by decide) q_178 (fun _ h9 => h9) rfl dX6_copyFrom_116 ?_
  refine lv_iconst hC.1 hC.2.1 dX6_copyFrom_119 ci_0 ?_
  refine lv_aload_n hC.1 hC.2.1 dX6_copyFrom_120 rfl (lv_at hl 0 rfl) ?_
  refine mw_get (v := .int ((cpy (cpy (wr (cpy (cpy (cpy (cpy (wr M 8 0 (M 34 0)) 35 9 0 0 8) 36 10 0 0 8) 37 11 0 0 8) 38 12 0 0 8) 8 5 ((cpy (cpy (cpy (cpy (wr M 8 0 (M 34 0)) 35 9 0 0 8) 36 10 0 0 8) 37 11 0 0 8) 38 12 0 0 8) 34 5)) 39 13 0 0 ((wr (cpy (cpy (cpy (cpy (wr M 8 0 (M 34 0)) 35 9 0 0 8) 36 10 0 0 8) 37 11 0 0 8) 38 12 0 0 8) 8 5 ((cpy (cpy (cpy (cpy (wr M 8 0 (M 34 0)) 35 9 0 0 8) 36 10 0 0 8) 37 11 0 0 8) 38 12 0 0 8) 34 5)) 8 5)) 40 14 0 0 ((cpy (wr (cpy (cpy (cpy (cpy (wr M 8 0 (M 34 0)) 35 9 0 0 8) 36 10 0 0 8) 37 11 0 0 8) 38 12 0 0 8) 8 5 ((cpy (cpy (cpy (cpy (wr M 8 0 (M 34 0)) 35 9 0 0 8) 36 10 0 0 8) 37 11 0 0 8) 38 12 0 0 8) 34 5)) 39 13 0 0 ((wr (cpy (cpy (cpy (cpy (wr M 8 0 (M 34 0)) 35 9 0 0 8) 36 10 0 0 8) 37 11 0 0 8) 38 12 0 0 8) 8 5 ((cpy (cpy (cpy (cpy (wr M 8 0 (M 34 0)) 35 9 0 0 8) 36 10 0 0 8) 37 11 0 0 8) 38 12 0 0 8) 34 5)) 8 5)) 8 5)) 8 5)) hC hM 8 (Nat.le_of_ble_eq_true rfl) (eC_8 V) inW6 rfl 5 (by decide) q_175 (fun _ h9 => h9) rfl dX6_copyFrom_121 ?_
  obtain ⟨hg7, hf⟩ := o_g hf
  refine mw_copy (rest := []) hC hM 41 15 0 (Nat.le_of_ble_eq_true rfl) (Nat.le_of_ble_eq_true rfl) (eC_41 V) (eC_15 V) rfl hg7 hl.1 q_720 q_722 q_721 q_127 (Nat.le_of_ble_eq_true rfl) (Nat.le_of_ble_eq_true rfl) dX6_copyFrom_124 (fun H locs hM => ?_)
  refine lv_aload_n hC.1 hC.2.1 dX6_copyFrom_127 rfl (lv_at hl 0 rfl) ?_
  refine lv_aload_n hC.1 hC.2.1 dX6_copyFrom_128 rfl (lv_at hl 1 rfl) ?_
  refine mw_get (v := .int ((cpy (cpy (cpy (wr (cpy (cpy (cpy (cpy (wr M 8 0 (M 34 0)) 35 9 0 0 8) 36 10 0 0 8) 37 11 0 0 8) 38 12 0 0 8) 8 5 ((cpy (cpy (cpy (cpy (wr M 8 0 (M 34 0)) 35 9 0 0 8) 36 10 0 0 8) 37 11 0 0 8) 38 12 0 0 8) 34 5)) 39 13 0 0 ((wr (cpy (cpy (cpy (cpy (wr M 8 0 (M 34 0)) 35 9 0 0 8) 36 10 0 0 8) 37 11 0 0 8) 38 12 0 0 8) 8 5 ((cpy (cpy (cpy (cpy (wr M 8 0 (M 34 0)) 35 9 0 0 8) 36 10 0 0 8) 37 11 0 0 8) 38 12 0 0 8) 34 5)) 8 5)) 40 14 0 0 ((cpy (wr (cpy (cpy (cpy (cpy (wr M 8 0 (M 34 0)) 35 9 0 0 8) 36 10 0 0 8) 37 11 0 0 8) 38 12 0 0 8) 8 5 ((cpy (cpy (cpy (cpy (wr M 8 0 (M 34 0)) 35 9 0 0 8) 36 10 0 0 8) 37 11 0 0 8) 38 12 0 0 8) 34 5)) 39 13 0 0 ((wr (cpy (cpy (cpy (cpy (wr M 8 0 (M 34 0)) 35 9 0 0 8) 36 10 0 0 8) 37 11 0 0 8) 38 12 0 0 8) 8 5 ((cpy (cpy (cpy (cpy (wr M 8 0 (M 34 0)) 35 9 0 0 8) 36 10 0 0 8) 37 11 0 0 8) 38 12 0 0 8) 34 5)) 8 5)) 8 5)) 41 15 0 0 ((cpy (cpy (wr (cpy (cpy (cpy (cpy (wr M 8 0 (M 34 0)) 35 9 0 0 8) 36 10 0 0 8) 37 11 0 0 8) 38 12 0 0 8) 8 5 ((cpy (cpy (cpy (cpy (wr M 8 0 (M 34 0)) 35 9 0 0 8) 36 10 0 0 8) 37 11 0 0 8) 38 12 0 0 8) 34 5)) 39 13 0 0 ((wr (cpy (cpy (cpy (cpy (wr M 8 0 (M 34 0)) 35 9 0 0 8) 36 10 0 0 8) 37 11 0 0 8) 38 12 0 0 8) 8 5 ((cpy (cpy (cpy (cpy (wr M 8 0 (M 34 0)) 35 9 0 0 8) 36 10 0 0 8) 37 11 0 0 8) 38 12 0 0 8) 34 5)) 8 5)) 40 14 0 0 ((cpy (wr (cpy (cpy (cpy (cpy (wr M 8 0 (M 34 0)) 35 9 0 0 8) 36 10 0 0 8) 37 11 0 0 8) 38 12 0 0 8) 8 5 ((cpy (cpy (cpy (cpy (wr M 8 0 (M 34 0)) 35 9 0 0 8) 36 10 0 0 8) 37 11 0 0 8) 38 12 0 0 8) 34 5)) 39 13 0 0 ((wr (cpy (cpy (cpy (cpy (wr M 8 0 (M 34 0)) 35 9 0 0 8) 36 10 0 0 8) 37 11 0 0 8) 38 12 0 0 8) 8 5 ((cpy (cpy (cpy (cpy (wr M 8 0 (M 34 0)) 35 9 0 0 8) 36 10 0 0 8) 37 11 0 0 8) 38 12 0 0 8) 34 5)) 8 5)) 8 5)) 8 5)) 34 9)) hC hM 34 (Nat.le_of_ble_eq_true rfl) (eC_34 V) inW6 rfl 9 (by decide) q_179 (fun _ h9 => h9) rfl dX6_copyFrom_129 ?_
  refine mw_put hC hM 8 (Nat.le_of_ble_eq_true rfl) (eC_8 V) inW6 tyX6 tyX6_ok nmX6 rfl 9 (by decide) q_179 (fun _ h9 => h9) rfl rfl rfl (Nat.le_of_ble_eq_true rfl) rfl dX6_copyFrom_132 (fun H locs hM => ?_)
  refine lv_aload_n hC.1 hC.2.1 dX6_copyFrom_135 rfl (lv_at hl 1 rfl) ?_
  refine mw_get (v := .ref (mvA V 42)) hC hM 34 (Nat.le_of_ble_eq_true rfl) (eC_34 V) inW6 rfl 10 (by decide) q_180 (fun _ h9 => h9) rfl dX6_copyFrom_136 ?_
  refine lv_iconst hC.1 hC.2.1 dX6_copyFrom_139 ci_0 ?_
  refine lv_aload_n hC.1 hC.2.1 dX6_copyFrom_140 rfl (lv_at hl 0 rfl) ?_
  refine mw_get (v := .ref (mvA V 16)) hC hM 8 (Nat.le_of_ble_eq_true rfl) (eC_8 V) inW6 rfl 10 (by decide) q_180 (fun _ h9 => h9) rfl dX6_copyFrom_141 ?_
  refine lv_iconst hC.1 hC.2.1 dX6_copyFrom_144 ci_0 ?_
  refine lv_aload_n hC.1 hC.2.1 dX6_copyFrom_145 rfl (lv_at hl 0 rfl) ?_
  refine mw_get (v := .int ((wr (cpy (cpy (cpy (wr (cpy (cpy (cpy (cpy (wr M 8 0 (M 34 0)) 35 9 0 0 8) 36 10 0 0 8) 37 11 0 0 8) 38 12 0 0 8) 8 5 ((cpy (cpy (cpy (cpy (wr M 8 0 (M 34 0)) 35 9 0 0 8) 36 10 0 0 8) 37 11 0 0 8) 38 12 0 0 8) 34 5)) 39 13 0 0 ((wr (cpy (cpy (cpy (cpy (wr M 8 0 (M 34 0)) 35 9 0 0 8) 36 10 0 0 8) 37 11 0 0 8) 38 12 0 0 8) 8 5 ((cpy (cpy (cpy (cpy (wr M 8 0 (M 34 0)) 35 9 0 0 8) 36 10 0 0 8) 37 11 0 0 8) 38 12 0 0 8) 34 5)) 8 5)) 40 14 0 0 ((cpy (wr (cpy (cpy (cpy (cpy (wr M 8 0 (M 34 0)) 35 9 0 0 8) 36 10 0 0 8) 37 11 0 0 8) 38 12 0 0 8) 8 5 ((cpy (cpy (cpy (cpy (wr M 8 0 (M 34 0)) 35 9 0 0 8) 36 10 0 0 8) 37 11 0 0 8) 38 12 0 0 8) 34 5)) 39 13 0 0 ((wr (cpy (cpy (cpy (cpy (wr M 8 0 (M 34 0)) 35 9 0 0 8) 36 10 0 0 8) 37 11 0 0 8) 38 12 0 0 8) 8 5 ((cpy (cpy (cpy (cpy (wr M 8 0 (M 34 0)) 35 9 0 0 8) 36 10 0 0 8) 37 11 0 0 8) 38 12 0 0 8) 34 5)) 8 5)) 8 5)) 41 15 0 0 ((cpy (cpy (wr (cpy (cpy (cpy (cpy (wr M 8 0 (M 34 0)) 35 9 0 0 8) 36 10 0 0 8) 37 11 0 0 8) 38 12 0 0 8) 8 5 ((cpy (cpy (cpy (cpy (wr M 8 0 (M 34 0)) 35 9 0 0 8) 36 10 0 0 8) 37 11 0 0 8) 38 12 0 0 8) 34 5)) 39 13 0 0 ((wr (cpy (cpy (cpy (cpy (wr M 8 0 (M 34 0)) 35 9 0 0 8) 36 10 0 0 8) 37 11 0 0 8) 38 12 0 0 8) 8 5 ((cpy (cpy (cpy (cpy (wr M 8 0 (M 34 0)) 35 9 0 0 8) 36 10 0 0 8) 37 11 0 0 8) 38 12 0 0 8) 34 5)) 8 5)) 40 14 0 0 ((cpy (wr (cpy (cpy (cpy (cpy (wr M 8 0 (M 34 0)) 35 9 0 0 8) 36 10 0 0 8) 37 11 0 0 8) 38 12 0 0 8) 8 5 ((cpy (cpy (cpy (cpy (wr M 8 0 (M 34 0)) 35 9 0 0 8) 36 10 0 0 8) 37 11 0 0 8) 38 12 0 0 8) 34 5)) 39 13 0 0 ((wr (cpy (cpy (cpy (cpy (wr M 8 0 (M 34 0)) 35 9 0 0 8) 36 10 0 0 8) 37 11 0 0 8) 38 12 0 0 8) 8 5 ((cpy (cpy (cpy (cpy (wr M 8 0 (M 34 0)) 35 9 0 0 8) 36 10 0 0 8) 37 11 0 0 8) 38 12 0 0 8) 34 5)) 8 5)) 8 5)) 8 5)) 8 9 ((cpy (cpy (cpy (wr (cpy (cpy (cpy (cpy (wr M 8 0 (M 34 0)) 35 9 0 0 8) 36 10 0 0 8) 37 11 0 0 8) 38 12 0 0 8) 8 5 ((cpy (cpy (cpy (cpy (wr M 8 0 (M 34 0)) 35 9 0 0 8) 36 10 0 0 8) 37 11 0 0 8) 38 12 0 0 8) 34 5)) 39 13 0 0 ((wr (cpy (cpy (cpy (cpy (wr M 8 0 (M 34 0)) 35 9 0 0 8) 36 10 0 0 8) 37 11 0 0 8) 38 12 0 0 8) 8 5 ((cpy (cpy (cpy (cpy (wr M 8 0 (M 34 0)) 35 9 0 0 8) 36 10 0 0 8) 37 11 0 0 8) 38 12 0 0 8) 34 5)) 8 5)) 40 14 0 0 ((cpy (wr (cpy (cpy (cpy (cpy (wr M 8 0 (M 34 0)) 35 9 0 0 8) 36 10 0 0 8) 37 11 0 0 8) 38 12 0 0 8) 8 5 ((cpy (cpy (cpy (cpy (wr M 8 0 (M 34 0)) 35 9 0 0 8) 36 10 0 0 8) 37 11 0 0 8) 38 12 0 0 8) 34 5)) 39 13 0 0 ((wr (cpy (cpy (cpy (cpy (wr M 8 0 (M 34 0)) 35 9 0 0 8) 36 10 0 0 8) 37 11 0 0 8) 38 12 0 0 8) 8 5 ((cpy (cpy (cpy (cpy (wr M 8 0 (M 34 0)) 35 9 0 0 8) 36 10 0 0 8) 37 11 0 0 8) 38 12 0 0 8) 34 5)) 8 5)) 8 5)) 41 15 0 0 ((cpy (cpy (wr (cpy (cpy (cpy (cpy (wr M 8 0 (M 34 0)) 35 9 0 0 8) 36 10 0 0 8) 37 11 0 0 8) 38 12 0 0 8) 8 5 ((cpy (cpy (cpy (cpy (wr M 8 0 (M 34 0)) 35 9 0 0 8) 36 10 0 0 8) 37 11 0 0 8) 38 12 0 0 8) 34 5)) 39 13 0 0 ((wr (cpy (cpy (cpy (cpy (wr M 8 0 (M 34 0)) 35 9 0 0 8) 36 10 0 0 8) 37 11 0 0 8) 38 12 0 0 8) 8 5 ((cpy (cpy (cpy (cpy (wr M 8 0 (M 34 0)) 35 9 0 0 8) 36 10 0 0 8) 37 11 0 0 8) 38 12 0 0 8) 34 5)) 8 5)) 40 14 0 0 ((cpy (wr (cpy (cpy (cpy (cpy (wr M 8 0 (M 34 0)) 35 9 0 0 8) 36 10 0 0 8) 37 11 0 0 8) 38 12 0 0 8) 8 5 ((cpy (cpy (cpy (cpy (wr M 8 0 (M 34 0)) 35 9 0 0 8) 36 10 0 0 8) 37 11 0 0 8) 38 12 0 0 8) 34 5)) 39 13 0 0 ((wr (cpy (cpy (cpy (cpy (wr M 8 0 (M 34 0)) 35 9 0 0 8) 36 10 0 0 8) 37 11 0 0 8) 38 12 0 0 8) 8 5 ((cpy (cpy (cpy (cpy (wr M 8 0 (M 34 0)) 35 9 0 0 8) 36 10 0 0 8) 37 11 0 0 8) 38 12 0 0 8) 34 5)) 8 5)) 8 5)) 8 5)) 34 9)) 8 9)) hC hM 8 (Nat.le_of_ble_eq_true rfl) (eC_8 V) inW6 rfl 9 (by decide) q_179 (fun _ h9 => h9) rfl dX6_copyFrom_146 ?_
  obtain ⟨hg8, hf⟩ := o_g hf
  refine mw_copy (rest := []) hC hM 42 16 0 (Nat.le_of_ble_eq_true rfl) (Nat.le_of_ble_eq_true rfl) (eC_42 V) (eC_16 V) rfl hg8 hl.1 q_720 q_722 q_721 q_127 (Nat.le_of_ble_eq_true rfl) (Nat.le_of_ble_eq_true rfl) dX6_copyFrom_149 (fun H locs hM => ?_)
  exact hret (o_r2 hf hM) dX6_copyFrom_152
set_option maxHeartbeats 4000000 in
set_option maxRecDepth 100000 in
theorem mcX11_rules (V : mV) (l : Launch) (M : mM) (r : Int32) (M' : mM) (hf : fX11_rules M = some (r, M')) : IC V l yX11_rules cX11_rules 2 ({ frames := 23, cells := 0, slots := 0, locals := 528 } : Room) [.ref (mvA V 0)] M r M' := by
  unfold fX11_rules at hf
  refine mw_enterI RX11 rfl (by decide +kernel) (Nat.le_of_ble_eq_true rfl) (fun {p e s m args below meth c} ls A Q hC hret hM hl => ?_)
  have hl : lv_has ls 2 [(0, .ref (mvA V 0))] := hl
  refine lv_aload_n hC.1 hC.2.1 dX11_rules_0 rfl (lv_at hl 0 rfl) ?_
  refine mw_get (v := .ref (mvA V 33)) hC hM 0 (Nat.le_of_ble_eq_true rfl) (eC_0 V) inW11 rfl 3 (by decide) q_427 (fun _ h9 => h9) rfl dX11_rules_1 ?_
  obtain ⟨r1, M3, hq2, hf⟩ := o_b2 hf
  refine mw_cVi (As := []) (rest := []) hC hM (mcX5_read V l M r1 M3 hq2) (mw_kV hC q_576 q_577 q_578 q_111 q_579 ⟨rfl, rfl⟩ kV_X5_read ⟨Nat.le_of_ble_eq_true rfl, Nat.le_of_ble_eq_true rfl⟩) (Nat.le_of_ble_eq_true rfl) (eC_33 V) rfl rfl rfl (Nat.le_of_ble_eq_true rfl) hl.1 dX11_rules_4 (fun H locs hM _ => ?_)
  refine lv_istore_n (lv' := [(1, .int r1), (0, .ref (mvA V 0))]) hC.1 hC.2.1 dX11_rules_7 rfl hl (Nat.le_of_ble_eq_true rfl) rfl (fun ls hl => ?_)
  refine lv_iload_n hC.1 hC.2.1 dX11_rules_8 rfl (lv_at hl 0 rfl) ?_
  refine lv_if_lt (tgt := 17) hC.1 hC.2.1 dX11_rules_9 (by decide) (fun hc10 => ?_) (fun hc10 => ?_)
  · have hf := o_t hc10 hf
    refine lv_aload_n hC.1 hC.2.1 dX11_rules_17 rfl (lv_at hl 1 rfl) ?_
    refine mw_get (v := .ref (mvA V 1)) hC hM 0 (Nat.le_of_ble_eq_true rfl) (eC_0 V) inW11 rfl 0 (by decide) q_424 (fun _ h9 => h9) rfl dX11_rules_18 ?_
    refine mw_get (v := .ref (mvA V 8)) hC hM 1 (Nat.le_of_ble_eq_true rfl) (eC_1 V) inW4 rfl 14 (by decide) q_235 (fun _ h9 => h9) rfl dX11_rules_21 ?_
    refine lv_aload_n hC.1 hC.2.1 dX11_rules_24 rfl (lv_at hl 1 rfl) ?_
    refine mw_get (v := .ref (mvA V 33)) hC hM 0 (Nat.le_of_ble_eq_true rfl) (eC_0 V) inW11 rfl 3 (by decide) q_427 (fun _ h9 => h9) rfl dX11_rules_25 ?_
    refine mw_get (v := .ref (mvA V 34)) hC hM 33 (Nat.le_of_ble_eq_true rfl) (eC_33 V) inW5 rfl 1 (by decide) q_278 (fun _ h9 => h9) rfl dX11_rules_28 ?_
    obtain ⟨r4, M6, hq5, hf⟩ := o_b2 hf
    refine mw_cVv (As := [.ref (mvA V 34)]) (rest := []) hC hM (mcX6_copyFrom_q8_q34 V l M3 r4 M6 hq5) (mw_kV hC q_716 q_717 q_718 q_110 q_719 ⟨rfl, rfl⟩ kV_X6_copyFrom ⟨Nat.le_of_ble_eq_true rfl, Nat.le_of_ble_eq_true rfl⟩) (Nat.le_of_ble_eq_true rfl) (eC_8 V) rfl rfl rfl (Nat.le_of_ble_eq_true rfl) hl.1 dX11_rules_31 (fun H locs hM => ?_)
    refine lv_aload_n hC.1 hC.2.1 dX11_rules_34 rfl (lv_at hl 1 rfl) ?_
    obtain ⟨r7, M9, hq8, hf⟩ := o_b2 hf
    refine mw_cVv (As := []) (rest := []) hC hM (mcX11_forgetSums V l M6 r7 M9 hq8) (mw_kV hC q_416 q_418 q_0 q_107 q_419 ⟨rfl, rfl⟩ kV_X11_forgetSums ⟨Nat.le_of_ble_eq_true rfl, Nat.le_of_ble_eq_true rfl⟩) (Nat.le_of_ble_eq_true rfl) (eC_0 V) rfl rfl rfl (Nat.le_of_ble_eq_true rfl) hl.1 dX11_rules_35 (fun H locs hM => ?_)
    refine lv_aload_n hC.1 hC.2.1 dX11_rules_38 rfl (lv_at hl 1 rfl) ?_
    refine mw_get (v := .ref (mvA V 1)) hC hM 0 (Nat.le_of_ble_eq_true rfl) (eC_0 V) inW11 rfl 0 (by decide) q_424 (fun _ h9 => h9) rfl dX11_rules_39 ?_
    refine mw_get (v := .ref (mvA V 8)) hC hM 1 (Nat.le_of_ble_eq_true rfl) (eC_1 V) inW4 rfl 14 (by decide) q_235 (fun _ h9 => h9) rfl dX11_rules_42 ?_
    refine mw_get (v := .int (M9 8 0)) hC hM 8 (Nat.le_of_ble_eq_true rfl) (eC_8 V) inW6 rfl 0 (by decide) q_170 (fun _ h9 => h9) rfl dX11_rules_45 ?_
    exact hret (o_r1 hf) (o_r2 hf hM) dX11_rules_48
  · have hf := o_f hc10 hf
    refine lv_bipush hC.1 hC.2.1 dX11_rules_12 cb_m100 ?_
    refine lv_iload_n hC.1 hC.2.1 dX11_rules_14 rfl (lv_at hl 0 rfl) ?_
    refine lv_isub hC.1 hC.2.1 dX11_rules_15 ?_
    exact hret (o_r1 hf) (o_r2 hf hM) dX11_rules_16
set_option maxHeartbeats 4000000 in
set_option maxRecDepth 100000 in
theorem mcX11_sumAt (V : mV) (l : Launch) (M : mM) (p1 : Int32) (p2 : Int32) (r : Int32) (M' : mM) (hf : fX11_sumAt M p1 p2 = some (r, M')) : IC V l yX11_sumAt cX11_sumAt 6 ({ frames := 3, cells := 0, slots := 0, locals := 78 } : Room) [.ref (mvA V 0), .int p1, .int p2] M r M' := by
  unfold fX11_sumAt at hf
  refine mw_enterI RX11 rfl (by decide +kernel) (Nat.le_of_ble_eq_true rfl) (fun {p e s m args below meth c} ls A Q hC hret hM hl => ?_)
  have hl : lv_has ls 6 [(0, .ref (mvA V 0)), (1, .int p1), (2, .int p2)] := hl
  have hL25 : ∀ (n : Nat) (M : mM) (x1 : Int32) (x2 : Int32) (x3 : Int32) (x4 : Int32) (x5 : Int32) (H : Heap) (locs : List Loc) (ls : Array Slot), fX11_sumAt_L25 n M x1 x2 x3 x4 x5 = some (r, M') → PC V M A s H locs → lv_has ls 6 [(0, .ref (mvA V 0)), (1, .int x1), (2, .int x2), (3, .int x3), (4, .int x4), (5, .int x5)] → W p l e ({ frames := 3, cells := 0, slots := 0, locals := 78 } : Room) s m args below meth c H locs 0 0 Q (F0 m 25 ls []) := by
    intro n16
    induction n16 with
    | zero => intro M x1 x2 x3 x4 x5 H locs ls hf; cases hf
    | succ n16 ih16 =>
      intro M x1 x2 x3 x4 x5 H locs ls hf hM hl
      have hf : fX11_sumAt_L25_b (fX11_sumAt_L25 n16) M x1 x2 x3 x4 x5 = some (r, M') := hf
      unfold fX11_sumAt_L25_b at hf
      refine lv_iload hC.1 hC.2.1 dX11_sumAt_25 (lv_at hl 5 rfl) ?_
      refine lv_aload_n hC.1 hC.2.1 dX11_sumAt_27 rfl (lv_at hl 0 rfl) ?_
      refine mw_get (v := .ref (mvA V 1)) hC hM 0 (Nat.le_of_ble_eq_true rfl) (eC_0 V) inW11 rfl 0 (by decide) q_424 (fun _ h9 => h9) rfl dX11_sumAt_28 ?_
      refine mw_get (v := .int (M 1 0)) hC hM 1 (Nat.le_of_ble_eq_true rfl) (eC_1 V) inW4 rfl 0 (by decide) q_206 (fun _ h9 => h9) rfl dX11_sumAt_31 ?_
      refine lv_icmp_ge (tgt := 77) hC.1 hC.2.1 dX11_sumAt_34 (by decide) (fun hc12 => ?_) (fun hc12 => ?_)
      · have hf := o_t hc12 hf
        refine lv_aload_n hC.1 hC.2.1 dX11_sumAt_77 rfl (lv_at hl 0 rfl) ?_
        refine mw_get (v := .ref (mvA V 63)) hC hM 0 (Nat.le_of_ble_eq_true rfl) (eC_0 V) inW11 rfl 7 (by decide) q_431 (fun _ h9 => h9) rfl dX11_sumAt_78 ?_
        refine lv_iload_n hC.1 hC.2.1 dX11_sumAt_81 rfl (lv_at hl 3 rfl) ?_
        refine lv_iload hC.1 hC.2.1 dX11_sumAt_82 (lv_at hl 4 rfl) ?_
        obtain ⟨hg4, hf⟩ := o_g hf
        refine mw_iast hC hM 63 0 (Nat.le_of_ble_eq_true rfl) (eC_63 V) rfl hg4 dX11_sumAt_84 (fun H locs hM => ?_)
        refine lv_aload_n hC.1 hC.2.1 dX11_sumAt_85 rfl (lv_at hl 0 rfl) ?_
        refine mw_get (v := .ref (mvA V 63)) hC hM 0 (Nat.le_of_ble_eq_true rfl) (eC_0 V) inW11 rfl 7 (by decide) q_431 (fun _ h9 => h9) rfl dX11_sumAt_86 ?_
        refine lv_iload_n hC.1 hC.2.1 dX11_sumAt_89 rfl (lv_at hl 3 rfl) ?_
        obtain ⟨hg5, hf⟩ := o_g hf
        refine mw_iald hC hM 63 0 (Nat.le_of_ble_eq_true rfl) (eC_63 V) rfl hg5 dX11_sumAt_90 ?_
        exact hret (o_r1 hf) (o_r2 hf hM) dX11_sumAt_91
      · have hf := o_f hc12 hf
        refine lv_iload_n hC.1 hC.2.1 dX11_sumAt_37 rfl (lv_at hl 2 rfl) ?_
        refine lv_iload hC.1 hC.2.1 dX11_sumAt_38 (lv_at hl 5 rfl) ?_
        refine lv_ishr hC.1 hC.2.1 dX11_sumAt_40 ?_
        refine lv_iconst hC.1 hC.2.1 dX11_sumAt_41 ci_1 ?_
        refine lv_iand hC.1 hC.2.1 dX11_sumAt_42 ?_
        refine lv_iconst hC.1 hC.2.1 dX11_sumAt_43 ci_1 ?_
        refine lv_icmp_ne (tgt := 71) hC.1 hC.2.1 dX11_sumAt_44 (by decide) (fun hc11 => ?_) (fun hc11 => ?_)
        · have hf := o_f hc11 hf
          refine lv_iinc (k := 5) (lv' := [(5, .int (x5 + 1)), (0, .ref (mvA V 0)), (1, .int x1), (2, .int x2), (3, .int x3), (4, .int x4)]) hC.1 hC.2.1 dX11_sumAt_71 hl rfl (inc_1 _) (Nat.le_of_ble_eq_true rfl) rfl (fun ls hl => ?_)
          refine lv_goto (tgt := 25) hC.1 hC.2.1 dX11_sumAt_74 (by decide) ?_
          exact ih16 _ _ _ _ _ _ _ _ _ hf hM (lv_sub hl [1, 2, 3, 4, 5, 0] rfl)
        · have hf := o_t hc11 hf
          refine lv_iload hC.1 hC.2.1 dX11_sumAt_47 (lv_at hl 4 rfl) ?_
          refine lv_aload_n hC.1 hC.2.1 dX11_sumAt_49 rfl (lv_at hl 0 rfl) ?_
          refine lv_iload hC.1 hC.2.1 dX11_sumAt_50 (lv_at hl 5 rfl) ?_
          refine lv_iload_n hC.1 hC.2.1 dX11_sumAt_52 rfl (lv_at hl 1 rfl) ?_
          obtain ⟨r6, hq7, hf⟩ := o_b hf
          refine mw_cVi (As := [.int x5, .int x1]) (rest := [.int x4]) hC hM (mcX11_voteAt V l M x5 x1 r6 hq7) (mw_kV hC q_489 q_491 q_3 q_107 q_492 ⟨rfl, rfl⟩ kV_X11_voteAt ⟨Nat.le_of_ble_eq_true rfl, Nat.le_of_ble_eq_true rfl⟩) (Nat.le_of_ble_eq_true rfl) (eC_0 V) rfl rfl rfl (Nat.le_of_ble_eq_true rfl) hl.1 dX11_sumAt_53 (fun H locs hM _ => ?_)
          refine lv_aload_n hC.1 hC.2.1 dX11_sumAt_56 rfl (lv_at hl 0 rfl) ?_
          refine lv_iload hC.1 hC.2.1 dX11_sumAt_57 (lv_at hl 5 rfl) ?_
          refine lv_iload_n hC.1 hC.2.1 dX11_sumAt_59 rfl (lv_at hl 1 rfl) ?_
          refine lv_iload_n hC.1 hC.2.1 dX11_sumAt_60 rfl (lv_at hl 2 rfl) ?_
          refine mw_cSi (As := [.int x2]) (rest := [.int x1, .int x5, .ref (mvA V 0), .int r6, .int x4]) hC hM (mcJ6_bitCount_0f7a4C V l M x2 _ rfl) (mw_kS hC q_496 q_497 q_122 q_498 ⟨rfl, rfl⟩ kS_J6_bitCount_0f7a4 ⟨Nat.le_of_ble_eq_true rfl, Nat.le_of_ble_eq_true rfl⟩) rfl rfl (Nat.le_of_ble_eq_true rfl) hl.1 dX11_sumAt_61 (fun H locs hM _ => ?_)
          obtain ⟨r8, M10, hq9, hf⟩ := o_b2 hf
          refine mw_cVi (As := [.int x5, .int x1, .int (fJ6_bitCount_0f7a4C x2)]) (rest := [.int r6, .int x4]) hC hM (mcX11_powerAt V l M x5 x1 (fJ6_bitCount_0f7a4C x2) r8 M10 hq9) (mw_kV hC q_502 q_504 q_4 q_107 q_505 ⟨rfl, rfl⟩ kV_X11_powerAt ⟨Nat.le_of_ble_eq_true rfl, Nat.le_of_ble_eq_true rfl⟩) (Nat.le_of_ble_eq_true rfl) (eC_0 V) rfl rfl rfl (Nat.le_of_ble_eq_true rfl) hl.1 dX11_sumAt_64 (fun H locs hM _ => ?_)
          refine lv_imul hC.1 hC.2.1 dX11_sumAt_67 ?_
          refine lv_iadd hC.1 hC.2.1 dX11_sumAt_68 ?_
          refine lv_istore (lv' := [(4, .int (x4 + (r6 * r8))), (0, .ref (mvA V 0)), (1, .int x1), (2, .int x2), (3, .int x3), (5, .int x5)]) hC.1 hC.2.1 dX11_sumAt_69 hl (Nat.le_of_ble_eq_true rfl) rfl (fun ls hl => ?_)
          refine lv_iinc (k := 5) (lv' := [(5, .int (x5 + 1)), (4, .int (x4 + (r6 * r8))), (0, .ref (mvA V 0)), (1, .int x1), (2, .int x2), (3, .int x3)]) hC.1 hC.2.1 dX11_sumAt_71 hl rfl (inc_1 _) (Nat.le_of_ble_eq_true rfl) rfl (fun ls hl => ?_)
          refine lv_goto (tgt := 25) hC.1 hC.2.1 dX11_sumAt_74 (by decide) ?_
          exact ih16 _ _ _ _ _ _ _ _ _ hf hM (lv_sub hl [2, 3, 4, 5, 1, 0] rfl)
  refine lv_iload_n hC.1 hC.2.1 dX11_sumAt_0 rfl (lv_at hl 1 rfl) ?_
  refine lv_sipush hC.1 hC.2.1 dX11_sumAt_1 cs_128 ?_
  refine lv_imul hC.1 hC.2.1 dX11_sumAt_4 ?_
  refine lv_iload_n hC.1 hC.2.1 dX11_sumAt_5 rfl (lv_at hl 2 rfl) ?_
  refine lv_iadd hC.1 hC.2.1 dX11_sumAt_6 ?_
  refine lv_istore_n (lv' := [(3, .int ((p1 * 128) + p2)), (0, .ref (mvA V 0)), (1, .int p1), (2, .int p2)]) hC.1 hC.2.1 dX11_sumAt_7 rfl hl (Nat.le_of_ble_eq_true rfl) rfl (fun ls hl => ?_)
  refine lv_aload_n hC.1 hC.2.1 dX11_sumAt_8 rfl (lv_at hl 1 rfl) ?_
  refine mw_get (v := .ref (mvA V 63)) hC hM 0 (Nat.le_of_ble_eq_true rfl) (eC_0 V) inW11 rfl 7 (by decide) q_431 (fun _ h9 => h9) rfl dX11_sumAt_9 ?_
  refine lv_iload_n hC.1 hC.2.1 dX11_sumAt_12 rfl (lv_at hl 0 rfl) ?_
  obtain ⟨hg1, hf⟩ := o_g hf
  refine mw_iald hC hM 63 0 (Nat.le_of_ble_eq_true rfl) (eC_63 V) rfl hg1 dX11_sumAt_13 ?_
  refine lv_ldc hC.1 hC.2.1 hC.2.2.2.1 (mw_w hC q_420) dX11_sumAt_14 ?_
  refine lv_icmp_ne (tgt := 85) hC.1 hC.2.1 dX11_sumAt_16 (by decide) (fun hc3 => ?_) (fun hc3 => ?_)
  · have hf := o_f hc3 hf
    refine lv_aload_n hC.1 hC.2.1 dX11_sumAt_85 rfl (lv_at hl 1 rfl) ?_
    refine mw_get (v := .ref (mvA V 63)) hC hM 0 (Nat.le_of_ble_eq_true rfl) (eC_0 V) inW11 rfl 7 (by decide) q_431 (fun _ h9 => h9) rfl dX11_sumAt_86 ?_
    refine lv_iload_n hC.1 hC.2.1 dX11_sumAt_89 rfl (lv_at hl 0 rfl) ?_
    obtain ⟨hg2, hf⟩ := o_g hf
    refine mw_iald hC hM 63 0 (Nat.le_of_ble_eq_true rfl) (eC_63 V) rfl hg2 dX11_sumAt_90 ?_
    exact hret (o_r1 hf) (o_r2 hf hM) dX11_sumAt_91
  · have hf := o_t hc3 hf
    refine lv_iconst hC.1 hC.2.1 dX11_sumAt_19 ci_0 ?_
    refine lv_istore (lv' := [(4, .int 0), (3, .int ((p1 * 128) + p2)), (0, .ref (mvA V 0)), (1, .int p1), (2, .int p2)]) hC.1 hC.2.1 dX11_sumAt_20 hl (Nat.le_of_ble_eq_true rfl) rfl (fun ls hl => ?_)
    refine lv_iconst hC.1 hC.2.1 dX11_sumAt_22 ci_0 ?_
    refine lv_istore (lv' := [(5, .int 0), (4, .int 0), (3, .int ((p1 * 128) + p2)), (0, .ref (mvA V 0)), (1, .int p1), (2, .int p2)]) hC.1 hC.2.1 dX11_sumAt_23 hl (Nat.le_of_ble_eq_true rfl) rfl (fun ls hl => ?_)
    exact hL25 _ _ _ _ _ _ _ _ _ _ hf hM (lv_sub hl [3, 4, 5, 2, 1, 0] rfl)
set_option maxHeartbeats 4000000 in
set_option maxRecDepth 100000 in
theorem mcX11_sum (V : mV) (l : Launch) (M : mM) (r : Int32) (M' : mM) (hf : fX11_sum M = some (r, M')) : IC V l yX11_sum cX11_sum 1 ({ frames := 4, cells := 0, slots := 0, locals := 103 } : Room) [.ref (mvA V 0)] M r M' := by
  unfold fX11_sum at hf
  refine mw_enterI RX11 rfl (by decide +kernel) (Nat.le_of_ble_eq_true rfl) (fun {p e s m args below meth c} ls A Q hC hret hM hl => ?_)
  have hl : lv_has ls 1 [(0, .ref (mvA V 0))] := hl
  refine lv_aload_n hC.1 hC.2.1 dX11_sum_0 rfl (lv_at hl 0 rfl) ?_
  refine lv_aload_n hC.1 hC.2.1 dX11_sum_1 rfl (lv_at hl 0 rfl) ?_
  refine mw_get (v := .ref (mvA V 1)) hC hM 0 (Nat.le_of_ble_eq_true rfl) (eC_0 V) inW11 rfl 0 (by decide) q_424 (fun _ h9 => h9) rfl dX11_sum_2 ?_
  refine mw_get (v := .int (M 1 6)) hC hM 1 (Nat.le_of_ble_eq_true rfl) (eC_1 V) inW4 rfl 6 (by decide) q_219 (fun _ h9 => h9) rfl dX11_sum_5 ?_
  refine lv_aload_n hC.1 hC.2.1 dX11_sum_8 rfl (lv_at hl 0 rfl) ?_
  refine mw_get (v := .ref (mvA V 1)) hC hM 0 (Nat.le_of_ble_eq_true rfl) (eC_0 V) inW11 rfl 0 (by decide) q_424 (fun _ h9 => h9) rfl dX11_sum_9 ?_
  refine mw_get (v := .int (M 1 5)) hC hM 1 (Nat.le_of_ble_eq_true rfl) (eC_1 V) inW4 rfl 5 (by decide) q_216 (fun _ h9 => h9) rfl dX11_sum_12 ?_
  obtain ⟨r1, M3, hq2, hf⟩ := o_b2 hf
  refine mw_cVi (As := [.int (M 1 6), .int (M 1 5)]) (rest := []) hC hM (mcX11_sumAt V l M (M 1 6) (M 1 5) r1 M3 hq2) (mw_kV hC q_728 q_730 q_17 q_107 q_731 ⟨rfl, rfl⟩ kV_X11_sumAt ⟨Nat.le_of_ble_eq_true rfl, Nat.le_of_ble_eq_true rfl⟩) (Nat.le_of_ble_eq_true rfl) (eC_0 V) rfl rfl rfl (Nat.le_of_ble_eq_true rfl) hl.1 dX11_sum_15 (fun H locs hM _ => ?_)
  exact hret (o_r1 hf) (o_r2 hf hM) dX11_sum_18
set_option maxHeartbeats 4000000 in
set_option maxRecDepth 100000 in
theorem mcX11_turnOf (V : mV) (l : Launch) (M : mM) (p0 : Int32) (p1 : Int32) (r : Int32) (hf : fX11_turnOf p0 p1 = r) : IC V l yX11_turnOf cX11_turnOf 2 ({ frames := 0, cells := 0, slots := 0, locals := 0 } : Room) [.int p0, .int p1] M r M := by
  unfold fX11_turnOf at hf
  refine mw_enterI RX11 rfl (by decide +kernel) (Nat.le_of_ble_eq_true rfl) (fun {p e s m args below meth c} ls A Q hC hret hM hl => ?_)
  have hl : lv_has ls 2 [(0, .int p0), (1, .int p1)] := hl
  refine lv_iload_n hC.1 hC.2.1 dX11_turnOf_0 rfl (lv_at hl 0 rfl) ?_
  refine lv_iload_n hC.1 hC.2.1 dX11_turnOf_1 rfl (lv_at hl 1 rfl) ?_
  refine lv_icmp_le (tgt := 9) hC.1 hC.2.1 dX11_turnOf_2 (by decide) (fun hc2 => ?_) (fun hc2 => ?_)
  · have hf := o_t hc2 hf
    refine lv_iload_n hC.1 hC.2.1 dX11_turnOf_9 rfl (lv_at hl 0 rfl) ?_
    refine lv_iload_n hC.1 hC.2.1 dX11_turnOf_10 rfl (lv_at hl 1 rfl) ?_
    refine lv_ineg hC.1 hC.2.1 dX11_turnOf_11 ?_
    refine lv_icmp_ge (tgt := 19) hC.1 hC.2.1 dX11_turnOf_12 (by decide) (fun hc1 => ?_) (fun hc1 => ?_)
    · have hf := o_t hc1 hf
      refine lv_iconst hC.1 hC.2.1 dX11_turnOf_19 ci_0 ?_
      exact hret hf hM dX11_turnOf_20
    · have hf := o_f hc1 hf
      refine lv_iconst hC.1 hC.2.1 dX11_turnOf_15 ci_m1 ?_
      refine lv_goto (tgt := 20) hC.1 hC.2.1 dX11_turnOf_16 (by decide) ?_
      exact hret hf hM dX11_turnOf_20
  · have hf := o_f hc2 hf
    refine lv_iconst hC.1 hC.2.1 dX11_turnOf_5 ci_1 ?_
    refine lv_goto (tgt := 20) hC.1 hC.2.1 dX11_turnOf_6 (by decide) ?_
    exact hret hf hM dX11_turnOf_20
set_option maxHeartbeats 4000000 in
set_option maxRecDepth 100000 in
theorem mcX11_turnNow (V : mV) (l : Launch) (M : mM) (r : Int32) (M' : mM) (hf : fX11_turnNow M = some (r, M')) : IC V l yX11_turnNow cX11_turnNow 1 ({ frames := 4, cells := 0, slots := 0, locals := 103 } : Room) [.ref (mvA V 0)] M r M' := by
  unfold fX11_turnNow at hf
  refine mw_enterI RX11 rfl (by decide +kernel) (Nat.le_of_ble_eq_true rfl) (fun {p e s m args below meth c} ls A Q hC hret hM hl => ?_)
  have hl : lv_has ls 1 [(0, .ref (mvA V 0))] := hl
  refine lv_aload_n hC.1 hC.2.1 dX11_turnNow_0 rfl (lv_at hl 0 rfl) ?_
  refine lv_aload_n hC.1 hC.2.1 dX11_turnNow_1 rfl (lv_at hl 0 rfl) ?_
  refine mw_get (v := .ref (mvA V 1)) hC hM 0 (Nat.le_of_ble_eq_true rfl) (eC_0 V) inW11 rfl 0 (by decide) q_424 (fun _ h9 => h9) rfl dX11_turnNow_2 ?_
  refine mw_get (v := .int (M 1 6)) hC hM 1 (Nat.le_of_ble_eq_true rfl) (eC_1 V) inW4 rfl 6 (by decide) q_219 (fun _ h9 => h9) rfl dX11_turnNow_5 ?_
  refine lv_aload_n hC.1 hC.2.1 dX11_turnNow_8 rfl (lv_at hl 0 rfl) ?_
  refine mw_get (v := .ref (mvA V 1)) hC hM 0 (Nat.le_of_ble_eq_true rfl) (eC_0 V) inW11 rfl 0 (by decide) q_424 (fun _ h9 => h9) rfl dX11_turnNow_9 ?_
  refine mw_get (v := .int (M 1 5)) hC hM 1 (Nat.le_of_ble_eq_true rfl) (eC_1 V) inW4 rfl 5 (by decide) q_216 (fun _ h9 => h9) rfl dX11_turnNow_12 ?_
  obtain ⟨r1, M3, hq2, hf⟩ := o_b2 hf
  refine mw_cVi (As := [.int (M 1 6), .int (M 1 5)]) (rest := []) hC hM (mcX11_sumAt V l M (M 1 6) (M 1 5) r1 M3 hq2) (mw_kV hC q_728 q_730 q_17 q_107 q_731 ⟨rfl, rfl⟩ kV_X11_sumAt ⟨Nat.le_of_ble_eq_true rfl, Nat.le_of_ble_eq_true rfl⟩) (Nat.le_of_ble_eq_true rfl) (eC_0 V) rfl rfl rfl (Nat.le_of_ble_eq_true rfl) hl.1 dX11_turnNow_15 (fun H locs hM _ => ?_)
  refine lv_aload_n hC.1 hC.2.1 dX11_turnNow_18 rfl (lv_at hl 0 rfl) ?_
  refine mw_get (v := .ref (mvA V 1)) hC hM 0 (Nat.le_of_ble_eq_true rfl) (eC_0 V) inW11 rfl 0 (by decide) q_424 (fun _ h9 => h9) rfl dX11_turnNow_19 ?_
  refine mw_get (v := .int (M3 1 8)) hC hM 1 (Nat.le_of_ble_eq_true rfl) (eC_1 V) inW4 rfl 8 (by decide) q_223 (fun _ h9 => h9) rfl dX11_turnNow_22 ?_
  refine mw_cSi (As := [.int r1, .int (M3 1 8)]) (rest := []) hC hM (mcX11_turnOf V l M3 r1 (M3 1 8) _ rfl) (mw_kS hC q_740 q_741 q_107 q_742 ⟨rfl, rfl⟩ kS_X11_turnOf ⟨Nat.le_of_ble_eq_true rfl, Nat.le_of_ble_eq_true rfl⟩) rfl rfl (Nat.le_of_ble_eq_true rfl) hl.1 dX11_turnNow_25 (fun H locs hM _ => ?_)
  exact hret (o_r1 hf) (o_r2 hf hM) dX11_turnNow_28
set_option maxHeartbeats 4000000 in
set_option maxRecDepth 100000 in
theorem mcX11_moved (V : mV) (l : Launch) (M : mM) (p0 : Int32) (p1 : Int32) (r : Int32) (hf : fX11_moved M p0 p1 = some r) : IC V l yX11_moved cX11_moved 2 ({ frames := 1, cells := 0, slots := 0, locals := 22 } : Room) [.int p0, .int p1] M r M := by
  unfold fX11_moved at hf
  refine mw_enterI RX11 rfl (by decide +kernel) (Nat.le_of_ble_eq_true rfl) (fun {p e s m args below meth c} ls A Q hC hret hM hl => ?_)
  have hl : lv_has ls 2 [(0, .int p0), (1, .int p1)] := hl
  refine lv_iload_n hC.1 hC.2.1 dX11_moved_0 rfl (lv_at hl 0 rfl) ?_
  refine lv_iload_n hC.1 hC.2.1 dX11_moved_1 rfl (lv_at hl 1 rfl) ?_
  refine lv_iadd hC.1 hC.2.1 dX11_moved_2 ?_
  refine lv_bipush hC.1 hC.2.1 dX11_moved_3 cb_24 ?_
  obtain ⟨r1, hq2, hf⟩ := o_b hf
  refine mw_cSi (As := [.int (p0 + p1), .int 24]) (rest := []) hC hM (mcJ9_floorMod_7cf53C V l M (p0 + p1) 24 r1 hq2) (mw_kS hC q_493 q_494 q_121 q_495 ⟨rfl, rfl⟩ kS_J9_floorMod_7cf53 ⟨Nat.le_of_ble_eq_true rfl, Nat.le_of_ble_eq_true rfl⟩) rfl rfl (Nat.le_of_ble_eq_true rfl) hl.1 dX11_moved_5 (fun H locs hM _ => ?_)
  exact hret (Option.some.inj hf) hM dX11_moved_8
set_option maxHeartbeats 4000000 in
set_option maxRecDepth 100000 in
theorem mcX4_goOn_q1 (V : mV) (l : Launch) (M : mM) (p1 : Int32) (r : Int32) (M' : mM) (hf : fX4_goOn_q1 M p1 = some (r, M')) : IC V l yX4_goOn cX4_goOn 2 ({ frames := 2, cells := 0, slots := 0, locals := 43 } : Room) [.ref (mvA V 1), .int p1] M r M' := by
  unfold fX4_goOn_q1 at hf
  refine mw_enterI RX4 rfl (by decide +kernel) (Nat.le_of_ble_eq_true rfl) (fun {p e s m args below meth c} ls A Q hC hret hM hl => ?_)
  have hl : lv_has ls 2 [(0, .ref (mvA V 1)), (1, .int p1)] := hl
  refine lv_aload_n hC.1 hC.2.1 dX4_goOn_0 rfl (lv_at hl 0 rfl) ?_
  refine lv_aload_n hC.1 hC.2.1 dX4_goOn_1 rfl (lv_at hl 0 rfl) ?_
  refine mw_get (v := .int (M 1 6)) hC hM 1 (Nat.le_of_ble_eq_true rfl) (eC_1 V) inW4 rfl 6 (by decide) q_218 (fun _ h9 => h9) rfl dX4_goOn_2 ?_
  refine lv_iload_n hC.1 hC.2.1 dX4_goOn_5 rfl (lv_at hl 1 rfl) ?_
  obtain ⟨r1, hq2, hf⟩ := o_b hf
  refine mw_cNi (As := [.int (M 1 6), .int p1]) (rest := [.ref (mvA V 1)]) hC hM (mcX11_moved V l M (M 1 6) p1 r1 hq2) (mw_kN hC (mw_nw hC 2 rfl) q_748 q_107 q_749 ⟨rfl, rfl⟩ kS_X11_moved ⟨Nat.le_of_ble_eq_true rfl, Nat.le_of_ble_eq_true rfl⟩) rfl rfl (Nat.le_of_ble_eq_true rfl) hl.1 dX4_goOn_6 (fun H locs hM _ => ?_)
  refine mw_put hC hM 1 (Nat.le_of_ble_eq_true rfl) (eC_1 V) inW4 tyX4 tyX4_ok nmX4 rfl 6 (by decide) q_218 (fun _ h9 => h9) rfl rfl rfl (Nat.le_of_ble_eq_true rfl) rfl dX4_goOn_9 (fun H locs hM => ?_)
  refine lv_aload_n hC.1 hC.2.1 dX4_goOn_12 rfl (lv_at hl 0 rfl) ?_
  refine lv_aload_n hC.1 hC.2.1 dX4_goOn_13 rfl (lv_at hl 0 rfl) ?_
  refine mw_get (v := .int ((wr M 1 6 r1) 1 9)) hC hM 1 (Nat.le_of_ble_eq_true rfl) (eC_1 V) inW4 rfl 9 (by decide) q_224 (fun _ h9 => h9) rfl dX4_goOn_14 ?_
  refine lv_iload_n hC.1 hC.2.1 dX4_goOn_17 rfl (lv_at hl 1 rfl) ?_
  obtain ⟨r3, hq4, hf⟩ := o_b hf
  refine mw_cNi (As := [.int ((wr M 1 6 r1) 1 9), .int p1]) (rest := [.ref (mvA V 1)]) hC hM (mcX11_moved V l (wr M 1 6 r1) ((wr M 1 6 r1) 1 9) p1 r3 hq4) (mw_kN hC (mw_nw hC 2 rfl) q_748 q_107 q_749 ⟨rfl, rfl⟩ kS_X11_moved ⟨Nat.le_of_ble_eq_true rfl, Nat.le_of_ble_eq_true rfl⟩) rfl rfl (Nat.le_of_ble_eq_true rfl) hl.1 dX4_goOn_18 (fun H locs hM _ => ?_)
  refine mw_put hC hM 1 (Nat.le_of_ble_eq_true rfl) (eC_1 V) inW4 tyX4 tyX4_ok nmX4 rfl 9 (by decide) q_224 (fun _ h9 => h9) rfl rfl rfl (Nat.le_of_ble_eq_true rfl) rfl dX4_goOn_21 (fun H locs hM => ?_)
  refine lv_aload_n hC.1 hC.2.1 dX4_goOn_24 rfl (lv_at hl 0 rfl) ?_
  refine lv_dup hC.1 hC.2.1 dX4_goOn_25 rfl ?_
  refine mw_get (v := .int ((wr (wr M 1 6 r1) 1 9 r3) 1 7)) hC hM 1 (Nat.le_of_ble_eq_true rfl) (eC_1 V) inW4 rfl 7 (by decide) q_220 (fun _ h9 => h9) rfl dX4_goOn_26 ?_
  refine lv_iconst hC.1 hC.2.1 dX4_goOn_29 ci_1 ?_
  refine lv_iadd hC.1 hC.2.1 dX4_goOn_30 ?_
  refine mw_put hC hM 1 (Nat.le_of_ble_eq_true rfl) (eC_1 V) inW4 tyX4 tyX4_ok nmX4 rfl 7 (by decide) q_220 (fun _ h9 => h9) rfl rfl rfl (Nat.le_of_ble_eq_true rfl) rfl dX4_goOn_31 (fun H locs hM => ?_)
  refine lv_aload_n hC.1 hC.2.1 dX4_goOn_34 rfl (lv_at hl 0 rfl) ?_
  refine mw_get (v := .int ((wr (wr (wr M 1 6 r1) 1 9 r3) 1 7 (((wr (wr M 1 6 r1) 1 9 r3) 1 7) + 1)) 1 6)) hC hM 1 (Nat.le_of_ble_eq_true rfl) (eC_1 V) inW4 rfl 6 (by decide) q_218 (fun _ h9 => h9) rfl dX4_goOn_35 ?_
  exact hret (o_r1 hf) (o_r2 hf hM) dX4_goOn_38
set_option maxHeartbeats 4000000 in
set_option maxRecDepth 100000 in
theorem mcX11_noon (V : mV) (l : Launch) (M : mM) (r : Int32) (M' : mM) (hf : fX11_noon M = some (r, M')) : IC V l yX11_noon cX11_noon 1 ({ frames := 5, cells := 0, slots := 0, locals := 123 } : Room) [.ref (mvA V 0)] M r M' := by
  unfold fX11_noon at hf
  refine mw_enterI RX11 rfl (by decide +kernel) (Nat.le_of_ble_eq_true rfl) (fun {p e s m args below meth c} ls A Q hC hret hM hl => ?_)
  have hl : lv_has ls 1 [(0, .ref (mvA V 0))] := hl
  refine lv_aload_n hC.1 hC.2.1 dX11_noon_0 rfl (lv_at hl 0 rfl) ?_
  refine mw_get (v := .ref (mvA V 1)) hC hM 0 (Nat.le_of_ble_eq_true rfl) (eC_0 V) inW11 rfl 0 (by decide) q_424 (fun _ h9 => h9) rfl dX11_noon_1 ?_
  refine mw_get (v := .int (M 1 7)) hC hM 1 (Nat.le_of_ble_eq_true rfl) (eC_1 V) inW4 rfl 7 (by decide) q_221 (fun _ h9 => h9) rfl dX11_noon_4 ?_
  refine lv_sipush hC.1 hC.2.1 dX11_noon_7 cs_9999 ?_
  refine lv_icmp_lt (tgt := 16) hC.1 hC.2.1 dX11_noon_10 (by decide) (fun hc7 => ?_) (fun hc7 => ?_)
  · have hf := o_t hc7 hf
    refine lv_aload_n hC.1 hC.2.1 dX11_noon_16 rfl (lv_at hl 0 rfl) ?_
    refine mw_get (v := .ref (mvA V 1)) hC hM 0 (Nat.le_of_ble_eq_true rfl) (eC_0 V) inW11 rfl 0 (by decide) q_424 (fun _ h9 => h9) rfl dX11_noon_17 ?_
    refine lv_aload_n hC.1 hC.2.1 dX11_noon_20 rfl (lv_at hl 0 rfl) ?_
    obtain ⟨r1, M3, hq2, hf⟩ := o_b2 hf
    refine mw_cVi (As := []) (rest := [.ref (mvA V 1)]) hC hM (mcX11_turnNow V l M r1 M3 hq2) (mw_kV hC q_736 q_738 q_18 q_107 q_739 ⟨rfl, rfl⟩ kV_X11_turnNow ⟨Nat.le_of_ble_eq_true rfl, Nat.le_of_ble_eq_true rfl⟩) (Nat.le_of_ble_eq_true rfl) (eC_0 V) rfl rfl rfl (Nat.le_of_ble_eq_true rfl) hl.1 dX11_noon_21 (fun H locs hM _ => ?_)
    obtain ⟨r4, M6, hq5, hf⟩ := o_b2 hf
    refine mw_cVi (As := [.int r1]) (rest := []) hC hM (mcX4_goOn_q1 V l M3 r1 r4 M6 hq5) (mw_kV hC q_743 q_744 q_745 q_109 q_746 ⟨rfl, rfl⟩ kV_X4_goOn ⟨Nat.le_of_ble_eq_true rfl, Nat.le_of_ble_eq_true rfl⟩) (Nat.le_of_ble_eq_true rfl) (eC_1 V) rfl rfl rfl (Nat.le_of_ble_eq_true rfl) hl.1 dX11_noon_24 (fun H locs hM _ => ?_)
    exact hret (o_r1 hf) (o_r2 hf hM) dX11_noon_27
  · have hf := o_f hc7 hf
    refine lv_bipush hC.1 hC.2.1 dX11_noon_13 cb_m4 ?_
    exact hret (o_r1 hf) (o_r2 hf hM) dX11_noon_15
