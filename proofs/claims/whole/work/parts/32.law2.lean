set_option maxHeartbeats 4000000 in
set_option maxRecDepth 100000 in
theorem lc_25 {p : Program} {e : Env} {s : State} {m : MethodId} {below : List Frame} {meth : Method} {c : Code} {l : Launch} {x : Cond} {V : mV} {a' : Nat → Nat} {b L cells slots : Nat} {xs : Nat → Int32} {A : Nat → Prop} {Q : State → Prop} (hC : mw_C p s m #[Value.ref b] c code 4 RL x (mvD V) vwCl (mvY V) ssL (mvK V) (mvW V) A) (hX : va_X b L xs s s.heap) (hbl : b < s.heap.size) (hbA : ¬ A b) (hcs : cells ≤ room_1.cells ∧ slots ≤ room_1.slots) {kf : mM → mM → Int32 → Option Int32} (hk : ∀ (M T : mM) (x3 : Int32) (H : Heap) (locs : List Loc) (ls : Array Slot), kf M T x3 = some 1 → L2 V a' M T A s H locs → lv_has ls 4 [(0, .ref b), (1, .ref (mvA V 0)), (2, .ref (a' 0)), (3, .int x3)] → W p l e room_1 s m #[Value.ref b] below meth c H locs cells slots Q (F0 m 18 ls [])) (M T : mM) (x3 : Int32) (H : Heap) (locs : List Loc) (ls : Array Slot) (hf : fL_25 kf L xs M T x3 = some 1) (hM : L2 V a' M T A s H locs) (hl : lv_has ls 4 [(0, .ref b), (1, .ref (mvA V 0)), (2, .ref (a' 0)), (3, .int x3)]) : W p l e room_1 s m #[Value.ref b] below meth c H locs cells slots Q (F0 m 945 ls []) := by
  unfold fL_25 at hf
  refine lv_aload_n hC.1 hC.2.1 dL_law_945 rfl (lv_at hl 1 rfl) ?_
  refine lv_aload_n hC.1 hC.2.1 dL_law_946 rfl (lv_at hl 0 rfl) ?_
  refine lv_iload_n hC.1 hC.2.1 dL_law_947 rfl (lv_at hl 3 rfl) ?_
  refine lv_iconst hC.1 hC.2.1 dL_law_948 ci_1 ?_
  refine lv_iadd hC.1 hC.2.1 dL_law_949 ?_
  obtain ⟨hg1, hf⟩ := o_g hf
  refine va_sld hC.1 hC.2.1 hX hbl hbA hM.1.2.2 (ix_in hg1) dL_law_950 ?_
  obtain ⟨r2, M4, hq3, hf⟩ := o_b2 hf
  refine l2_c1 (As := [.int (xs (Int32.toNatClampNeg (x3 + 1)))]) (rest := []) hC hM (mcX11_play V l M (xs (Int32.toNatClampNeg (x3 + 1))) r2 M4 hq3) (mw_kV hC q_887 q_888 q_889 q_107 q_890 ⟨rfl, rfl⟩ kV_X11_play ⟨Nat.le_of_ble_eq_true rfl, Nat.le_of_ble_eq_true rfl⟩) rfl rfl (Nat.le_of_ble_eq_true rfl) hl.1 hcs dL_law_951 (fun H locs hM => ?_)
  refine lv_aload_n hC.1 hC.2.1 dL_law_954 rfl (lv_at hl 2 rfl) ?_
  refine lv_aload_n hC.1 hC.2.1 dL_law_955 rfl (lv_at hl 0 rfl) ?_
  refine lv_iload_n hC.1 hC.2.1 dL_law_956 rfl (lv_at hl 3 rfl) ?_
  refine lv_iconst hC.1 hC.2.1 dL_law_957 ci_1 ?_
  refine lv_iadd hC.1 hC.2.1 dL_law_958 ?_
  obtain ⟨hg5, hf⟩ := o_g hf
  refine va_sld hC.1 hC.2.1 hX hbl hbA hM.1.2.2 (ix_in hg5) dL_law_959 ?_
  obtain ⟨r6, M8, hq7, hf⟩ := o_b2 hf
  refine l2_c2 (As := [.int (xs (Int32.toNatClampNeg (x3 + 1)))]) (rest := [.int r2]) hC hM (mcX12_play (V2 V a') l T (xs (Int32.toNatClampNeg (x3 + 1))) r6 M8 hq7) (mw_kV hC q_1587 q_1588 q_1589 q_120 q_1590 ⟨rfl, rfl⟩ kV_X12_play ⟨Nat.le_of_ble_eq_true rfl, Nat.le_of_ble_eq_true rfl⟩) rfl rfl (Nat.le_of_ble_eq_true rfl) hl.1 hcs dL_law_960 (fun H locs hM => ?_)
  refine lv_icmp_eq (tgt := 1647) hC.1 hC.2.1 dL_law_963 (by decide) (fun hc9 => ?_) (fun hc9 => ?_)
  · have hf := o_t hc9 hf
    refine lv_iinc (k := 3) (lv' := [(3, .int (x3 + 5)), (0, .ref b), (1, .ref (mvA V 0)), (2, .ref (a' 0))]) hC.1 hC.2.1 dL_law_1647 hl rfl (inc_5 _) (Nat.le_of_ble_eq_true rfl) rfl (fun ls hl => ?_)
    refine lv_goto (tgt := 18) hC.1 hC.2.1 dL_law_1650 (by decide) ?_
    exact hk _ _ _ _ _ _ hf hM (lv_sub hl [1, 2, 3, 0] rfl)
  · have hf := o_f hc9 hf
    exact absurd (Option.some.inj hf) (by decide)
set_option maxHeartbeats 4000000 in
set_option maxRecDepth 100000 in
theorem lc_26 {p : Program} {e : Env} {s : State} {m : MethodId} {below : List Frame} {meth : Method} {c : Code} {l : Launch} {x : Cond} {V : mV} {a' : Nat → Nat} {b L cells slots : Nat} {xs : Nat → Int32} {A : Nat → Prop} {Q : State → Prop} (hC : mw_C p s m #[Value.ref b] c code 4 RL x (mvD V) vwCl (mvY V) ssL (mvK V) (mvW V) A) (hX : va_X b L xs s s.heap) (hbl : b < s.heap.size) (hbA : ¬ A b) (hcs : cells ≤ room_1.cells ∧ slots ≤ room_1.slots) {kf : mM → mM → Int32 → Option Int32} (hk : ∀ (M T : mM) (x3 : Int32) (H : Heap) (locs : List Loc) (ls : Array Slot), kf M T x3 = some 1 → L2 V a' M T A s H locs → lv_has ls 4 [(0, .ref b), (1, .ref (mvA V 0)), (2, .ref (a' 0)), (3, .int x3)] → W p l e room_1 s m #[Value.ref b] below meth c H locs cells slots Q (F0 m 18 ls [])) (M T : mM) (x3 : Int32) (H : Heap) (locs : List Loc) (ls : Array Slot) (hf : fL_26 kf L xs M T x3 = some 1) (hM : L2 V a' M T A s H locs) (hl : lv_has ls 4 [(0, .ref b), (1, .ref (mvA V 0)), (2, .ref (a' 0)), (3, .int x3)]) : W p l e room_1 s m #[Value.ref b] below meth c H locs cells slots Q (F0 m 968 ls []) := by
  unfold fL_26 at hf
  refine lv_aload_n hC.1 hC.2.1 dL_law_968 rfl (lv_at hl 1 rfl) ?_
  refine lv_aload_n hC.1 hC.2.1 dL_law_969 rfl (lv_at hl 0 rfl) ?_
  refine lv_iload_n hC.1 hC.2.1 dL_law_970 rfl (lv_at hl 3 rfl) ?_
  refine lv_iconst hC.1 hC.2.1 dL_law_971 ci_1 ?_
  refine lv_iadd hC.1 hC.2.1 dL_law_972 ?_
  obtain ⟨hg1, hf⟩ := o_g hf
  refine va_sld hC.1 hC.2.1 hX hbl hbA hM.1.2.2 (ix_in hg1) dL_law_973 ?_
  refine lv_aload_n hC.1 hC.2.1 dL_law_974 rfl (lv_at hl 0 rfl) ?_
  refine lv_iload_n hC.1 hC.2.1 dL_law_975 rfl (lv_at hl 3 rfl) ?_
  refine lv_iconst hC.1 hC.2.1 dL_law_976 ci_2 ?_
  refine lv_iadd hC.1 hC.2.1 dL_law_977 ?_
  obtain ⟨hg2, hf⟩ := o_g hf
  refine va_sld hC.1 hC.2.1 hX hbl hbA hM.1.2.2 (ix_in hg2) dL_law_978 ?_
  obtain ⟨r3, M5, hq4, hf⟩ := o_b2 hf
  refine l2_c1 (As := [.int (xs (Int32.toNatClampNeg (x3 + 1))), .int (xs (Int32.toNatClampNeg (x3 + 2)))]) (rest := []) hC hM (mcX11_report V l M (xs (Int32.toNatClampNeg (x3 + 1))) (xs (Int32.toNatClampNeg (x3 + 2))) r3 M5 hq4) (mw_kV hC q_891 q_892 q_893 q_107 q_894 ⟨rfl, rfl⟩ kV_X11_report ⟨Nat.le_of_ble_eq_true rfl, Nat.le_of_ble_eq_true rfl⟩) rfl rfl (Nat.le_of_ble_eq_true rfl) hl.1 hcs dL_law_979 (fun H locs hM => ?_)
  refine lv_aload_n hC.1 hC.2.1 dL_law_982 rfl (lv_at hl 2 rfl) ?_
  refine lv_aload_n hC.1 hC.2.1 dL_law_983 rfl (lv_at hl 0 rfl) ?_
  refine lv_iload_n hC.1 hC.2.1 dL_law_984 rfl (lv_at hl 3 rfl) ?_
  refine lv_iconst hC.1 hC.2.1 dL_law_985 ci_1 ?_
  refine lv_iadd hC.1 hC.2.1 dL_law_986 ?_
  obtain ⟨hg6, hf⟩ := o_g hf
  refine va_sld hC.1 hC.2.1 hX hbl hbA hM.1.2.2 (ix_in hg6) dL_law_987 ?_
  refine lv_aload_n hC.1 hC.2.1 dL_law_988 rfl (lv_at hl 0 rfl) ?_
  refine lv_iload_n hC.1 hC.2.1 dL_law_989 rfl (lv_at hl 3 rfl) ?_
  refine lv_iconst hC.1 hC.2.1 dL_law_990 ci_2 ?_
  refine lv_iadd hC.1 hC.2.1 dL_law_991 ?_
  obtain ⟨hg7, hf⟩ := o_g hf
  refine va_sld hC.1 hC.2.1 hX hbl hbA hM.1.2.2 (ix_in hg7) dL_law_992 ?_
  obtain ⟨r8, M10, hq9, hf⟩ := o_b2 hf
  refine l2_c2 (As := [.int (xs (Int32.toNatClampNeg (x3 + 1))), .int (xs (Int32.toNatClampNeg (x3 + 2)))]) (rest := [.int r3]) hC hM (mcX12_report (V2 V a') l T (xs (Int32.toNatClampNeg (x3 + 1))) (xs (Int32.toNatClampNeg (x3 + 2))) r8 M10 hq9) (mw_kV hC q_1592 q_1593 q_1594 q_120 q_1595 ⟨rfl, rfl⟩ kV_X12_report ⟨Nat.le_of_ble_eq_true rfl, Nat.le_of_ble_eq_true rfl⟩) rfl rfl (Nat.le_of_ble_eq_true rfl) hl.1 hcs dL_law_993 (fun H locs hM => ?_)
  refine lv_icmp_eq (tgt := 1647) hC.1 hC.2.1 dL_law_996 (by decide) (fun hc11 => ?_) (fun hc11 => ?_)
  · have hf := o_t hc11 hf
    refine lv_iinc (k := 3) (lv' := [(3, .int (x3 + 5)), (0, .ref b), (1, .ref (mvA V 0)), (2, .ref (a' 0))]) hC.1 hC.2.1 dL_law_1647 hl rfl (inc_5 _) (Nat.le_of_ble_eq_true rfl) rfl (fun ls hl => ?_)
    refine lv_goto (tgt := 18) hC.1 hC.2.1 dL_law_1650 (by decide) ?_
    exact hk _ _ _ _ _ _ hf hM (lv_sub hl [1, 2, 3, 0] rfl)
  · have hf := o_f hc11 hf
    exact absurd (Option.some.inj hf) (by decide)
set_option maxHeartbeats 4000000 in
set_option maxRecDepth 100000 in
theorem lc_27 {p : Program} {e : Env} {s : State} {m : MethodId} {below : List Frame} {meth : Method} {c : Code} {l : Launch} {x : Cond} {V : mV} {a' : Nat → Nat} {b L cells slots : Nat} {xs : Nat → Int32} {A : Nat → Prop} {Q : State → Prop} (hC : mw_C p s m #[Value.ref b] c code 4 RL x (mvD V) vwCl (mvY V) ssL (mvK V) (mvW V) A) (hX : va_X b L xs s s.heap) (hbl : b < s.heap.size) (hbA : ¬ A b) (hcs : cells ≤ room_1.cells ∧ slots ≤ room_1.slots) {kf : mM → mM → Int32 → Option Int32} (hk : ∀ (M T : mM) (x3 : Int32) (H : Heap) (locs : List Loc) (ls : Array Slot), kf M T x3 = some 1 → L2 V a' M T A s H locs → lv_has ls 4 [(0, .ref b), (1, .ref (mvA V 0)), (2, .ref (a' 0)), (3, .int x3)] → W p l e room_1 s m #[Value.ref b] below meth c H locs cells slots Q (F0 m 18 ls [])) (M T : mM) (x3 : Int32) (H : Heap) (locs : List Loc) (ls : Array Slot) (hf : fL_27 kf L xs M T x3 = some 1) (hM : L2 V a' M T A s H locs) (hl : lv_has ls 4 [(0, .ref b), (1, .ref (mvA V 0)), (2, .ref (a' 0)), (3, .int x3)]) : W p l e room_1 s m #[Value.ref b] below meth c H locs cells slots Q (F0 m 1001 ls []) := by
  unfold fL_27 at hf
  refine lv_aload_n hC.1 hC.2.1 dL_law_1001 rfl (lv_at hl 1 rfl) ?_
  obtain ⟨r1, M3, hq2, hf⟩ := o_b2 hf
  refine l2_c1 (As := []) (rest := []) hC hM (mcX11_forget V l M r1 M3 hq2) (mw_kV hC q_895 q_896 q_897 q_107 q_898 ⟨rfl, rfl⟩ kV_X11_forget ⟨Nat.le_of_ble_eq_true rfl, Nat.le_of_ble_eq_true rfl⟩) rfl rfl (Nat.le_of_ble_eq_true rfl) hl.1 hcs dL_law_1002 (fun H locs hM => ?_)
  refine lv_aload_n hC.1 hC.2.1 dL_law_1005 rfl (lv_at hl 2 rfl) ?_
  obtain ⟨r4, M6, hq5, hf⟩ := o_b2 hf
  refine l2_c2 (As := []) (rest := [.int r1]) hC hM (mcX12_forget (V2 V a') l T r4 M6 hq5) (mw_kV hC q_1596 q_1597 q_1598 q_120 q_1599 ⟨rfl, rfl⟩ kV_X12_forget ⟨Nat.le_of_ble_eq_true rfl, Nat.le_of_ble_eq_true rfl⟩) rfl rfl (Nat.le_of_ble_eq_true rfl) hl.1 hcs dL_law_1006 (fun H locs hM => ?_)
  refine lv_icmp_eq (tgt := 1647) hC.1 hC.2.1 dL_law_1009 (by decide) (fun hc7 => ?_) (fun hc7 => ?_)
  · have hf := o_t hc7 hf
    refine lv_iinc (k := 3) (lv' := [(3, .int (x3 + 5)), (0, .ref b), (1, .ref (mvA V 0)), (2, .ref (a' 0))]) hC.1 hC.2.1 dL_law_1647 hl rfl (inc_5 _) (Nat.le_of_ble_eq_true rfl) rfl (fun ls hl => ?_)
    refine lv_goto (tgt := 18) hC.1 hC.2.1 dL_law_1650 (by decide) ?_
    exact hk _ _ _ _ _ _ hf hM (lv_sub hl [1, 2, 3, 0] rfl)
  · have hf := o_f hc7 hf
    exact absurd (Option.some.inj hf) (by decide)
set_option maxHeartbeats 4000000 in
set_option maxRecDepth 100000 in
theorem lc_28 {p : Program} {e : Env} {s : State} {m : MethodId} {below : List Frame} {meth : Method} {c : Code} {l : Launch} {x : Cond} {V : mV} {a' : Nat → Nat} {b L cells slots : Nat} {xs : Nat → Int32} {A : Nat → Prop} {Q : State → Prop} (hC : mw_C p s m #[Value.ref b] c code 4 RL x (mvD V) vwCl (mvY V) ssL (mvK V) (mvW V) A) (hX : va_X b L xs s s.heap) (hbl : b < s.heap.size) (hbA : ¬ A b) (hcs : cells ≤ room_1.cells ∧ slots ≤ room_1.slots) {kf : mM → mM → Int32 → Option Int32} (hk : ∀ (M T : mM) (x3 : Int32) (H : Heap) (locs : List Loc) (ls : Array Slot), kf M T x3 = some 1 → L2 V a' M T A s H locs → lv_has ls 4 [(0, .ref b), (1, .ref (mvA V 0)), (2, .ref (a' 0)), (3, .int x3)] → W p l e room_1 s m #[Value.ref b] below meth c H locs cells slots Q (F0 m 18 ls [])) (M T : mM) (x3 : Int32) (H : Heap) (locs : List Loc) (ls : Array Slot) (hf : fL_28 kf L xs M T x3 = some 1) (hM : L2 V a' M T A s H locs) (hl : lv_has ls 4 [(0, .ref b), (1, .ref (mvA V 0)), (2, .ref (a' 0)), (3, .int x3)]) : W p l e room_1 s m #[Value.ref b] below meth c H locs cells slots Q (F0 m 1014 ls []) := by
  unfold fL_28 at hf
  refine lv_aload_n hC.1 hC.2.1 dL_law_1014 rfl (lv_at hl 1 rfl) ?_
  refine lv_aload_n hC.1 hC.2.1 dL_law_1015 rfl (lv_at hl 0 rfl) ?_
  refine lv_iload_n hC.1 hC.2.1 dL_law_1016 rfl (lv_at hl 3 rfl) ?_
  refine lv_iconst hC.1 hC.2.1 dL_law_1017 ci_1 ?_
  refine lv_iadd hC.1 hC.2.1 dL_law_1018 ?_
  obtain ⟨hg1, hf⟩ := o_g hf
  refine va_sld hC.1 hC.2.1 hX hbl hbA hM.1.2.2 (ix_in hg1) dL_law_1019 ?_
  obtain ⟨r2, hq3, hf⟩ := o_b hf
  refine l2_c1 (As := [.int (xs (Int32.toNatClampNeg (x3 + 1)))]) (rest := []) hC hM (mcX11_span V l M (xs (Int32.toNatClampNeg (x3 + 1))) r2 hq3) (mw_kV hC q_899 q_900 q_901 q_107 q_902 ⟨rfl, rfl⟩ kV_X11_span ⟨Nat.le_of_ble_eq_true rfl, Nat.le_of_ble_eq_true rfl⟩) rfl rfl (Nat.le_of_ble_eq_true rfl) hl.1 hcs dL_law_1020 (fun H locs hM => ?_)
  refine lv_aload_n hC.1 hC.2.1 dL_law_1023 rfl (lv_at hl 2 rfl) ?_
  refine lv_aload_n hC.1 hC.2.1 dL_law_1024 rfl (lv_at hl 0 rfl) ?_
  refine lv_iload_n hC.1 hC.2.1 dL_law_1025 rfl (lv_at hl 3 rfl) ?_
  refine lv_iconst hC.1 hC.2.1 dL_law_1026 ci_1 ?_
  refine lv_iadd hC.1 hC.2.1 dL_law_1027 ?_
  obtain ⟨hg4, hf⟩ := o_g hf
  refine va_sld hC.1 hC.2.1 hX hbl hbA hM.1.2.2 (ix_in hg4) dL_law_1028 ?_
  obtain ⟨r5, M7, hq6, hf⟩ := o_b2 hf
  refine l2_c2 (As := [.int (xs (Int32.toNatClampNeg (x3 + 1)))]) (rest := [.int r2]) hC hM (mcX12_span (V2 V a') l T (xs (Int32.toNatClampNeg (x3 + 1))) r5 M7 hq6) (mw_kV hC q_1600 q_1601 q_1602 q_120 q_1603 ⟨rfl, rfl⟩ kV_X12_span ⟨Nat.le_of_ble_eq_true rfl, Nat.le_of_ble_eq_true rfl⟩) rfl rfl (Nat.le_of_ble_eq_true rfl) hl.1 hcs dL_law_1029 (fun H locs hM => ?_)
  refine lv_icmp_eq (tgt := 1647) hC.1 hC.2.1 dL_law_1032 (by decide) (fun hc8 => ?_) (fun hc8 => ?_)
  · have hf := o_t hc8 hf
    refine lv_iinc (k := 3) (lv' := [(3, .int (x3 + 5)), (0, .ref b), (1, .ref (mvA V 0)), (2, .ref (a' 0))]) hC.1 hC.2.1 dL_law_1647 hl rfl (inc_5 _) (Nat.le_of_ble_eq_true rfl) rfl (fun ls hl => ?_)
    refine lv_goto (tgt := 18) hC.1 hC.2.1 dL_law_1650 (by decide) ?_
    exact hk _ _ _ _ _ _ hf hM (lv_sub hl [1, 2, 3, 0] rfl)
  · have hf := o_f hc8 hf
    exact absurd (Option.some.inj hf) (by decide)
set_option maxHeartbeats 4000000 in
set_option maxRecDepth 100000 in
theorem lc_29 {p : Program} {e : Env} {s : State} {m : MethodId} {below : List Frame} {meth : Method} {c : Code} {l : Launch} {x : Cond} {V : mV} {a' : Nat → Nat} {b L cells slots : Nat} {xs : Nat → Int32} {A : Nat → Prop} {Q : State → Prop} (hC : mw_C p s m #[Value.ref b] c code 4 RL x (mvD V) vwCl (mvY V) ssL (mvK V) (mvW V) A) (hX : va_X b L xs s s.heap) (hbl : b < s.heap.size) (hbA : ¬ A b) (hcs : cells ≤ room_1.cells ∧ slots ≤ room_1.slots) {kf : mM → mM → Int32 → Option Int32} (hk : ∀ (M T : mM) (x3 : Int32) (H : Heap) (locs : List Loc) (ls : Array Slot), kf M T x3 = some 1 → L2 V a' M T A s H locs → lv_has ls 4 [(0, .ref b), (1, .ref (mvA V 0)), (2, .ref (a' 0)), (3, .int x3)] → W p l e room_1 s m #[Value.ref b] below meth c H locs cells slots Q (F0 m 18 ls [])) (M T : mM) (x3 : Int32) (H : Heap) (locs : List Loc) (ls : Array Slot) (hf : fL_29 kf L xs M T x3 = some 1) (hM : L2 V a' M T A s H locs) (hl : lv_has ls 4 [(0, .ref b), (1, .ref (mvA V 0)), (2, .ref (a' 0)), (3, .int x3)]) : W p l e room_1 s m #[Value.ref b] below meth c H locs cells slots Q (F0 m 1037 ls []) := by
  unfold fL_29 at hf
  refine lv_aload_n hC.1 hC.2.1 dL_law_1037 rfl (lv_at hl 1 rfl) ?_
  obtain ⟨r1, hq2, hf⟩ := o_b hf
  refine l2_c1 (As := []) (rest := []) hC hM (mcX11_liar V l M r1 hq2) (mw_kV hC q_907 q_908 q_909 q_107 q_910 ⟨rfl, rfl⟩ kV_X11_liar ⟨Nat.le_of_ble_eq_true rfl, Nat.le_of_ble_eq_true rfl⟩) rfl rfl (Nat.le_of_ble_eq_true rfl) hl.1 hcs dL_law_1038 (fun H locs hM => ?_)
  refine lv_aload_n hC.1 hC.2.1 dL_law_1041 rfl (lv_at hl 2 rfl) ?_
  obtain ⟨r3, M5, hq4, hf⟩ := o_b2 hf
  refine l2_c2 (As := []) (rest := [.int r1]) hC hM (mcX12_liar (V2 V a') l T r3 M5 hq4) (mw_kV hC q_1608 q_1609 q_1610 q_120 q_1611 ⟨rfl, rfl⟩ kV_X12_liar ⟨Nat.le_of_ble_eq_true rfl, Nat.le_of_ble_eq_true rfl⟩) rfl rfl (Nat.le_of_ble_eq_true rfl) hl.1 hcs dL_law_1042 (fun H locs hM => ?_)
  refine lv_icmp_eq (tgt := 1647) hC.1 hC.2.1 dL_law_1045 (by decide) (fun hc6 => ?_) (fun hc6 => ?_)
  · have hf := o_t hc6 hf
    refine lv_iinc (k := 3) (lv' := [(3, .int (x3 + 5)), (0, .ref b), (1, .ref (mvA V 0)), (2, .ref (a' 0))]) hC.1 hC.2.1 dL_law_1647 hl rfl (inc_5 _) (Nat.le_of_ble_eq_true rfl) rfl (fun ls hl => ?_)
    refine lv_goto (tgt := 18) hC.1 hC.2.1 dL_law_1650 (by decide) ?_
    exact hk _ _ _ _ _ _ hf hM (lv_sub hl [1, 2, 3, 0] rfl)
  · have hf := o_f hc6 hf
    exact absurd (Option.some.inj hf) (by decide)
set_option maxHeartbeats 4000000 in
set_option maxRecDepth 100000 in
theorem lc_30 {p : Program} {e : Env} {s : State} {m : MethodId} {below : List Frame} {meth : Method} {c : Code} {l : Launch} {x : Cond} {V : mV} {a' : Nat → Nat} {b L cells slots : Nat} {xs : Nat → Int32} {A : Nat → Prop} {Q : State → Prop} (hC : mw_C p s m #[Value.ref b] c code 4 RL x (mvD V) vwCl (mvY V) ssL (mvK V) (mvW V) A) (hX : va_X b L xs s s.heap) (hbl : b < s.heap.size) (hbA : ¬ A b) (hcs : cells ≤ room_1.cells ∧ slots ≤ room_1.slots) {kf : mM → mM → Int32 → Option Int32} (hk : ∀ (M T : mM) (x3 : Int32) (H : Heap) (locs : List Loc) (ls : Array Slot), kf M T x3 = some 1 → L2 V a' M T A s H locs → lv_has ls 4 [(0, .ref b), (1, .ref (mvA V 0)), (2, .ref (a' 0)), (3, .int x3)] → W p l e room_1 s m #[Value.ref b] below meth c H locs cells slots Q (F0 m 18 ls [])) (M T : mM) (x3 : Int32) (H : Heap) (locs : List Loc) (ls : Array Slot) (hf : fL_30 kf L xs M T x3 = some 1) (hM : L2 V a' M T A s H locs) (hl : lv_has ls 4 [(0, .ref b), (1, .ref (mvA V 0)), (2, .ref (a' 0)), (3, .int x3)]) : W p l e room_1 s m #[Value.ref b] below meth c H locs cells slots Q (F0 m 1050 ls []) := by
  unfold fL_30 at hf
  refine lv_aload_n hC.1 hC.2.1 dL_law_1050 rfl (lv_at hl 1 rfl) ?_
  refine lv_aload_n hC.1 hC.2.1 dL_law_1051 rfl (lv_at hl 0 rfl) ?_
  refine lv_iload_n hC.1 hC.2.1 dL_law_1052 rfl (lv_at hl 3 rfl) ?_
  refine lv_iconst hC.1 hC.2.1 dL_law_1053 ci_1 ?_
  refine lv_iadd hC.1 hC.2.1 dL_law_1054 ?_
  obtain ⟨hg1, hf⟩ := o_g hf
  refine va_sld hC.1 hC.2.1 hX hbl hbA hM.1.2.2 (ix_in hg1) dL_law_1055 ?_
  obtain ⟨r2, M4, hq3, hf⟩ := o_b2 hf
  refine l2_c1 (As := [.int (xs (Int32.toNatClampNeg (x3 + 1)))]) (rest := []) hC hM (mcX11_seed V l M (xs (Int32.toNatClampNeg (x3 + 1))) r2 M4 hq3) (mw_kV hC q_915 q_916 q_917 q_107 q_918 ⟨rfl, rfl⟩ kV_X11_seed ⟨Nat.le_of_ble_eq_true rfl, Nat.le_of_ble_eq_true rfl⟩) rfl rfl (Nat.le_of_ble_eq_true rfl) hl.1 hcs dL_law_1056 (fun H locs hM => ?_)
  refine lv_aload_n hC.1 hC.2.1 dL_law_1059 rfl (lv_at hl 2 rfl) ?_
  refine lv_aload_n hC.1 hC.2.1 dL_law_1060 rfl (lv_at hl 0 rfl) ?_
  refine lv_iload_n hC.1 hC.2.1 dL_law_1061 rfl (lv_at hl 3 rfl) ?_
  refine lv_iconst hC.1 hC.2.1 dL_law_1062 ci_1 ?_
  refine lv_iadd hC.1 hC.2.1 dL_law_1063 ?_
  obtain ⟨hg5, hf⟩ := o_g hf
  refine va_sld hC.1 hC.2.1 hX hbl hbA hM.1.2.2 (ix_in hg5) dL_law_1064 ?_
  obtain ⟨r6, M8, hq7, hf⟩ := o_b2 hf
  refine l2_c2 (As := [.int (xs (Int32.toNatClampNeg (x3 + 1)))]) (rest := [.int r2]) hC hM (mcX12_seed (V2 V a') l T (xs (Int32.toNatClampNeg (x3 + 1))) r6 M8 hq7) (mw_kV hC q_1612 q_1613 q_1614 q_120 q_1615 ⟨rfl, rfl⟩ kV_X12_seed ⟨Nat.le_of_ble_eq_true rfl, Nat.le_of_ble_eq_true rfl⟩) rfl rfl (Nat.le_of_ble_eq_true rfl) hl.1 hcs dL_law_1065 (fun H locs hM => ?_)
  refine lv_icmp_eq (tgt := 1647) hC.1 hC.2.1 dL_law_1068 (by decide) (fun hc9 => ?_) (fun hc9 => ?_)
  · have hf := o_t hc9 hf
    refine lv_iinc (k := 3) (lv' := [(3, .int (x3 + 5)), (0, .ref b), (1, .ref (mvA V 0)), (2, .ref (a' 0))]) hC.1 hC.2.1 dL_law_1647 hl rfl (inc_5 _) (Nat.le_of_ble_eq_true rfl) rfl (fun ls hl => ?_)
    refine lv_goto (tgt := 18) hC.1 hC.2.1 dL_law_1650 (by decide) ?_
    exact hk _ _ _ _ _ _ hf hM (lv_sub hl [1, 2, 3, 0] rfl)
  · have hf := o_f hc9 hf
    exact absurd (Option.some.inj hf) (by decide)
set_option maxHeartbeats 4000000 in
set_option maxRecDepth 100000 in
theorem lc_31 {p : Program} {e : Env} {s : State} {m : MethodId} {below : List Frame} {meth : Method} {c : Code} {l : Launch} {x : Cond} {V : mV} {a' : Nat → Nat} {b L cells slots : Nat} {xs : Nat → Int32} {A : Nat → Prop} {Q : State → Prop} (hC : mw_C p s m #[Value.ref b] c code 4 RL x (mvD V) vwCl (mvY V) ssL (mvK V) (mvW V) A) (hX : va_X b L xs s s.heap) (hbl : b < s.heap.size) (hbA : ¬ A b) (hcs : cells ≤ room_1.cells ∧ slots ≤ room_1.slots) {kf : mM → mM → Int32 → Option Int32} (hk : ∀ (M T : mM) (x3 : Int32) (H : Heap) (locs : List Loc) (ls : Array Slot), kf M T x3 = some 1 → L2 V a' M T A s H locs → lv_has ls 4 [(0, .ref b), (1, .ref (mvA V 0)), (2, .ref (a' 0)), (3, .int x3)] → W p l e room_1 s m #[Value.ref b] below meth c H locs cells slots Q (F0 m 18 ls [])) (M T : mM) (x3 : Int32) (H : Heap) (locs : List Loc) (ls : Array Slot) (hf : fL_31 kf L xs M T x3 = some 1) (hM : L2 V a' M T A s H locs) (hl : lv_has ls 4 [(0, .ref b), (1, .ref (mvA V 0)), (2, .ref (a' 0)), (3, .int x3)]) : W p l e room_1 s m #[Value.ref b] below meth c H locs cells slots Q (F0 m 1073 ls []) := by
  unfold fL_31 at hf
  refine lv_aload_n hC.1 hC.2.1 dL_law_1073 rfl (lv_at hl 1 rfl) ?_
  obtain ⟨r1, M3, hq2, hf⟩ := o_b2 hf
  refine l2_c1 (As := []) (rest := []) hC hM (mcX11_lot V l M r1 M3 hq2) (mw_kV hC q_919 q_920 q_921 q_107 q_922 ⟨rfl, rfl⟩ kV_X11_lot ⟨Nat.le_of_ble_eq_true rfl, Nat.le_of_ble_eq_true rfl⟩) rfl rfl (Nat.le_of_ble_eq_true rfl) hl.1 hcs dL_law_1074 (fun H locs hM => ?_)
  refine lv_aload_n hC.1 hC.2.1 dL_law_1077 rfl (lv_at hl 2 rfl) ?_
  obtain ⟨r4, M6, hq5, hf⟩ := o_b2 hf
  refine l2_c2 (As := []) (rest := [.int r1]) hC hM (mcX12_lot (V2 V a') l T r4 M6 hq5) (mw_kV hC q_1616 q_1617 q_1618 q_120 q_1619 ⟨rfl, rfl⟩ kV_X12_lot ⟨Nat.le_of_ble_eq_true rfl, Nat.le_of_ble_eq_true rfl⟩) rfl rfl (Nat.le_of_ble_eq_true rfl) hl.1 hcs dL_law_1078 (fun H locs hM => ?_)
  refine lv_icmp_eq (tgt := 1647) hC.1 hC.2.1 dL_law_1081 (by decide) (fun hc7 => ?_) (fun hc7 => ?_)
  · have hf := o_t hc7 hf
    refine lv_iinc (k := 3) (lv' := [(3, .int (x3 + 5)), (0, .ref b), (1, .ref (mvA V 0)), (2, .ref (a' 0))]) hC.1 hC.2.1 dL_law_1647 hl rfl (inc_5 _) (Nat.le_of_ble_eq_true rfl) rfl (fun ls hl => ?_)
    refine lv_goto (tgt := 18) hC.1 hC.2.1 dL_law_1650 (by decide) ?_
    exact hk _ _ _ _ _ _ hf hM (lv_sub hl [1, 2, 3, 0] rfl)
  · have hf := o_f hc7 hf
    exact absurd (Option.some.inj hf) (by decide)
set_option maxHeartbeats 4000000 in
set_option maxRecDepth 100000 in
theorem lc_32 {p : Program} {e : Env} {s : State} {m : MethodId} {below : List Frame} {meth : Method} {c : Code} {l : Launch} {x : Cond} {V : mV} {a' : Nat → Nat} {b L cells slots : Nat} {xs : Nat → Int32} {A : Nat → Prop} {Q : State → Prop} (hC : mw_C p s m #[Value.ref b] c code 4 RL x (mvD V) vwCl (mvY V) ssL (mvK V) (mvW V) A) (hX : va_X b L xs s s.heap) (hbl : b < s.heap.size) (hbA : ¬ A b) (hcs : cells ≤ room_1.cells ∧ slots ≤ room_1.slots) {kf : mM → mM → Int32 → Option Int32} (hk : ∀ (M T : mM) (x3 : Int32) (H : Heap) (locs : List Loc) (ls : Array Slot), kf M T x3 = some 1 → L2 V a' M T A s H locs → lv_has ls 4 [(0, .ref b), (1, .ref (mvA V 0)), (2, .ref (a' 0)), (3, .int x3)] → W p l e room_1 s m #[Value.ref b] below meth c H locs cells slots Q (F0 m 18 ls [])) (M T : mM) (x3 : Int32) (H : Heap) (locs : List Loc) (ls : Array Slot) (hf : fL_32 kf L xs M T x3 = some 1) (hM : L2 V a' M T A s H locs) (hl : lv_has ls 4 [(0, .ref b), (1, .ref (mvA V 0)), (2, .ref (a' 0)), (3, .int x3)]) : W p l e room_1 s m #[Value.ref b] below meth c H locs cells slots Q (F0 m 1086 ls []) := by
  unfold fL_32 at hf
  refine lv_aload_n hC.1 hC.2.1 dL_law_1086 rfl (lv_at hl 1 rfl) ?_
  refine lv_aload_n hC.1 hC.2.1 dL_law_1087 rfl (lv_at hl 0 rfl) ?_
  refine lv_iload_n hC.1 hC.2.1 dL_law_1088 rfl (lv_at hl 3 rfl) ?_
  refine lv_iconst hC.1 hC.2.1 dL_law_1089 ci_1 ?_
  refine lv_iadd hC.1 hC.2.1 dL_law_1090 ?_
  obtain ⟨hg1, hf⟩ := o_g hf
  refine va_sld hC.1 hC.2.1 hX hbl hbA hM.1.2.2 (ix_in hg1) dL_law_1091 ?_
  refine lv_aload_n hC.1 hC.2.1 dL_law_1092 rfl (lv_at hl 0 rfl) ?_
  refine lv_iload_n hC.1 hC.2.1 dL_law_1093 rfl (lv_at hl 3 rfl) ?_
  refine lv_iconst hC.1 hC.2.1 dL_law_1094 ci_2 ?_
  refine lv_iadd hC.1 hC.2.1 dL_law_1095 ?_
  obtain ⟨hg2, hf⟩ := o_g hf
  refine va_sld hC.1 hC.2.1 hX hbl hbA hM.1.2.2 (ix_in hg2) dL_law_1096 ?_
  obtain ⟨r3, M5, hq4, hf⟩ := o_b2 hf
  refine l2_c1 (As := [.int (xs (Int32.toNatClampNeg (x3 + 1))), .int (xs (Int32.toNatClampNeg (x3 + 2)))]) (rest := []) hC hM (mcX11_often V l M (xs (Int32.toNatClampNeg (x3 + 1))) (xs (Int32.toNatClampNeg (x3 + 2))) r3 M5 hq4) (mw_kV hC q_932 q_933 q_934 q_107 q_935 ⟨rfl, rfl⟩ kV_X11_often ⟨Nat.le_of_ble_eq_true rfl, Nat.le_of_ble_eq_true rfl⟩) rfl rfl (Nat.le_of_ble_eq_true rfl) hl.1 hcs dL_law_1097 (fun H locs hM => ?_)
  refine lv_aload_n hC.1 hC.2.1 dL_law_1100 rfl (lv_at hl 2 rfl) ?_
  refine lv_aload_n hC.1 hC.2.1 dL_law_1101 rfl (lv_at hl 0 rfl) ?_
  refine lv_iload_n hC.1 hC.2.1 dL_law_1102 rfl (lv_at hl 3 rfl) ?_
  refine lv_iconst hC.1 hC.2.1 dL_law_1103 ci_1 ?_
  refine lv_iadd hC.1 hC.2.1 dL_law_1104 ?_
  obtain ⟨hg6, hf⟩ := o_g hf
  refine va_sld hC.1 hC.2.1 hX hbl hbA hM.1.2.2 (ix_in hg6) dL_law_1105 ?_
  refine lv_aload_n hC.1 hC.2.1 dL_law_1106 rfl (lv_at hl 0 rfl) ?_
  refine lv_iload_n hC.1 hC.2.1 dL_law_1107 rfl (lv_at hl 3 rfl) ?_
  refine lv_iconst hC.1 hC.2.1 dL_law_1108 ci_2 ?_
  refine lv_iadd hC.1 hC.2.1 dL_law_1109 ?_
  obtain ⟨hg7, hf⟩ := o_g hf
  refine va_sld hC.1 hC.2.1 hX hbl hbA hM.1.2.2 (ix_in hg7) dL_law_1110 ?_
  obtain ⟨r8, M10, hq9, hf⟩ := o_b2 hf
  refine l2_c2 (As := [.int (xs (Int32.toNatClampNeg (x3 + 1))), .int (xs (Int32.toNatClampNeg (x3 + 2)))]) (rest := [.int r3]) hC hM (mcX12_often (V2 V a') l T (xs (Int32.toNatClampNeg (x3 + 1))) (xs (Int32.toNatClampNeg (x3 + 2))) r8 M10 hq9) (mw_kV hC q_1629 q_1630 q_1631 q_120 q_1632 ⟨rfl, rfl⟩ kV_X12_often ⟨Nat.le_of_ble_eq_true rfl, Nat.le_of_ble_eq_true rfl⟩) rfl rfl (Nat.le_of_ble_eq_true rfl) hl.1 hcs dL_law_1111 (fun H locs hM => ?_)
  refine lv_icmp_eq (tgt := 1647) hC.1 hC.2.1 dL_law_1114 (by decide) (fun hc11 => ?_) (fun hc11 => ?_)
  · have hf := o_t hc11 hf
    refine lv_iinc (k := 3) (lv' := [(3, .int (x3 + 5)), (0, .ref b), (1, .ref (mvA V 0)), (2, .ref (a' 0))]) hC.1 hC.2.1 dL_law_1647 hl rfl (inc_5 _) (Nat.le_of_ble_eq_true rfl) rfl (fun ls hl => ?_)
    refine lv_goto (tgt := 18) hC.1 hC.2.1 dL_law_1650 (by decide) ?_
    exact hk _ _ _ _ _ _ hf hM (lv_sub hl [1, 2, 3, 0] rfl)
  · have hf := o_f hc11 hf
    exact absurd (Option.some.inj hf) (by decide)
set_option maxHeartbeats 4000000 in
set_option maxRecDepth 100000 in
theorem lc_33 {p : Program} {e : Env} {s : State} {m : MethodId} {below : List Frame} {meth : Method} {c : Code} {l : Launch} {x : Cond} {V : mV} {a' : Nat → Nat} {b L cells slots : Nat} {xs : Nat → Int32} {A : Nat → Prop} {Q : State → Prop} (hC : mw_C p s m #[Value.ref b] c code 4 RL x (mvD V) vwCl (mvY V) ssL (mvK V) (mvW V) A) (hX : va_X b L xs s s.heap) (hbl : b < s.heap.size) (hbA : ¬ A b) (hcs : cells ≤ room_1.cells ∧ slots ≤ room_1.slots) {kf : mM → mM → Int32 → Option Int32} (hk : ∀ (M T : mM) (x3 : Int32) (H : Heap) (locs : List Loc) (ls : Array Slot), kf M T x3 = some 1 → L2 V a' M T A s H locs → lv_has ls 4 [(0, .ref b), (1, .ref (mvA V 0)), (2, .ref (a' 0)), (3, .int x3)] → W p l e room_1 s m #[Value.ref b] below meth c H locs cells slots Q (F0 m 18 ls [])) (M T : mM) (x3 : Int32) (H : Heap) (locs : List Loc) (ls : Array Slot) (hf : fL_33 kf L xs M T x3 = some 1) (hM : L2 V a' M T A s H locs) (hl : lv_has ls 4 [(0, .ref b), (1, .ref (mvA V 0)), (2, .ref (a' 0)), (3, .int x3)]) : W p l e room_1 s m #[Value.ref b] below meth c H locs cells slots Q (F0 m 1119 ls []) := by
  unfold fL_33 at hf
  refine lv_aload_n hC.1 hC.2.1 dL_law_1119 rfl (lv_at hl 1 rfl) ?_
  refine lv_aload_n hC.1 hC.2.1 dL_law_1120 rfl (lv_at hl 0 rfl) ?_
  refine lv_iload_n hC.1 hC.2.1 dL_law_1121 rfl (lv_at hl 3 rfl) ?_
  refine lv_iconst hC.1 hC.2.1 dL_law_1122 ci_1 ?_
  refine lv_iadd hC.1 hC.2.1 dL_law_1123 ?_
  obtain ⟨hg1, hf⟩ := o_g hf
  refine va_sld hC.1 hC.2.1 hX hbl hbA hM.1.2.2 (ix_in hg1) dL_law_1124 ?_
  obtain ⟨r2, M4, hq3, hf⟩ := o_b2 hf
  refine l2_c1 (As := [.int (xs (Int32.toNatClampNeg (x3 + 1)))]) (rest := []) hC hM (mcX11_prove V l M (xs (Int32.toNatClampNeg (x3 + 1))) r2 M4 hq3) (mw_kV hC q_936 q_937 q_938 q_107 q_939 ⟨rfl, rfl⟩ kV_X11_prove ⟨Nat.le_of_ble_eq_true rfl, Nat.le_of_ble_eq_true rfl⟩) rfl rfl (Nat.le_of_ble_eq_true rfl) hl.1 hcs dL_law_1125 (fun H locs hM => ?_)
  refine lv_aload_n hC.1 hC.2.1 dL_law_1128 rfl (lv_at hl 2 rfl) ?_
  refine lv_aload_n hC.1 hC.2.1 dL_law_1129 rfl (lv_at hl 0 rfl) ?_
  refine lv_iload_n hC.1 hC.2.1 dL_law_1130 rfl (lv_at hl 3 rfl) ?_
  refine lv_iconst hC.1 hC.2.1 dL_law_1131 ci_1 ?_
  refine lv_iadd hC.1 hC.2.1 dL_law_1132 ?_
  obtain ⟨hg5, hf⟩ := o_g hf
  refine va_sld hC.1 hC.2.1 hX hbl hbA hM.1.2.2 (ix_in hg5) dL_law_1133 ?_
  obtain ⟨r6, M8, hq7, hf⟩ := o_b2 hf
  refine l2_c2 (As := [.int (xs (Int32.toNatClampNeg (x3 + 1)))]) (rest := [.int r2]) hC hM (mcX12_prove (V2 V a') l T (xs (Int32.toNatClampNeg (x3 + 1))) r6 M8 hq7) (mw_kV hC q_1633 q_1634 q_1635 q_120 q_1636 ⟨rfl, rfl⟩ kV_X12_prove ⟨Nat.le_of_ble_eq_true rfl, Nat.le_of_ble_eq_true rfl⟩) rfl rfl (Nat.le_of_ble_eq_true rfl) hl.1 hcs dL_law_1134 (fun H locs hM => ?_)
  refine lv_icmp_eq (tgt := 1647) hC.1 hC.2.1 dL_law_1137 (by decide) (fun hc9 => ?_) (fun hc9 => ?_)
  · have hf := o_t hc9 hf
    refine lv_iinc (k := 3) (lv' := [(3, .int (x3 + 5)), (0, .ref b), (1, .ref (mvA V 0)), (2, .ref (a' 0))]) hC.1 hC.2.1 dL_law_1647 hl rfl (inc_5 _) (Nat.le_of_ble_eq_true rfl) rfl (fun ls hl => ?_)
    refine lv_goto (tgt := 18) hC.1 hC.2.1 dL_law_1650 (by decide) ?_
    exact hk _ _ _ _ _ _ hf hM (lv_sub hl [1, 2, 3, 0] rfl)
  · have hf := o_f hc9 hf
    exact absurd (Option.some.inj hf) (by decide)
set_option maxHeartbeats 4000000 in
set_option maxRecDepth 100000 in
theorem lc_34 {p : Program} {e : Env} {s : State} {m : MethodId} {below : List Frame} {meth : Method} {c : Code} {l : Launch} {x : Cond} {V : mV} {a' : Nat → Nat} {b L cells slots : Nat} {xs : Nat → Int32} {A : Nat → Prop} {Q : State → Prop} (hC : mw_C p s m #[Value.ref b] c code 4 RL x (mvD V) vwCl (mvY V) ssL (mvK V) (mvW V) A) (hX : va_X b L xs s s.heap) (hbl : b < s.heap.size) (hbA : ¬ A b) (hcs : cells ≤ room_1.cells ∧ slots ≤ room_1.slots) {kf : mM → mM → Int32 → Option Int32} (hk : ∀ (M T : mM) (x3 : Int32) (H : Heap) (locs : List Loc) (ls : Array Slot), kf M T x3 = some 1 → L2 V a' M T A s H locs → lv_has ls 4 [(0, .ref b), (1, .ref (mvA V 0)), (2, .ref (a' 0)), (3, .int x3)] → W p l e room_1 s m #[Value.ref b] below meth c H locs cells slots Q (F0 m 18 ls [])) (M T : mM) (x3 : Int32) (H : Heap) (locs : List Loc) (ls : Array Slot) (hf : fL_34 kf L xs M T x3 = some 1) (hM : L2 V a' M T A s H locs) (hl : lv_has ls 4 [(0, .ref b), (1, .ref (mvA V 0)), (2, .ref (a' 0)), (3, .int x3)]) : W p l e room_1 s m #[Value.ref b] below meth c H locs cells slots Q (F0 m 1142 ls []) := by
  unfold fL_34 at hf
  refine lv_aload_n hC.1 hC.2.1 dL_law_1142 rfl (lv_at hl 1 rfl) ?_
  refine lv_aload_n hC.1 hC.2.1 dL_law_1143 rfl (lv_at hl 0 rfl) ?_
  refine lv_iload_n hC.1 hC.2.1 dL_law_1144 rfl (lv_at hl 3 rfl) ?_
  refine lv_iconst hC.1 hC.2.1 dL_law_1145 ci_1 ?_
  refine lv_iadd hC.1 hC.2.1 dL_law_1146 ?_
  obtain ⟨hg1, hf⟩ := o_g hf
  refine va_sld hC.1 hC.2.1 hX hbl hbA hM.1.2.2 (ix_in hg1) dL_law_1147 ?_
  refine lv_aload_n hC.1 hC.2.1 dL_law_1148 rfl (lv_at hl 0 rfl) ?_
  refine lv_iload_n hC.1 hC.2.1 dL_law_1149 rfl (lv_at hl 3 rfl) ?_
  refine lv_iconst hC.1 hC.2.1 dL_law_1150 ci_2 ?_
  refine lv_iadd hC.1 hC.2.1 dL_law_1151 ?_
  obtain ⟨hg2, hf⟩ := o_g hf
  refine va_sld hC.1 hC.2.1 hX hbl hbA hM.1.2.2 (ix_in hg2) dL_law_1152 ?_
  obtain ⟨r3, hq4, hf⟩ := o_b hf
  refine l2_c1 (As := [.int (xs (Int32.toNatClampNeg (x3 + 1))), .int (xs (Int32.toNatClampNeg (x3 + 2)))]) (rest := []) hC hM (mcX11_row V l M (xs (Int32.toNatClampNeg (x3 + 1))) (xs (Int32.toNatClampNeg (x3 + 2))) r3 hq4) (mw_kV hC q_940 q_941 q_942 q_107 q_943 ⟨rfl, rfl⟩ kV_X11_row ⟨Nat.le_of_ble_eq_true rfl, Nat.le_of_ble_eq_true rfl⟩) rfl rfl (Nat.le_of_ble_eq_true rfl) hl.1 hcs dL_law_1153 (fun H locs hM => ?_)
  refine lv_aload_n hC.1 hC.2.1 dL_law_1156 rfl (lv_at hl 2 rfl) ?_
  refine lv_aload_n hC.1 hC.2.1 dL_law_1157 rfl (lv_at hl 0 rfl) ?_
  refine lv_iload_n hC.1 hC.2.1 dL_law_1158 rfl (lv_at hl 3 rfl) ?_
  refine lv_iconst hC.1 hC.2.1 dL_law_1159 ci_1 ?_
  refine lv_iadd hC.1 hC.2.1 dL_law_1160 ?_
  obtain ⟨hg5, hf⟩ := o_g hf
  refine va_sld hC.1 hC.2.1 hX hbl hbA hM.1.2.2 (ix_in hg5) dL_law_1161 ?_
  refine lv_aload_n hC.1 hC.2.1 dL_law_1162 rfl (lv_at hl 0 rfl) ?_
  refine lv_iload_n hC.1 hC.2.1 dL_law_1163 rfl (lv_at hl 3 rfl) ?_
  refine lv_iconst hC.1 hC.2.1 dL_law_1164 ci_2 ?_
  refine lv_iadd hC.1 hC.2.1 dL_law_1165 ?_
  obtain ⟨hg6, hf⟩ := o_g hf
  refine va_sld hC.1 hC.2.1 hX hbl hbA hM.1.2.2 (ix_in hg6) dL_law_1166 ?_
  obtain ⟨r7, hq8, hf⟩ := o_b hf
  refine l2_c2 (As := [.int (xs (Int32.toNatClampNeg (x3 + 1))), .int (xs (Int32.toNatClampNeg (x3 + 2)))]) (rest := [.int r3]) hC hM (mcX12_row (V2 V a') l T (xs (Int32.toNatClampNeg (x3 + 1))) (xs (Int32.toNatClampNeg (x3 + 2))) r7 hq8) (mw_kV hC q_1645 q_1646 q_1647 q_120 q_1648 ⟨rfl, rfl⟩ kV_X12_row ⟨Nat.le_of_ble_eq_true rfl, Nat.le_of_ble_eq_true rfl⟩) rfl rfl (Nat.le_of_ble_eq_true rfl) hl.1 hcs dL_law_1167 (fun H locs hM => ?_)
  refine lv_icmp_eq (tgt := 1647) hC.1 hC.2.1 dL_law_1170 (by decide) (fun hc9 => ?_) (fun hc9 => ?_)
  · have hf := o_t hc9 hf
    refine lv_iinc (k := 3) (lv' := [(3, .int (x3 + 5)), (0, .ref b), (1, .ref (mvA V 0)), (2, .ref (a' 0))]) hC.1 hC.2.1 dL_law_1647 hl rfl (inc_5 _) (Nat.le_of_ble_eq_true rfl) rfl (fun ls hl => ?_)
    refine lv_goto (tgt := 18) hC.1 hC.2.1 dL_law_1650 (by decide) ?_
    exact hk _ _ _ _ _ _ hf hM (lv_sub hl [1, 2, 3, 0] rfl)
  · have hf := o_f hc9 hf
    exact absurd (Option.some.inj hf) (by decide)
set_option maxHeartbeats 4000000 in
set_option maxRecDepth 100000 in
theorem lc_35 {p : Program} {e : Env} {s : State} {m : MethodId} {below : List Frame} {meth : Method} {c : Code} {l : Launch} {x : Cond} {V : mV} {a' : Nat → Nat} {b L cells slots : Nat} {xs : Nat → Int32} {A : Nat → Prop} {Q : State → Prop} (hC : mw_C p s m #[Value.ref b] c code 4 RL x (mvD V) vwCl (mvY V) ssL (mvK V) (mvW V) A) (hX : va_X b L xs s s.heap) (hbl : b < s.heap.size) (hbA : ¬ A b) (hcs : cells ≤ room_1.cells ∧ slots ≤ room_1.slots) {kf : mM → mM → Int32 → Option Int32} (hk : ∀ (M T : mM) (x3 : Int32) (H : Heap) (locs : List Loc) (ls : Array Slot), kf M T x3 = some 1 → L2 V a' M T A s H locs → lv_has ls 4 [(0, .ref b), (1, .ref (mvA V 0)), (2, .ref (a' 0)), (3, .int x3)] → W p l e room_1 s m #[Value.ref b] below meth c H locs cells slots Q (F0 m 18 ls [])) (M T : mM) (x3 : Int32) (H : Heap) (locs : List Loc) (ls : Array Slot) (hf : fL_35 kf L xs M T x3 = some 1) (hM : L2 V a' M T A s H locs) (hl : lv_has ls 4 [(0, .ref b), (1, .ref (mvA V 0)), (2, .ref (a' 0)), (3, .int x3)]) : W p l e room_1 s m #[Value.ref b] below meth c H locs cells slots Q (F0 m 1175 ls []) := by
  unfold fL_35 at hf
  refine lv_aload_n hC.1 hC.2.1 dL_law_1175 rfl (lv_at hl 1 rfl) ?_
  refine lv_aload_n hC.1 hC.2.1 dL_law_1176 rfl (lv_at hl 0 rfl) ?_
  refine lv_iload_n hC.1 hC.2.1 dL_law_1177 rfl (lv_at hl 3 rfl) ?_
  refine lv_iconst hC.1 hC.2.1 dL_law_1178 ci_1 ?_
  refine lv_iadd hC.1 hC.2.1 dL_law_1179 ?_
  obtain ⟨hg1, hf⟩ := o_g hf
  refine va_sld hC.1 hC.2.1 hX hbl hbA hM.1.2.2 (ix_in hg1) dL_law_1180 ?_
  refine lv_aload_n hC.1 hC.2.1 dL_law_1181 rfl (lv_at hl 0 rfl) ?_
  refine lv_iload_n hC.1 hC.2.1 dL_law_1182 rfl (lv_at hl 3 rfl) ?_
  refine lv_iconst hC.1 hC.2.1 dL_law_1183 ci_2 ?_
  refine lv_iadd hC.1 hC.2.1 dL_law_1184 ?_
  obtain ⟨hg2, hf⟩ := o_g hf
  refine va_sld hC.1 hC.2.1 hX hbl hbA hM.1.2.2 (ix_in hg2) dL_law_1185 ?_
  refine lv_aload_n hC.1 hC.2.1 dL_law_1186 rfl (lv_at hl 0 rfl) ?_
  refine lv_iload_n hC.1 hC.2.1 dL_law_1187 rfl (lv_at hl 3 rfl) ?_
  refine lv_iconst hC.1 hC.2.1 dL_law_1188 ci_3 ?_
  refine lv_iadd hC.1 hC.2.1 dL_law_1189 ?_
  obtain ⟨hg3, hf⟩ := o_g hf
  refine va_sld hC.1 hC.2.1 hX hbl hbA hM.1.2.2 (ix_in hg3) dL_law_1190 ?_
  obtain ⟨r4, M6, hq5, hf⟩ := o_b2 hf
  refine l2_c1 (As := [.int (xs (Int32.toNatClampNeg (x3 + 1))), .int (xs (Int32.toNatClampNeg (x3 + 2))), .int (xs (Int32.toNatClampNeg (x3 + 3)))]) (rest := []) hC hM (mcX11_alterRow V l M (xs (Int32.toNatClampNeg (x3 + 1))) (xs (Int32.toNatClampNeg (x3 + 2))) (xs (Int32.toNatClampNeg (x3 + 3))) r4 M6 hq5) (mw_kV hC q_948 q_949 q_950 q_107 q_951 ⟨rfl, rfl⟩ kV_X11_alterRow ⟨Nat.le_of_ble_eq_true rfl, Nat.le_of_ble_eq_true rfl⟩) rfl rfl (Nat.le_of_ble_eq_true rfl) hl.1 hcs dL_law_1191 (fun H locs hM => ?_)
  refine lv_aload_n hC.1 hC.2.1 dL_law_1194 rfl (lv_at hl 2 rfl) ?_
  refine lv_aload_n hC.1 hC.2.1 dL_law_1195 rfl (lv_at hl 0 rfl) ?_
  refine lv_iload_n hC.1 hC.2.1 dL_law_1196 rfl (lv_at hl 3 rfl) ?_
  refine lv_iconst hC.1 hC.2.1 dL_law_1197 ci_1 ?_
  refine lv_iadd hC.1 hC.2.1 dL_law_1198 ?_
  obtain ⟨hg7, hf⟩ := o_g hf
  refine va_sld hC.1 hC.2.1 hX hbl hbA hM.1.2.2 (ix_in hg7) dL_law_1199 ?_
  refine lv_aload_n hC.1 hC.2.1 dL_law_1200 rfl (lv_at hl 0 rfl) ?_
  refine lv_iload_n hC.1 hC.2.1 dL_law_1201 rfl (lv_at hl 3 rfl) ?_
  refine lv_iconst hC.1 hC.2.1 dL_law_1202 ci_2 ?_
  refine lv_iadd hC.1 hC.2.1 dL_law_1203 ?_
  obtain ⟨hg8, hf⟩ := o_g hf
  refine va_sld hC.1 hC.2.1 hX hbl hbA hM.1.2.2 (ix_in hg8) dL_law_1204 ?_
  refine lv_aload_n hC.1 hC.2.1 dL_law_1205 rfl (lv_at hl 0 rfl) ?_
  refine lv_iload_n hC.1 hC.2.1 dL_law_1206 rfl (lv_at hl 3 rfl) ?_
  refine lv_iconst hC.1 hC.2.1 dL_law_1207 ci_3 ?_
  refine lv_iadd hC.1 hC.2.1 dL_law_1208 ?_
  obtain ⟨hg9, hf⟩ := o_g hf
  refine va_sld hC.1 hC.2.1 hX hbl hbA hM.1.2.2 (ix_in hg9) dL_law_1209 ?_
  obtain ⟨r10, M12, hq11, hf⟩ := o_b2 hf
  refine l2_c2 (As := [.int (xs (Int32.toNatClampNeg (x3 + 1))), .int (xs (Int32.toNatClampNeg (x3 + 2))), .int (xs (Int32.toNatClampNeg (x3 + 3)))]) (rest := [.int r4]) hC hM (mcX12_alterRow (V2 V a') l T (xs (Int32.toNatClampNeg (x3 + 1))) (xs (Int32.toNatClampNeg (x3 + 2))) (xs (Int32.toNatClampNeg (x3 + 3))) r10 M12 hq11) (mw_kV hC q_1653 q_1654 q_1655 q_120 q_1656 ⟨rfl, rfl⟩ kV_X12_alterRow ⟨Nat.le_of_ble_eq_true rfl, Nat.le_of_ble_eq_true rfl⟩) rfl rfl (Nat.le_of_ble_eq_true rfl) hl.1 hcs dL_law_1210 (fun H locs hM => ?_)
  refine lv_icmp_eq (tgt := 1647) hC.1 hC.2.1 dL_law_1213 (by decide) (fun hc13 => ?_) (fun hc13 => ?_)
  · have hf := o_t hc13 hf
    refine lv_iinc (k := 3) (lv' := [(3, .int (x3 + 5)), (0, .ref b), (1, .ref (mvA V 0)), (2, .ref (a' 0))]) hC.1 hC.2.1 dL_law_1647 hl rfl (inc_5 _) (Nat.le_of_ble_eq_true rfl) rfl (fun ls hl => ?_)
    refine lv_goto (tgt := 18) hC.1 hC.2.1 dL_law_1650 (by decide) ?_
    exact hk _ _ _ _ _ _ hf hM (lv_sub hl [1, 2, 3, 0] rfl)
  · have hf := o_f hc13 hf
    exact absurd (Option.some.inj hf) (by decide)
set_option maxHeartbeats 4000000 in
set_option maxRecDepth 100000 in
theorem lc_36 {p : Program} {e : Env} {s : State} {m : MethodId} {below : List Frame} {meth : Method} {c : Code} {l : Launch} {x : Cond} {V : mV} {a' : Nat → Nat} {b L cells slots : Nat} {xs : Nat → Int32} {A : Nat → Prop} {Q : State → Prop} (hC : mw_C p s m #[Value.ref b] c code 4 RL x (mvD V) vwCl (mvY V) ssL (mvK V) (mvW V) A) (hX : va_X b L xs s s.heap) (hbl : b < s.heap.size) (hbA : ¬ A b) (hcs : cells ≤ room_1.cells ∧ slots ≤ room_1.slots) {kf : mM → mM → Int32 → Option Int32} (hk : ∀ (M T : mM) (x3 : Int32) (H : Heap) (locs : List Loc) (ls : Array Slot), kf M T x3 = some 1 → L2 V a' M T A s H locs → lv_has ls 4 [(0, .ref b), (1, .ref (mvA V 0)), (2, .ref (a' 0)), (3, .int x3)] → W p l e room_1 s m #[Value.ref b] below meth c H locs cells slots Q (F0 m 18 ls [])) (M T : mM) (x3 : Int32) (H : Heap) (locs : List Loc) (ls : Array Slot) (hf : fL_36 kf L xs M T x3 = some 1) (hM : L2 V a' M T A s H locs) (hl : lv_has ls 4 [(0, .ref b), (1, .ref (mvA V 0)), (2, .ref (a' 0)), (3, .int x3)]) : W p l e room_1 s m #[Value.ref b] below meth c H locs cells slots Q (F0 m 1218 ls []) := by
  unfold fL_36 at hf
  refine lv_aload_n hC.1 hC.2.1 dL_law_1218 rfl (lv_at hl 1 rfl) ?_
  refine lv_aload_n hC.1 hC.2.1 dL_law_1219 rfl (lv_at hl 0 rfl) ?_
  refine lv_iload_n hC.1 hC.2.1 dL_law_1220 rfl (lv_at hl 3 rfl) ?_
  refine lv_iconst hC.1 hC.2.1 dL_law_1221 ci_1 ?_
  refine lv_iadd hC.1 hC.2.1 dL_law_1222 ?_
  obtain ⟨hg1, hf⟩ := o_g hf
  refine va_sld hC.1 hC.2.1 hX hbl hbA hM.1.2.2 (ix_in hg1) dL_law_1223 ?_
  obtain ⟨r2, M4, hq3, hf⟩ := o_b2 hf
  refine l2_c1 (As := [.int (xs (Int32.toNatClampNeg (x3 + 1)))]) (rest := []) hC hM (mcX11_judge V l M (xs (Int32.toNatClampNeg (x3 + 1))) r2 M4 hq3) (mw_kV hC q_952 q_953 q_954 q_107 q_955 ⟨rfl, rfl⟩ kV_X11_judge ⟨Nat.le_of_ble_eq_true rfl, Nat.le_of_ble_eq_true rfl⟩) rfl rfl (Nat.le_of_ble_eq_true rfl) hl.1 hcs dL_law_1224 (fun H locs hM => ?_)
  refine lv_aload_n hC.1 hC.2.1 dL_law_1227 rfl (lv_at hl 2 rfl) ?_
  refine lv_aload_n hC.1 hC.2.1 dL_law_1228 rfl (lv_at hl 0 rfl) ?_
  refine lv_iload_n hC.1 hC.2.1 dL_law_1229 rfl (lv_at hl 3 rfl) ?_
  refine lv_iconst hC.1 hC.2.1 dL_law_1230 ci_1 ?_
  refine lv_iadd hC.1 hC.2.1 dL_law_1231 ?_
  obtain ⟨hg5, hf⟩ := o_g hf
  refine va_sld hC.1 hC.2.1 hX hbl hbA hM.1.2.2 (ix_in hg5) dL_law_1232 ?_
  obtain ⟨r6, M8, hq7, hf⟩ := o_b2 hf
  refine l2_c2 (As := [.int (xs (Int32.toNatClampNeg (x3 + 1)))]) (rest := [.int r2]) hC hM (mcX12_judge (V2 V a') l T (xs (Int32.toNatClampNeg (x3 + 1))) r6 M8 hq7) (mw_kV hC q_1657 q_1658 q_1659 q_120 q_1660 ⟨rfl, rfl⟩ kV_X12_judge ⟨Nat.le_of_ble_eq_true rfl, Nat.le_of_ble_eq_true rfl⟩) rfl rfl (Nat.le_of_ble_eq_true rfl) hl.1 hcs dL_law_1233 (fun H locs hM => ?_)
  refine lv_icmp_eq (tgt := 1647) hC.1 hC.2.1 dL_law_1236 (by decide) (fun hc9 => ?_) (fun hc9 => ?_)
  · have hf := o_t hc9 hf
    refine lv_iinc (k := 3) (lv' := [(3, .int (x3 + 5)), (0, .ref b), (1, .ref (mvA V 0)), (2, .ref (a' 0))]) hC.1 hC.2.1 dL_law_1647 hl rfl (inc_5 _) (Nat.le_of_ble_eq_true rfl) rfl (fun ls hl => ?_)
    refine lv_goto (tgt := 18) hC.1 hC.2.1 dL_law_1650 (by decide) ?_
    exact hk _ _ _ _ _ _ hf hM (lv_sub hl [1, 2, 3, 0] rfl)
  · have hf := o_f hc9 hf
    exact absurd (Option.some.inj hf) (by decide)
set_option maxHeartbeats 4000000 in
set_option maxRecDepth 100000 in
theorem lc_37 {p : Program} {e : Env} {s : State} {m : MethodId} {below : List Frame} {meth : Method} {c : Code} {l : Launch} {x : Cond} {V : mV} {a' : Nat → Nat} {b L cells slots : Nat} {xs : Nat → Int32} {A : Nat → Prop} {Q : State → Prop} (hC : mw_C p s m #[Value.ref b] c code 4 RL x (mvD V) vwCl (mvY V) ssL (mvK V) (mvW V) A) (hX : va_X b L xs s s.heap) (hbl : b < s.heap.size) (hbA : ¬ A b) (hcs : cells ≤ room_1.cells ∧ slots ≤ room_1.slots) {kf : mM → mM → Int32 → Option Int32} (hk : ∀ (M T : mM) (x3 : Int32) (H : Heap) (locs : List Loc) (ls : Array Slot), kf M T x3 = some 1 → L2 V a' M T A s H locs → lv_has ls 4 [(0, .ref b), (1, .ref (mvA V 0)), (2, .ref (a' 0)), (3, .int x3)] → W p l e room_1 s m #[Value.ref b] below meth c H locs cells slots Q (F0 m 18 ls [])) (M T : mM) (x3 : Int32) (H : Heap) (locs : List Loc) (ls : Array Slot) (hf : fL_37 kf L xs M T x3 = some 1) (hM : L2 V a' M T A s H locs) (hl : lv_has ls 4 [(0, .ref b), (1, .ref (mvA V 0)), (2, .ref (a' 0)), (3, .int x3)]) : W p l e room_1 s m #[Value.ref b] below meth c H locs cells slots Q (F0 m 1241 ls []) := by
  unfold fL_37 at hf
  refine lv_aload_n hC.1 hC.2.1 dL_law_1241 rfl (lv_at hl 1 rfl) ?_
  refine lv_aload_n hC.1 hC.2.1 dL_law_1242 rfl (lv_at hl 0 rfl) ?_
  refine lv_iload_n hC.1 hC.2.1 dL_law_1243 rfl (lv_at hl 3 rfl) ?_
  refine lv_iconst hC.1 hC.2.1 dL_law_1244 ci_1 ?_
  refine lv_iadd hC.1 hC.2.1 dL_law_1245 ?_
  obtain ⟨hg1, hf⟩ := o_g hf
  refine va_sld hC.1 hC.2.1 hX hbl hbA hM.1.2.2 (ix_in hg1) dL_law_1246 ?_
  refine lv_aload_n hC.1 hC.2.1 dL_law_1247 rfl (lv_at hl 0 rfl) ?_
  refine lv_iload_n hC.1 hC.2.1 dL_law_1248 rfl (lv_at hl 3 rfl) ?_
  refine lv_iconst hC.1 hC.2.1 dL_law_1249 ci_2 ?_
  refine lv_iadd hC.1 hC.2.1 dL_law_1250 ?_
  obtain ⟨hg2, hf⟩ := o_g hf
  refine va_sld hC.1 hC.2.1 hX hbl hbA hM.1.2.2 (ix_in hg2) dL_law_1251 ?_
  refine lv_aload_n hC.1 hC.2.1 dL_law_1252 rfl (lv_at hl 0 rfl) ?_
  refine lv_iload_n hC.1 hC.2.1 dL_law_1253 rfl (lv_at hl 3 rfl) ?_
  refine lv_iconst hC.1 hC.2.1 dL_law_1254 ci_3 ?_
  refine lv_iadd hC.1 hC.2.1 dL_law_1255 ?_
  obtain ⟨hg3, hf⟩ := o_g hf
  refine va_sld hC.1 hC.2.1 hX hbl hbA hM.1.2.2 (ix_in hg3) dL_law_1256 ?_
  obtain ⟨r4, M6, hq5, hf⟩ := o_b2 hf
  refine l2_c1 (As := [.int (xs (Int32.toNatClampNeg (x3 + 1))), .int (xs (Int32.toNatClampNeg (x3 + 2))), .int (xs (Int32.toNatClampNeg (x3 + 3)))]) (rest := []) hC hM (mcX11_sheet V l M (xs (Int32.toNatClampNeg (x3 + 1))) (xs (Int32.toNatClampNeg (x3 + 2))) (xs (Int32.toNatClampNeg (x3 + 3))) r4 M6 hq5) (mw_kV hC q_960 q_961 q_962 q_107 q_963 ⟨rfl, rfl⟩ kV_X11_sheet ⟨Nat.le_of_ble_eq_true rfl, Nat.le_of_ble_eq_true rfl⟩) rfl rfl (Nat.le_of_ble_eq_true rfl) hl.1 hcs dL_law_1257 (fun H locs hM => ?_)
  refine lv_aload_n hC.1 hC.2.1 dL_law_1260 rfl (lv_at hl 2 rfl) ?_
  refine lv_aload_n hC.1 hC.2.1 dL_law_1261 rfl (lv_at hl 0 rfl) ?_
  refine lv_iload_n hC.1 hC.2.1 dL_law_1262 rfl (lv_at hl 3 rfl) ?_
  refine lv_iconst hC.1 hC.2.1 dL_law_1263 ci_1 ?_
  refine lv_iadd hC.1 hC.2.1 dL_law_1264 ?_
  obtain ⟨hg7, hf⟩ := o_g hf
  refine va_sld hC.1 hC.2.1 hX hbl hbA hM.1.2.2 (ix_in hg7) dL_law_1265 ?_
  refine lv_aload_n hC.1 hC.2.1 dL_law_1266 rfl (lv_at hl 0 rfl) ?_
  refine lv_iload_n hC.1 hC.2.1 dL_law_1267 rfl (lv_at hl 3 rfl) ?_
  refine lv_iconst hC.1 hC.2.1 dL_law_1268 ci_2 ?_
  refine lv_iadd hC.1 hC.2.1 dL_law_1269 ?_
  obtain ⟨hg8, hf⟩ := o_g hf
  refine va_sld hC.1 hC.2.1 hX hbl hbA hM.1.2.2 (ix_in hg8) dL_law_1270 ?_
  refine lv_aload_n hC.1 hC.2.1 dL_law_1271 rfl (lv_at hl 0 rfl) ?_
  refine lv_iload_n hC.1 hC.2.1 dL_law_1272 rfl (lv_at hl 3 rfl) ?_
  refine lv_iconst hC.1 hC.2.1 dL_law_1273 ci_3 ?_
  refine lv_iadd hC.1 hC.2.1 dL_law_1274 ?_
  obtain ⟨hg9, hf⟩ := o_g hf
  refine va_sld hC.1 hC.2.1 hX hbl hbA hM.1.2.2 (ix_in hg9) dL_law_1275 ?_
  obtain ⟨r10, M12, hq11, hf⟩ := o_b2 hf
  refine l2_c2 (As := [.int (xs (Int32.toNatClampNeg (x3 + 1))), .int (xs (Int32.toNatClampNeg (x3 + 2))), .int (xs (Int32.toNatClampNeg (x3 + 3)))]) (rest := [.int r4]) hC hM (mcX12_sheet (V2 V a') l T (xs (Int32.toNatClampNeg (x3 + 1))) (xs (Int32.toNatClampNeg (x3 + 2))) (xs (Int32.toNatClampNeg (x3 + 3))) r10 M12 hq11) (mw_kV hC q_1665 q_1666 q_1667 q_120 q_1668 ⟨rfl, rfl⟩ kV_X12_sheet ⟨Nat.le_of_ble_eq_true rfl, Nat.le_of_ble_eq_true rfl⟩) rfl rfl (Nat.le_of_ble_eq_true rfl) hl.1 hcs dL_law_1276 (fun H locs hM => ?_)
  refine lv_icmp_eq (tgt := 1647) hC.1 hC.2.1 dL_law_1279 (by decide) (fun hc13 => ?_) (fun hc13 => ?_)
  · have hf := o_t hc13 hf
    refine lv_iinc (k := 3) (lv' := [(3, .int (x3 + 5)), (0, .ref b), (1, .ref (mvA V 0)), (2, .ref (a' 0))]) hC.1 hC.2.1 dL_law_1647 hl rfl (inc_5 _) (Nat.le_of_ble_eq_true rfl) rfl (fun ls hl => ?_)
    refine lv_goto (tgt := 18) hC.1 hC.2.1 dL_law_1650 (by decide) ?_
    exact hk _ _ _ _ _ _ hf hM (lv_sub hl [1, 2, 3, 0] rfl)
  · have hf := o_f hc13 hf
    exact absurd (Option.some.inj hf) (by decide)
set_option maxHeartbeats 4000000 in
set_option maxRecDepth 100000 in
theorem lc_38 {p : Program} {e : Env} {s : State} {m : MethodId} {below : List Frame} {meth : Method} {c : Code} {l : Launch} {x : Cond} {V : mV} {a' : Nat → Nat} {b L cells slots : Nat} {xs : Nat → Int32} {A : Nat → Prop} {Q : State → Prop} (hC : mw_C p s m #[Value.ref b] c code 4 RL x (mvD V) vwCl (mvY V) ssL (mvK V) (mvW V) A) (hX : va_X b L xs s s.heap) (hbl : b < s.heap.size) (hbA : ¬ A b) (hcs : cells ≤ room_1.cells ∧ slots ≤ room_1.slots) {kf : mM → mM → Int32 → Option Int32} (hk : ∀ (M T : mM) (x3 : Int32) (H : Heap) (locs : List Loc) (ls : Array Slot), kf M T x3 = some 1 → L2 V a' M T A s H locs → lv_has ls 4 [(0, .ref b), (1, .ref (mvA V 0)), (2, .ref (a' 0)), (3, .int x3)] → W p l e room_1 s m #[Value.ref b] below meth c H locs cells slots Q (F0 m 18 ls [])) (M T : mM) (x3 : Int32) (H : Heap) (locs : List Loc) (ls : Array Slot) (hf : fL_38 kf L xs M T x3 = some 1) (hM : L2 V a' M T A s H locs) (hl : lv_has ls 4 [(0, .ref b), (1, .ref (mvA V 0)), (2, .ref (a' 0)), (3, .int x3)]) : W p l e room_1 s m #[Value.ref b] below meth c H locs cells slots Q (F0 m 1284 ls []) := by
  unfold fL_38 at hf
  refine lv_aload_n hC.1 hC.2.1 dL_law_1284 rfl (lv_at hl 1 rfl) ?_
  refine lv_aload_n hC.1 hC.2.1 dL_law_1285 rfl (lv_at hl 0 rfl) ?_
  refine lv_iload_n hC.1 hC.2.1 dL_law_1286 rfl (lv_at hl 3 rfl) ?_
  refine lv_iconst hC.1 hC.2.1 dL_law_1287 ci_1 ?_
  refine lv_iadd hC.1 hC.2.1 dL_law_1288 ?_
  obtain ⟨hg1, hf⟩ := o_g hf
  refine va_sld hC.1 hC.2.1 hX hbl hbA hM.1.2.2 (ix_in hg1) dL_law_1289 ?_
  refine lv_aload_n hC.1 hC.2.1 dL_law_1290 rfl (lv_at hl 0 rfl) ?_
  refine lv_iload_n hC.1 hC.2.1 dL_law_1291 rfl (lv_at hl 3 rfl) ?_
  refine lv_iconst hC.1 hC.2.1 dL_law_1292 ci_2 ?_
  refine lv_iadd hC.1 hC.2.1 dL_law_1293 ?_
  obtain ⟨hg2, hf⟩ := o_g hf
  refine va_sld hC.1 hC.2.1 hX hbl hbA hM.1.2.2 (ix_in hg2) dL_law_1294 ?_
  refine lv_aload_n hC.1 hC.2.1 dL_law_1295 rfl (lv_at hl 0 rfl) ?_
  refine lv_iload_n hC.1 hC.2.1 dL_law_1296 rfl (lv_at hl 3 rfl) ?_
  refine lv_iconst hC.1 hC.2.1 dL_law_1297 ci_3 ?_
  refine lv_iadd hC.1 hC.2.1 dL_law_1298 ?_
  obtain ⟨hg3, hf⟩ := o_g hf
  refine va_sld hC.1 hC.2.1 hX hbl hbA hM.1.2.2 (ix_in hg3) dL_law_1299 ?_
  obtain ⟨r4, M6, hq5, hf⟩ := o_b2 hf
  refine l2_c1 (As := [.int (xs (Int32.toNatClampNeg (x3 + 1))), .int (xs (Int32.toNatClampNeg (x3 + 2))), .int (xs (Int32.toNatClampNeg (x3 + 3)))]) (rest := []) hC hM (mcX11_write V l M (xs (Int32.toNatClampNeg (x3 + 1))) (xs (Int32.toNatClampNeg (x3 + 2))) (xs (Int32.toNatClampNeg (x3 + 3))) r4 M6 hq5) (mw_kV hC q_968 q_969 q_970 q_107 q_971 ⟨rfl, rfl⟩ kV_X11_write ⟨Nat.le_of_ble_eq_true rfl, Nat.le_of_ble_eq_true rfl⟩) rfl rfl (Nat.le_of_ble_eq_true rfl) hl.1 hcs dL_law_1300 (fun H locs hM => ?_)
  refine lv_aload_n hC.1 hC.2.1 dL_law_1303 rfl (lv_at hl 2 rfl) ?_
  refine lv_aload_n hC.1 hC.2.1 dL_law_1304 rfl (lv_at hl 0 rfl) ?_
  refine lv_iload_n hC.1 hC.2.1 dL_law_1305 rfl (lv_at hl 3 rfl) ?_
  refine lv_iconst hC.1 hC.2.1 dL_law_1306 ci_1 ?_
  refine lv_iadd hC.1 hC.2.1 dL_law_1307 ?_
  obtain ⟨hg7, hf⟩ := o_g hf
  refine va_sld hC.1 hC.2.1 hX hbl hbA hM.1.2.2 (ix_in hg7) dL_law_1308 ?_
  refine lv_aload_n hC.1 hC.2.1 dL_law_1309 rfl (lv_at hl 0 rfl) ?_
  refine lv_iload_n hC.1 hC.2.1 dL_law_1310 rfl (lv_at hl 3 rfl) ?_
  refine lv_iconst hC.1 hC.2.1 dL_law_1311 ci_2 ?_
  refine lv_iadd hC.1 hC.2.1 dL_law_1312 ?_
  obtain ⟨hg8, hf⟩ := o_g hf
  refine va_sld hC.1 hC.2.1 hX hbl hbA hM.1.2.2 (ix_in hg8) dL_law_1313 ?_
  refine lv_aload_n hC.1 hC.2.1 dL_law_1314 rfl (lv_at hl 0 rfl) ?_
  refine lv_iload_n hC.1 hC.2.1 dL_law_1315 rfl (lv_at hl 3 rfl) ?_
  refine lv_iconst hC.1 hC.2.1 dL_law_1316 ci_3 ?_
  refine lv_iadd hC.1 hC.2.1 dL_law_1317 ?_
  obtain ⟨hg9, hf⟩ := o_g hf
  refine va_sld hC.1 hC.2.1 hX hbl hbA hM.1.2.2 (ix_in hg9) dL_law_1318 ?_
  obtain ⟨r10, M12, hq11, hf⟩ := o_b2 hf
  refine l2_c2 (As := [.int (xs (Int32.toNatClampNeg (x3 + 1))), .int (xs (Int32.toNatClampNeg (x3 + 2))), .int (xs (Int32.toNatClampNeg (x3 + 3)))]) (rest := [.int r4]) hC hM (mcX12_write (V2 V a') l T (xs (Int32.toNatClampNeg (x3 + 1))) (xs (Int32.toNatClampNeg (x3 + 2))) (xs (Int32.toNatClampNeg (x3 + 3))) r10 M12 hq11) (mw_kV hC q_1673 q_1674 q_1675 q_120 q_1676 ⟨rfl, rfl⟩ kV_X12_write ⟨Nat.le_of_ble_eq_true rfl, Nat.le_of_ble_eq_true rfl⟩) rfl rfl (Nat.le_of_ble_eq_true rfl) hl.1 hcs dL_law_1319 (fun H locs hM => ?_)
  refine lv_icmp_eq (tgt := 1647) hC.1 hC.2.1 dL_law_1322 (by decide) (fun hc13 => ?_) (fun hc13 => ?_)
  · have hf := o_t hc13 hf
    refine lv_iinc (k := 3) (lv' := [(3, .int (x3 + 5)), (0, .ref b), (1, .ref (mvA V 0)), (2, .ref (a' 0))]) hC.1 hC.2.1 dL_law_1647 hl rfl (inc_5 _) (Nat.le_of_ble_eq_true rfl) rfl (fun ls hl => ?_)
    refine lv_goto (tgt := 18) hC.1 hC.2.1 dL_law_1650 (by decide) ?_
    exact hk _ _ _ _ _ _ hf hM (lv_sub hl [1, 2, 3, 0] rfl)
  · have hf := o_f hc13 hf
    exact absurd (Option.some.inj hf) (by decide)
set_option maxHeartbeats 4000000 in
set_option maxRecDepth 100000 in
theorem lc_39 {p : Program} {e : Env} {s : State} {m : MethodId} {below : List Frame} {meth : Method} {c : Code} {l : Launch} {x : Cond} {V : mV} {a' : Nat → Nat} {b L cells slots : Nat} {xs : Nat → Int32} {A : Nat → Prop} {Q : State → Prop} (hC : mw_C p s m #[Value.ref b] c code 4 RL x (mvD V) vwCl (mvY V) ssL (mvK V) (mvW V) A) (hX : va_X b L xs s s.heap) (hbl : b < s.heap.size) (hbA : ¬ A b) (hcs : cells ≤ room_1.cells ∧ slots ≤ room_1.slots) {kf : mM → mM → Int32 → Option Int32} (hk : ∀ (M T : mM) (x3 : Int32) (H : Heap) (locs : List Loc) (ls : Array Slot), kf M T x3 = some 1 → L2 V a' M T A s H locs → lv_has ls 4 [(0, .ref b), (1, .ref (mvA V 0)), (2, .ref (a' 0)), (3, .int x3)] → W p l e room_1 s m #[Value.ref b] below meth c H locs cells slots Q (F0 m 18 ls [])) (M T : mM) (x3 : Int32) (H : Heap) (locs : List Loc) (ls : Array Slot) (hf : fL_39 kf L xs M T x3 = some 1) (hM : L2 V a' M T A s H locs) (hl : lv_has ls 4 [(0, .ref b), (1, .ref (mvA V 0)), (2, .ref (a' 0)), (3, .int x3)]) : W p l e room_1 s m #[Value.ref b] below meth c H locs cells slots Q (F0 m 1327 ls []) := by
  unfold fL_39 at hf
  refine lv_aload_n hC.1 hC.2.1 dL_law_1327 rfl (lv_at hl 1 rfl) ?_
  refine lv_aload_n hC.1 hC.2.1 dL_law_1328 rfl (lv_at hl 0 rfl) ?_
  refine lv_iload_n hC.1 hC.2.1 dL_law_1329 rfl (lv_at hl 3 rfl) ?_
  refine lv_iconst hC.1 hC.2.1 dL_law_1330 ci_1 ?_
  refine lv_iadd hC.1 hC.2.1 dL_law_1331 ?_
  obtain ⟨hg1, hf⟩ := o_g hf
  refine va_sld hC.1 hC.2.1 hX hbl hbA hM.1.2.2 (ix_in hg1) dL_law_1332 ?_
  refine lv_aload_n hC.1 hC.2.1 dL_law_1333 rfl (lv_at hl 0 rfl) ?_
  refine lv_iload_n hC.1 hC.2.1 dL_law_1334 rfl (lv_at hl 3 rfl) ?_
  refine lv_iconst hC.1 hC.2.1 dL_law_1335 ci_2 ?_
  refine lv_iadd hC.1 hC.2.1 dL_law_1336 ?_
  obtain ⟨hg2, hf⟩ := o_g hf
  refine va_sld hC.1 hC.2.1 hX hbl hbA hM.1.2.2 (ix_in hg2) dL_law_1337 ?_
  refine lv_aload_n hC.1 hC.2.1 dL_law_1338 rfl (lv_at hl 0 rfl) ?_
  refine lv_iload_n hC.1 hC.2.1 dL_law_1339 rfl (lv_at hl 3 rfl) ?_
  refine lv_iconst hC.1 hC.2.1 dL_law_1340 ci_3 ?_
  refine lv_iadd hC.1 hC.2.1 dL_law_1341 ?_
  obtain ⟨hg3, hf⟩ := o_g hf
  refine va_sld hC.1 hC.2.1 hX hbl hbA hM.1.2.2 (ix_in hg3) dL_law_1342 ?_
  obtain ⟨r4, hq5, hf⟩ := o_b hf
  refine l2_c1 (As := [.int (xs (Int32.toNatClampNeg (x3 + 1))), .int (xs (Int32.toNatClampNeg (x3 + 2))), .int (xs (Int32.toNatClampNeg (x3 + 3)))]) (rest := []) hC hM (mcX11_item V l M (xs (Int32.toNatClampNeg (x3 + 1))) (xs (Int32.toNatClampNeg (x3 + 2))) (xs (Int32.toNatClampNeg (x3 + 3))) r4 hq5) (mw_kV hC q_980 q_981 q_982 q_107 q_983 ⟨rfl, rfl⟩ kV_X11_item ⟨Nat.le_of_ble_eq_true rfl, Nat.le_of_ble_eq_true rfl⟩) rfl rfl (Nat.le_of_ble_eq_true rfl) hl.1 hcs dL_law_1343 (fun H locs hM => ?_)
  refine lv_aload_n hC.1 hC.2.1 dL_law_1346 rfl (lv_at hl 2 rfl) ?_
  refine lv_aload_n hC.1 hC.2.1 dL_law_1347 rfl (lv_at hl 0 rfl) ?_
  refine lv_iload_n hC.1 hC.2.1 dL_law_1348 rfl (lv_at hl 3 rfl) ?_
  refine lv_iconst hC.1 hC.2.1 dL_law_1349 ci_1 ?_
  refine lv_iadd hC.1 hC.2.1 dL_law_1350 ?_
  obtain ⟨hg6, hf⟩ := o_g hf
  refine va_sld hC.1 hC.2.1 hX hbl hbA hM.1.2.2 (ix_in hg6) dL_law_1351 ?_
  refine lv_aload_n hC.1 hC.2.1 dL_law_1352 rfl (lv_at hl 0 rfl) ?_
  refine lv_iload_n hC.1 hC.2.1 dL_law_1353 rfl (lv_at hl 3 rfl) ?_
  refine lv_iconst hC.1 hC.2.1 dL_law_1354 ci_2 ?_
  refine lv_iadd hC.1 hC.2.1 dL_law_1355 ?_
  obtain ⟨hg7, hf⟩ := o_g hf
  refine va_sld hC.1 hC.2.1 hX hbl hbA hM.1.2.2 (ix_in hg7) dL_law_1356 ?_
  refine lv_aload_n hC.1 hC.2.1 dL_law_1357 rfl (lv_at hl 0 rfl) ?_
  refine lv_iload_n hC.1 hC.2.1 dL_law_1358 rfl (lv_at hl 3 rfl) ?_
  refine lv_iconst hC.1 hC.2.1 dL_law_1359 ci_3 ?_
  refine lv_iadd hC.1 hC.2.1 dL_law_1360 ?_
  obtain ⟨hg8, hf⟩ := o_g hf
  refine va_sld hC.1 hC.2.1 hX hbl hbA hM.1.2.2 (ix_in hg8) dL_law_1361 ?_
  obtain ⟨r9, hq10, hf⟩ := o_b hf
  refine l2_c2 (As := [.int (xs (Int32.toNatClampNeg (x3 + 1))), .int (xs (Int32.toNatClampNeg (x3 + 2))), .int (xs (Int32.toNatClampNeg (x3 + 3)))]) (rest := [.int r4]) hC hM (mcX12_item (V2 V a') l T (xs (Int32.toNatClampNeg (x3 + 1))) (xs (Int32.toNatClampNeg (x3 + 2))) (xs (Int32.toNatClampNeg (x3 + 3))) r9 hq10) (mw_kV hC q_1684 q_1685 q_1686 q_120 q_1687 ⟨rfl, rfl⟩ kV_X12_item ⟨Nat.le_of_ble_eq_true rfl, Nat.le_of_ble_eq_true rfl⟩) rfl rfl (Nat.le_of_ble_eq_true rfl) hl.1 hcs dL_law_1362 (fun H locs hM => ?_)
  refine lv_icmp_eq (tgt := 1647) hC.1 hC.2.1 dL_law_1365 (by decide) (fun hc11 => ?_) (fun hc11 => ?_)
  · have hf := o_t hc11 hf
    refine lv_iinc (k := 3) (lv' := [(3, .int (x3 + 5)), (0, .ref b), (1, .ref (mvA V 0)), (2, .ref (a' 0))]) hC.1 hC.2.1 dL_law_1647 hl rfl (inc_5 _) (Nat.le_of_ble_eq_true rfl) rfl (fun ls hl => ?_)
    refine lv_goto (tgt := 18) hC.1 hC.2.1 dL_law_1650 (by decide) ?_
    exact hk _ _ _ _ _ _ hf hM (lv_sub hl [1, 2, 3, 0] rfl)
  · have hf := o_f hc11 hf
    exact absurd (Option.some.inj hf) (by decide)
set_option maxHeartbeats 4000000 in
set_option maxRecDepth 100000 in
theorem lc_40 {p : Program} {e : Env} {s : State} {m : MethodId} {below : List Frame} {meth : Method} {c : Code} {l : Launch} {x : Cond} {V : mV} {a' : Nat → Nat} {b L cells slots : Nat} {xs : Nat → Int32} {A : Nat → Prop} {Q : State → Prop} (hC : mw_C p s m #[Value.ref b] c code 4 RL x (mvD V) vwCl (mvY V) ssL (mvK V) (mvW V) A) (hX : va_X b L xs s s.heap) (hbl : b < s.heap.size) (hbA : ¬ A b) (hcs : cells ≤ room_1.cells ∧ slots ≤ room_1.slots) {kf : mM → mM → Int32 → Option Int32} (hk : ∀ (M T : mM) (x3 : Int32) (H : Heap) (locs : List Loc) (ls : Array Slot), kf M T x3 = some 1 → L2 V a' M T A s H locs → lv_has ls 4 [(0, .ref b), (1, .ref (mvA V 0)), (2, .ref (a' 0)), (3, .int x3)] → W p l e room_1 s m #[Value.ref b] below meth c H locs cells slots Q (F0 m 18 ls [])) (M T : mM) (x3 : Int32) (H : Heap) (locs : List Loc) (ls : Array Slot) (hf : fL_40 kf L xs M T x3 = some 1) (hM : L2 V a' M T A s H locs) (hl : lv_has ls 4 [(0, .ref b), (1, .ref (mvA V 0)), (2, .ref (a' 0)), (3, .int x3)]) : W p l e room_1 s m #[Value.ref b] below meth c H locs cells slots Q (F0 m 1370 ls []) := by
  unfold fL_40 at hf
  refine lv_aload_n hC.1 hC.2.1 dL_law_1370 rfl (lv_at hl 1 rfl) ?_
  refine lv_aload_n hC.1 hC.2.1 dL_law_1371 rfl (lv_at hl 0 rfl) ?_
  refine lv_iload_n hC.1 hC.2.1 dL_law_1372 rfl (lv_at hl 3 rfl) ?_
  refine lv_iconst hC.1 hC.2.1 dL_law_1373 ci_1 ?_
  refine lv_iadd hC.1 hC.2.1 dL_law_1374 ?_
  obtain ⟨hg1, hf⟩ := o_g hf
  refine va_sld hC.1 hC.2.1 hX hbl hbA hM.1.2.2 (ix_in hg1) dL_law_1375 ?_
  refine lv_aload_n hC.1 hC.2.1 dL_law_1376 rfl (lv_at hl 0 rfl) ?_
  refine lv_iload_n hC.1 hC.2.1 dL_law_1377 rfl (lv_at hl 3 rfl) ?_
  refine lv_iconst hC.1 hC.2.1 dL_law_1378 ci_2 ?_
  refine lv_iadd hC.1 hC.2.1 dL_law_1379 ?_
  obtain ⟨hg2, hf⟩ := o_g hf
  refine va_sld hC.1 hC.2.1 hX hbl hbA hM.1.2.2 (ix_in hg2) dL_law_1380 ?_
  refine lv_aload_n hC.1 hC.2.1 dL_law_1381 rfl (lv_at hl 0 rfl) ?_
  refine lv_iload_n hC.1 hC.2.1 dL_law_1382 rfl (lv_at hl 3 rfl) ?_
  refine lv_iconst hC.1 hC.2.1 dL_law_1383 ci_3 ?_
  refine lv_iadd hC.1 hC.2.1 dL_law_1384 ?_
  obtain ⟨hg3, hf⟩ := o_g hf
  refine va_sld hC.1 hC.2.1 hX hbl hbA hM.1.2.2 (ix_in hg3) dL_law_1385 ?_
  obtain ⟨r4, M6, hq5, hf⟩ := o_b2 hf
  refine l2_c1 (As := [.int (xs (Int32.toNatClampNeg (x3 + 1))), .int (xs (Int32.toNatClampNeg (x3 + 2))), .int (xs (Int32.toNatClampNeg (x3 + 3)))]) (rest := []) hC hM (mcX11_goAll V l M (xs (Int32.toNatClampNeg (x3 + 1))) (xs (Int32.toNatClampNeg (x3 + 2))) (xs (Int32.toNatClampNeg (x3 + 3))) r4 M6 hq5) (mw_kV hC q_992 q_993 q_994 q_107 q_995 ⟨rfl, rfl⟩ kV_X11_goAll ⟨Nat.le_of_ble_eq_true rfl, Nat.le_of_ble_eq_true rfl⟩) rfl rfl (Nat.le_of_ble_eq_true rfl) hl.1 hcs dL_law_1386 (fun H locs hM => ?_)
  refine lv_aload_n hC.1 hC.2.1 dL_law_1389 rfl (lv_at hl 2 rfl) ?_
  refine lv_aload_n hC.1 hC.2.1 dL_law_1390 rfl (lv_at hl 0 rfl) ?_
  refine lv_iload_n hC.1 hC.2.1 dL_law_1391 rfl (lv_at hl 3 rfl) ?_
  refine lv_iconst hC.1 hC.2.1 dL_law_1392 ci_1 ?_
  refine lv_iadd hC.1 hC.2.1 dL_law_1393 ?_
  obtain ⟨hg7, hf⟩ := o_g hf
  refine va_sld hC.1 hC.2.1 hX hbl hbA hM.1.2.2 (ix_in hg7) dL_law_1394 ?_
  refine lv_aload_n hC.1 hC.2.1 dL_law_1395 rfl (lv_at hl 0 rfl) ?_
  refine lv_iload_n hC.1 hC.2.1 dL_law_1396 rfl (lv_at hl 3 rfl) ?_
  refine lv_iconst hC.1 hC.2.1 dL_law_1397 ci_2 ?_
  refine lv_iadd hC.1 hC.2.1 dL_law_1398 ?_
  obtain ⟨hg8, hf⟩ := o_g hf
  refine va_sld hC.1 hC.2.1 hX hbl hbA hM.1.2.2 (ix_in hg8) dL_law_1399 ?_
  refine lv_aload_n hC.1 hC.2.1 dL_law_1400 rfl (lv_at hl 0 rfl) ?_
  refine lv_iload_n hC.1 hC.2.1 dL_law_1401 rfl (lv_at hl 3 rfl) ?_
  refine lv_iconst hC.1 hC.2.1 dL_law_1402 ci_3 ?_
  refine lv_iadd hC.1 hC.2.1 dL_law_1403 ?_
  obtain ⟨hg9, hf⟩ := o_g hf
  refine va_sld hC.1 hC.2.1 hX hbl hbA hM.1.2.2 (ix_in hg9) dL_law_1404 ?_
  obtain ⟨r10, M12, hq11, hf⟩ := o_b2 hf
  refine l2_c2 (As := [.int (xs (Int32.toNatClampNeg (x3 + 1))), .int (xs (Int32.toNatClampNeg (x3 + 2))), .int (xs (Int32.toNatClampNeg (x3 + 3)))]) (rest := [.int r4]) hC hM (mcX12_goAll (V2 V a') l T (xs (Int32.toNatClampNeg (x3 + 1))) (xs (Int32.toNatClampNeg (x3 + 2))) (xs (Int32.toNatClampNeg (x3 + 3))) r10 M12 hq11) (mw_kV hC q_1688 q_1689 q_1690 q_120 q_1691 ⟨rfl, rfl⟩ kV_X12_goAll ⟨Nat.le_of_ble_eq_true rfl, Nat.le_of_ble_eq_true rfl⟩) rfl rfl (Nat.le_of_ble_eq_true rfl) hl.1 hcs dL_law_1405 (fun H locs hM => ?_)
  refine lv_icmp_eq (tgt := 1647) hC.1 hC.2.1 dL_law_1408 (by decide) (fun hc13 => ?_) (fun hc13 => ?_)
  · have hf := o_t hc13 hf
    refine lv_iinc (k := 3) (lv' := [(3, .int (x3 + 5)), (0, .ref b), (1, .ref (mvA V 0)), (2, .ref (a' 0))]) hC.1 hC.2.1 dL_law_1647 hl rfl (inc_5 _) (Nat.le_of_ble_eq_true rfl) rfl (fun ls hl => ?_)
    refine lv_goto (tgt := 18) hC.1 hC.2.1 dL_law_1650 (by decide) ?_
    exact hk _ _ _ _ _ _ hf hM (lv_sub hl [1, 2, 3, 0] rfl)
  · have hf := o_f hc13 hf
    exact absurd (Option.some.inj hf) (by decide)
set_option maxHeartbeats 4000000 in
set_option maxRecDepth 100000 in
theorem lc_41 {p : Program} {e : Env} {s : State} {m : MethodId} {below : List Frame} {meth : Method} {c : Code} {l : Launch} {x : Cond} {V : mV} {a' : Nat → Nat} {b L cells slots : Nat} {xs : Nat → Int32} {A : Nat → Prop} {Q : State → Prop} (hC : mw_C p s m #[Value.ref b] c code 4 RL x (mvD V) vwCl (mvY V) ssL (mvK V) (mvW V) A) (hX : va_X b L xs s s.heap) (hbl : b < s.heap.size) (hbA : ¬ A b) (hcs : cells ≤ room_1.cells ∧ slots ≤ room_1.slots) {kf : mM → mM → Int32 → Option Int32} (hk : ∀ (M T : mM) (x3 : Int32) (H : Heap) (locs : List Loc) (ls : Array Slot), kf M T x3 = some 1 → L2 V a' M T A s H locs → lv_has ls 4 [(0, .ref b), (1, .ref (mvA V 0)), (2, .ref (a' 0)), (3, .int x3)] → W p l e room_1 s m #[Value.ref b] below meth c H locs cells slots Q (F0 m 18 ls [])) (M T : mM) (x3 : Int32) (H : Heap) (locs : List Loc) (ls : Array Slot) (hf : fL_41 kf L xs M T x3 = some 1) (hM : L2 V a' M T A s H locs) (hl : lv_has ls 4 [(0, .ref b), (1, .ref (mvA V 0)), (2, .ref (a' 0)), (3, .int x3)]) : W p l e room_1 s m #[Value.ref b] below meth c H locs cells slots Q (F0 m 1413 ls []) := by
  unfold fL_41 at hf
  refine lv_aload_n hC.1 hC.2.1 dL_law_1413 rfl (lv_at hl 1 rfl) ?_
  refine lv_aload_n hC.1 hC.2.1 dL_law_1414 rfl (lv_at hl 0 rfl) ?_
  refine lv_iload_n hC.1 hC.2.1 dL_law_1415 rfl (lv_at hl 3 rfl) ?_
  refine lv_iconst hC.1 hC.2.1 dL_law_1416 ci_1 ?_
  refine lv_iadd hC.1 hC.2.1 dL_law_1417 ?_
  obtain ⟨hg1, hf⟩ := o_g hf
  refine va_sld hC.1 hC.2.1 hX hbl hbA hM.1.2.2 (ix_in hg1) dL_law_1418 ?_
  refine lv_aload_n hC.1 hC.2.1 dL_law_1419 rfl (lv_at hl 0 rfl) ?_
  refine lv_iload_n hC.1 hC.2.1 dL_law_1420 rfl (lv_at hl 3 rfl) ?_
  refine lv_iconst hC.1 hC.2.1 dL_law_1421 ci_2 ?_
  refine lv_iadd hC.1 hC.2.1 dL_law_1422 ?_
  obtain ⟨hg2, hf⟩ := o_g hf
  refine va_sld hC.1 hC.2.1 hX hbl hbA hM.1.2.2 (ix_in hg2) dL_law_1423 ?_
  refine lv_aload_n hC.1 hC.2.1 dL_law_1424 rfl (lv_at hl 0 rfl) ?_
  refine lv_iload_n hC.1 hC.2.1 dL_law_1425 rfl (lv_at hl 3 rfl) ?_
  refine lv_iconst hC.1 hC.2.1 dL_law_1426 ci_3 ?_
  refine lv_iadd hC.1 hC.2.1 dL_law_1427 ?_
  obtain ⟨hg3, hf⟩ := o_g hf
  refine va_sld hC.1 hC.2.1 hX hbl hbA hM.1.2.2 (ix_in hg3) dL_law_1428 ?_
  obtain ⟨r4, M6, hq5, hf⟩ := o_b2 hf
  refine l2_c1 (As := [.int (xs (Int32.toNatClampNeg (x3 + 1))), .int (xs (Int32.toNatClampNeg (x3 + 2))), .int (xs (Int32.toNatClampNeg (x3 + 3)))]) (rest := []) hC hM (mcX11_wouldBe V l M (xs (Int32.toNatClampNeg (x3 + 1))) (xs (Int32.toNatClampNeg (x3 + 2))) (xs (Int32.toNatClampNeg (x3 + 3))) r4 M6 hq5) (mw_kV hC q_1000 q_1001 q_1002 q_107 q_1003 ⟨rfl, rfl⟩ kV_X11_wouldBe ⟨Nat.le_of_ble_eq_true rfl, Nat.le_of_ble_eq_true rfl⟩) rfl rfl (Nat.le_of_ble_eq_true rfl) hl.1 hcs dL_law_1429 (fun H locs hM => ?_)
  refine lv_aload_n hC.1 hC.2.1 dL_law_1432 rfl (lv_at hl 2 rfl) ?_
  refine lv_aload_n hC.1 hC.2.1 dL_law_1433 rfl (lv_at hl 0 rfl) ?_
  refine lv_iload_n hC.1 hC.2.1 dL_law_1434 rfl (lv_at hl 3 rfl) ?_
  refine lv_iconst hC.1 hC.2.1 dL_law_1435 ci_1 ?_
  refine lv_iadd hC.1 hC.2.1 dL_law_1436 ?_
  obtain ⟨hg7, hf⟩ := o_g hf
  refine va_sld hC.1 hC.2.1 hX hbl hbA hM.1.2.2 (ix_in hg7) dL_law_1437 ?_
  refine lv_aload_n hC.1 hC.2.1 dL_law_1438 rfl (lv_at hl 0 rfl) ?_
  refine lv_iload_n hC.1 hC.2.1 dL_law_1439 rfl (lv_at hl 3 rfl) ?_
  refine lv_iconst hC.1 hC.2.1 dL_law_1440 ci_2 ?_
  refine lv_iadd hC.1 hC.2.1 dL_law_1441 ?_
  obtain ⟨hg8, hf⟩ := o_g hf
  refine va_sld hC.1 hC.2.1 hX hbl hbA hM.1.2.2 (ix_in hg8) dL_law_1442 ?_
  refine lv_aload_n hC.1 hC.2.1 dL_law_1443 rfl (lv_at hl 0 rfl) ?_
  refine lv_iload_n hC.1 hC.2.1 dL_law_1444 rfl (lv_at hl 3 rfl) ?_
  refine lv_iconst hC.1 hC.2.1 dL_law_1445 ci_3 ?_
  refine lv_iadd hC.1 hC.2.1 dL_law_1446 ?_
  obtain ⟨hg9, hf⟩ := o_g hf
  refine va_sld hC.1 hC.2.1 hX hbl hbA hM.1.2.2 (ix_in hg9) dL_law_1447 ?_
  obtain ⟨r10, M12, hq11, hf⟩ := o_b2 hf
  refine l2_c2 (As := [.int (xs (Int32.toNatClampNeg (x3 + 1))), .int (xs (Int32.toNatClampNeg (x3 + 2))), .int (xs (Int32.toNatClampNeg (x3 + 3)))]) (rest := [.int r4]) hC hM (mcX12_wouldBe (V2 V a') l T (xs (Int32.toNatClampNeg (x3 + 1))) (xs (Int32.toNatClampNeg (x3 + 2))) (xs (Int32.toNatClampNeg (x3 + 3))) r10 M12 hq11) (mw_kV hC q_1697 q_1698 q_1699 q_120 q_1700 ⟨rfl, rfl⟩ kV_X12_wouldBe ⟨Nat.le_of_ble_eq_true rfl, Nat.le_of_ble_eq_true rfl⟩) rfl rfl (Nat.le_of_ble_eq_true rfl) hl.1 hcs dL_law_1448 (fun H locs hM => ?_)
  refine lv_icmp_eq (tgt := 1647) hC.1 hC.2.1 dL_law_1451 (by decide) (fun hc13 => ?_) (fun hc13 => ?_)
  · have hf := o_t hc13 hf
    refine lv_iinc (k := 3) (lv' := [(3, .int (x3 + 5)), (0, .ref b), (1, .ref (mvA V 0)), (2, .ref (a' 0))]) hC.1 hC.2.1 dL_law_1647 hl rfl (inc_5 _) (Nat.le_of_ble_eq_true rfl) rfl (fun ls hl => ?_)
    refine lv_goto (tgt := 18) hC.1 hC.2.1 dL_law_1650 (by decide) ?_
    exact hk _ _ _ _ _ _ hf hM (lv_sub hl [1, 2, 3, 0] rfl)
  · have hf := o_f hc13 hf
    exact absurd (Option.some.inj hf) (by decide)
set_option maxHeartbeats 4000000 in
set_option maxRecDepth 100000 in
theorem lc_42 {p : Program} {e : Env} {s : State} {m : MethodId} {below : List Frame} {meth : Method} {c : Code} {l : Launch} {x : Cond} {V : mV} {a' : Nat → Nat} {b L cells slots : Nat} {xs : Nat → Int32} {A : Nat → Prop} {Q : State → Prop} (hC : mw_C p s m #[Value.ref b] c code 4 RL x (mvD V) vwCl (mvY V) ssL (mvK V) (mvW V) A) (hX : va_X b L xs s s.heap) (hbl : b < s.heap.size) (hbA : ¬ A b) (hcs : cells ≤ room_1.cells ∧ slots ≤ room_1.slots) {kf : mM → mM → Int32 → Option Int32} (hk : ∀ (M T : mM) (x3 : Int32) (H : Heap) (locs : List Loc) (ls : Array Slot), kf M T x3 = some 1 → L2 V a' M T A s H locs → lv_has ls 4 [(0, .ref b), (1, .ref (mvA V 0)), (2, .ref (a' 0)), (3, .int x3)] → W p l e room_1 s m #[Value.ref b] below meth c H locs cells slots Q (F0 m 18 ls [])) (M T : mM) (x3 : Int32) (H : Heap) (locs : List Loc) (ls : Array Slot) (hf : fL_42 kf L xs M T x3 = some 1) (hM : L2 V a' M T A s H locs) (hl : lv_has ls 4 [(0, .ref b), (1, .ref (mvA V 0)), (2, .ref (a' 0)), (3, .int x3)]) : W p l e room_1 s m #[Value.ref b] below meth c H locs cells slots Q (F0 m 1456 ls []) := by
  unfold fL_42 at hf
  refine lv_aload_n hC.1 hC.2.1 dL_law_1456 rfl (lv_at hl 1 rfl) ?_
  refine lv_aload_n hC.1 hC.2.1 dL_law_1457 rfl (lv_at hl 0 rfl) ?_
  refine lv_iload_n hC.1 hC.2.1 dL_law_1458 rfl (lv_at hl 3 rfl) ?_
  refine lv_iconst hC.1 hC.2.1 dL_law_1459 ci_1 ?_
  refine lv_iadd hC.1 hC.2.1 dL_law_1460 ?_
  obtain ⟨hg1, hf⟩ := o_g hf
  refine va_sld hC.1 hC.2.1 hX hbl hbA hM.1.2.2 (ix_in hg1) dL_law_1461 ?_
  refine lv_aload_n hC.1 hC.2.1 dL_law_1462 rfl (lv_at hl 0 rfl) ?_
  refine lv_iload_n hC.1 hC.2.1 dL_law_1463 rfl (lv_at hl 3 rfl) ?_
  refine lv_iconst hC.1 hC.2.1 dL_law_1464 ci_2 ?_
  refine lv_iadd hC.1 hC.2.1 dL_law_1465 ?_
  obtain ⟨hg2, hf⟩ := o_g hf
  refine va_sld hC.1 hC.2.1 hX hbl hbA hM.1.2.2 (ix_in hg2) dL_law_1466 ?_
  refine lv_aload_n hC.1 hC.2.1 dL_law_1467 rfl (lv_at hl 0 rfl) ?_
  refine lv_iload_n hC.1 hC.2.1 dL_law_1468 rfl (lv_at hl 3 rfl) ?_
  refine lv_iconst hC.1 hC.2.1 dL_law_1469 ci_3 ?_
  refine lv_iadd hC.1 hC.2.1 dL_law_1470 ?_
  obtain ⟨hg3, hf⟩ := o_g hf
  refine va_sld hC.1 hC.2.1 hX hbl hbA hM.1.2.2 (ix_in hg3) dL_law_1471 ?_
  obtain ⟨r4, M6, hq5, hf⟩ := o_b2 hf
  refine l2_c1 (As := [.int (xs (Int32.toNatClampNeg (x3 + 1))), .int (xs (Int32.toNatClampNeg (x3 + 2))), .int (xs (Int32.toNatClampNeg (x3 + 3)))]) (rest := []) hC hM (mcX11_shelf V l M (xs (Int32.toNatClampNeg (x3 + 1))) (xs (Int32.toNatClampNeg (x3 + 2))) (xs (Int32.toNatClampNeg (x3 + 3))) r4 M6 hq5) (mw_kV hC q_1004 q_1005 q_1006 q_107 q_1007 ⟨rfl, rfl⟩ kV_X11_shelf ⟨Nat.le_of_ble_eq_true rfl, Nat.le_of_ble_eq_true rfl⟩) rfl rfl (Nat.le_of_ble_eq_true rfl) hl.1 hcs dL_law_1472 (fun H locs hM => ?_)
  refine lv_aload_n hC.1 hC.2.1 dL_law_1475 rfl (lv_at hl 2 rfl) ?_
  refine lv_aload_n hC.1 hC.2.1 dL_law_1476 rfl (lv_at hl 0 rfl) ?_
  refine lv_iload_n hC.1 hC.2.1 dL_law_1477 rfl (lv_at hl 3 rfl) ?_
  refine lv_iconst hC.1 hC.2.1 dL_law_1478 ci_1 ?_
  refine lv_iadd hC.1 hC.2.1 dL_law_1479 ?_
  obtain ⟨hg7, hf⟩ := o_g hf
  refine va_sld hC.1 hC.2.1 hX hbl hbA hM.1.2.2 (ix_in hg7) dL_law_1480 ?_
  refine lv_aload_n hC.1 hC.2.1 dL_law_1481 rfl (lv_at hl 0 rfl) ?_
  refine lv_iload_n hC.1 hC.2.1 dL_law_1482 rfl (lv_at hl 3 rfl) ?_
  refine lv_iconst hC.1 hC.2.1 dL_law_1483 ci_2 ?_
  refine lv_iadd hC.1 hC.2.1 dL_law_1484 ?_
  obtain ⟨hg8, hf⟩ := o_g hf
  refine va_sld hC.1 hC.2.1 hX hbl hbA hM.1.2.2 (ix_in hg8) dL_law_1485 ?_
  refine lv_aload_n hC.1 hC.2.1 dL_law_1486 rfl (lv_at hl 0 rfl) ?_
  refine lv_iload_n hC.1 hC.2.1 dL_law_1487 rfl (lv_at hl 3 rfl) ?_
  refine lv_iconst hC.1 hC.2.1 dL_law_1488 ci_3 ?_
  refine lv_iadd hC.1 hC.2.1 dL_law_1489 ?_
  obtain ⟨hg9, hf⟩ := o_g hf
  refine va_sld hC.1 hC.2.1 hX hbl hbA hM.1.2.2 (ix_in hg9) dL_law_1490 ?_
  obtain ⟨r10, M12, hq11, hf⟩ := o_b2 hf
  refine l2_c2 (As := [.int (xs (Int32.toNatClampNeg (x3 + 1))), .int (xs (Int32.toNatClampNeg (x3 + 2))), .int (xs (Int32.toNatClampNeg (x3 + 3)))]) (rest := [.int r4]) hC hM (mcX12_shelf (V2 V a') l T (xs (Int32.toNatClampNeg (x3 + 1))) (xs (Int32.toNatClampNeg (x3 + 2))) (xs (Int32.toNatClampNeg (x3 + 3))) r10 M12 hq11) (mw_kV hC q_1701 q_1702 q_1703 q_120 q_1704 ⟨rfl, rfl⟩ kV_X12_shelf ⟨Nat.le_of_ble_eq_true rfl, Nat.le_of_ble_eq_true rfl⟩) rfl rfl (Nat.le_of_ble_eq_true rfl) hl.1 hcs dL_law_1491 (fun H locs hM => ?_)
  refine lv_icmp_eq (tgt := 1647) hC.1 hC.2.1 dL_law_1494 (by decide) (fun hc13 => ?_) (fun hc13 => ?_)
  · have hf := o_t hc13 hf
    refine lv_iinc (k := 3) (lv' := [(3, .int (x3 + 5)), (0, .ref b), (1, .ref (mvA V 0)), (2, .ref (a' 0))]) hC.1 hC.2.1 dL_law_1647 hl rfl (inc_5 _) (Nat.le_of_ble_eq_true rfl) rfl (fun ls hl => ?_)
    refine lv_goto (tgt := 18) hC.1 hC.2.1 dL_law_1650 (by decide) ?_
    exact hk _ _ _ _ _ _ hf hM (lv_sub hl [1, 2, 3, 0] rfl)
  · have hf := o_f hc13 hf
    exact absurd (Option.some.inj hf) (by decide)
set_option maxHeartbeats 4000000 in
set_option maxRecDepth 100000 in
theorem lc_43 {p : Program} {e : Env} {s : State} {m : MethodId} {below : List Frame} {meth : Method} {c : Code} {l : Launch} {x : Cond} {V : mV} {a' : Nat → Nat} {b L cells slots : Nat} {xs : Nat → Int32} {A : Nat → Prop} {Q : State → Prop} (hC : mw_C p s m #[Value.ref b] c code 4 RL x (mvD V) vwCl (mvY V) ssL (mvK V) (mvW V) A) (hX : va_X b L xs s s.heap) (hbl : b < s.heap.size) (hbA : ¬ A b) (hcs : cells ≤ room_1.cells ∧ slots ≤ room_1.slots) {kf : mM → mM → Int32 → Option Int32} (hk : ∀ (M T : mM) (x3 : Int32) (H : Heap) (locs : List Loc) (ls : Array Slot), kf M T x3 = some 1 → L2 V a' M T A s H locs → lv_has ls 4 [(0, .ref b), (1, .ref (mvA V 0)), (2, .ref (a' 0)), (3, .int x3)] → W p l e room_1 s m #[Value.ref b] below meth c H locs cells slots Q (F0 m 18 ls [])) (M T : mM) (x3 : Int32) (H : Heap) (locs : List Loc) (ls : Array Slot) (hf : fL_43 kf L xs M T x3 = some 1) (hM : L2 V a' M T A s H locs) (hl : lv_has ls 4 [(0, .ref b), (1, .ref (mvA V 0)), (2, .ref (a' 0)), (3, .int x3)]) : W p l e room_1 s m #[Value.ref b] below meth c H locs cells slots Q (F0 m 1499 ls []) := by
  unfold fL_43 at hf
  refine lv_aload_n hC.1 hC.2.1 dL_law_1499 rfl (lv_at hl 1 rfl) ?_
  refine lv_aload_n hC.1 hC.2.1 dL_law_1500 rfl (lv_at hl 0 rfl) ?_
  refine lv_iload_n hC.1 hC.2.1 dL_law_1501 rfl (lv_at hl 3 rfl) ?_
  refine lv_iconst hC.1 hC.2.1 dL_law_1502 ci_1 ?_
  refine lv_iadd hC.1 hC.2.1 dL_law_1503 ?_
  obtain ⟨hg1, hf⟩ := o_g hf
  refine va_sld hC.1 hC.2.1 hX hbl hbA hM.1.2.2 (ix_in hg1) dL_law_1504 ?_
  refine lv_aload_n hC.1 hC.2.1 dL_law_1505 rfl (lv_at hl 0 rfl) ?_
  refine lv_iload_n hC.1 hC.2.1 dL_law_1506 rfl (lv_at hl 3 rfl) ?_
  refine lv_iconst hC.1 hC.2.1 dL_law_1507 ci_2 ?_
  refine lv_iadd hC.1 hC.2.1 dL_law_1508 ?_
  obtain ⟨hg2, hf⟩ := o_g hf
  refine va_sld hC.1 hC.2.1 hX hbl hbA hM.1.2.2 (ix_in hg2) dL_law_1509 ?_
  obtain ⟨r3, hq4, hf⟩ := o_b hf
  refine l2_c1 (As := [.int (xs (Int32.toNatClampNeg (x3 + 1))), .int (xs (Int32.toNatClampNeg (x3 + 2)))]) (rest := []) hC hM (mcX11_taken V l M (xs (Int32.toNatClampNeg (x3 + 1))) (xs (Int32.toNatClampNeg (x3 + 2))) r3 hq4) (mw_kV hC q_1020 q_1021 q_1022 q_107 q_1023 ⟨rfl, rfl⟩ kV_X11_taken ⟨Nat.le_of_ble_eq_true rfl, Nat.le_of_ble_eq_true rfl⟩) rfl rfl (Nat.le_of_ble_eq_true rfl) hl.1 hcs dL_law_1510 (fun H locs hM => ?_)
  refine lv_aload_n hC.1 hC.2.1 dL_law_1513 rfl (lv_at hl 2 rfl) ?_
  refine lv_aload_n hC.1 hC.2.1 dL_law_1514 rfl (lv_at hl 0 rfl) ?_
  refine lv_iload_n hC.1 hC.2.1 dL_law_1515 rfl (lv_at hl 3 rfl) ?_
  refine lv_iconst hC.1 hC.2.1 dL_law_1516 ci_1 ?_
  refine lv_iadd hC.1 hC.2.1 dL_law_1517 ?_
  obtain ⟨hg5, hf⟩ := o_g hf
  refine va_sld hC.1 hC.2.1 hX hbl hbA hM.1.2.2 (ix_in hg5) dL_law_1518 ?_
  refine lv_aload_n hC.1 hC.2.1 dL_law_1519 rfl (lv_at hl 0 rfl) ?_
  refine lv_iload_n hC.1 hC.2.1 dL_law_1520 rfl (lv_at hl 3 rfl) ?_
  refine lv_iconst hC.1 hC.2.1 dL_law_1521 ci_2 ?_
  refine lv_iadd hC.1 hC.2.1 dL_law_1522 ?_
  obtain ⟨hg6, hf⟩ := o_g hf
  refine va_sld hC.1 hC.2.1 hX hbl hbA hM.1.2.2 (ix_in hg6) dL_law_1523 ?_
  obtain ⟨r7, hq8, hf⟩ := o_b hf
  refine l2_c2 (As := [.int (xs (Int32.toNatClampNeg (x3 + 1))), .int (xs (Int32.toNatClampNeg (x3 + 2)))]) (rest := [.int r3]) hC hM (mcX12_taken (V2 V a') l T (xs (Int32.toNatClampNeg (x3 + 1))) (xs (Int32.toNatClampNeg (x3 + 2))) r7 hq8) (mw_kV hC q_1705 q_1706 q_1707 q_120 q_1708 ⟨rfl, rfl⟩ kV_X12_taken ⟨Nat.le_of_ble_eq_true rfl, Nat.le_of_ble_eq_true rfl⟩) rfl rfl (Nat.le_of_ble_eq_true rfl) hl.1 hcs dL_law_1524 (fun H locs hM => ?_)
  refine lv_icmp_eq (tgt := 1647) hC.1 hC.2.1 dL_law_1527 (by decide) (fun hc9 => ?_) (fun hc9 => ?_)
  · have hf := o_t hc9 hf
    refine lv_iinc (k := 3) (lv' := [(3, .int (x3 + 5)), (0, .ref b), (1, .ref (mvA V 0)), (2, .ref (a' 0))]) hC.1 hC.2.1 dL_law_1647 hl rfl (inc_5 _) (Nat.le_of_ble_eq_true rfl) rfl (fun ls hl => ?_)
    refine lv_goto (tgt := 18) hC.1 hC.2.1 dL_law_1650 (by decide) ?_
    exact hk _ _ _ _ _ _ hf hM (lv_sub hl [1, 2, 3, 0] rfl)
  · have hf := o_f hc9 hf
    exact absurd (Option.some.inj hf) (by decide)
set_option maxHeartbeats 4000000 in
set_option maxRecDepth 100000 in
theorem lc_44 {p : Program} {e : Env} {s : State} {m : MethodId} {below : List Frame} {meth : Method} {c : Code} {l : Launch} {x : Cond} {V : mV} {a' : Nat → Nat} {b L cells slots : Nat} {xs : Nat → Int32} {A : Nat → Prop} {Q : State → Prop} (hC : mw_C p s m #[Value.ref b] c code 4 RL x (mvD V) vwCl (mvY V) ssL (mvK V) (mvW V) A) (hX : va_X b L xs s s.heap) (hbl : b < s.heap.size) (hbA : ¬ A b) (hcs : cells ≤ room_1.cells ∧ slots ≤ room_1.slots) {kf : mM → mM → Int32 → Option Int32} (hk : ∀ (M T : mM) (x3 : Int32) (H : Heap) (locs : List Loc) (ls : Array Slot), kf M T x3 = some 1 → L2 V a' M T A s H locs → lv_has ls 4 [(0, .ref b), (1, .ref (mvA V 0)), (2, .ref (a' 0)), (3, .int x3)] → W p l e room_1 s m #[Value.ref b] below meth c H locs cells slots Q (F0 m 18 ls [])) (M T : mM) (x3 : Int32) (H : Heap) (locs : List Loc) (ls : Array Slot) (hf : fL_44 kf L xs M T x3 = some 1) (hM : L2 V a' M T A s H locs) (hl : lv_has ls 4 [(0, .ref b), (1, .ref (mvA V 0)), (2, .ref (a' 0)), (3, .int x3)]) : W p l e room_1 s m #[Value.ref b] below meth c H locs cells slots Q (F0 m 1532 ls []) := by
  unfold fL_44 at hf
  refine lv_aload_n hC.1 hC.2.1 dL_law_1532 rfl (lv_at hl 1 rfl) ?_
  refine lv_aload_n hC.1 hC.2.1 dL_law_1533 rfl (lv_at hl 0 rfl) ?_
  refine lv_iload_n hC.1 hC.2.1 dL_law_1534 rfl (lv_at hl 3 rfl) ?_
  refine lv_iconst hC.1 hC.2.1 dL_law_1535 ci_1 ?_
  refine lv_iadd hC.1 hC.2.1 dL_law_1536 ?_
  obtain ⟨hg1, hf⟩ := o_g hf
  refine va_sld hC.1 hC.2.1 hX hbl hbA hM.1.2.2 (ix_in hg1) dL_law_1537 ?_
  refine lv_aload_n hC.1 hC.2.1 dL_law_1538 rfl (lv_at hl 0 rfl) ?_
  refine lv_iload_n hC.1 hC.2.1 dL_law_1539 rfl (lv_at hl 3 rfl) ?_
  refine lv_iconst hC.1 hC.2.1 dL_law_1540 ci_2 ?_
  refine lv_iadd hC.1 hC.2.1 dL_law_1541 ?_
  obtain ⟨hg2, hf⟩ := o_g hf
  refine va_sld hC.1 hC.2.1 hX hbl hbA hM.1.2.2 (ix_in hg2) dL_law_1542 ?_
  refine lv_aload_n hC.1 hC.2.1 dL_law_1543 rfl (lv_at hl 0 rfl) ?_
  refine lv_iload_n hC.1 hC.2.1 dL_law_1544 rfl (lv_at hl 3 rfl) ?_
  refine lv_iconst hC.1 hC.2.1 dL_law_1545 ci_3 ?_
  refine lv_iadd hC.1 hC.2.1 dL_law_1546 ?_
  obtain ⟨hg3, hf⟩ := o_g hf
  refine va_sld hC.1 hC.2.1 hX hbl hbA hM.1.2.2 (ix_in hg3) dL_law_1547 ?_
  obtain ⟨r4, M6, hq5, hf⟩ := o_b2 hf
  refine l2_c1 (As := [.int (xs (Int32.toNatClampNeg (x3 + 1))), .int (xs (Int32.toNatClampNeg (x3 + 2))), .int (xs (Int32.toNatClampNeg (x3 + 3)))]) (rest := []) hC hM (mcX11_act V l M (xs (Int32.toNatClampNeg (x3 + 1))) (xs (Int32.toNatClampNeg (x3 + 2))) (xs (Int32.toNatClampNeg (x3 + 3))) r4 M6 hq5) (mw_kV hC q_1029 q_1030 q_1031 q_107 q_1032 ⟨rfl, rfl⟩ kV_X11_act ⟨Nat.le_of_ble_eq_true rfl, Nat.le_of_ble_eq_true rfl⟩) rfl rfl (Nat.le_of_ble_eq_true rfl) hl.1 hcs dL_law_1548 (fun H locs hM => ?_)
  refine lv_aload_n hC.1 hC.2.1 dL_law_1551 rfl (lv_at hl 2 rfl) ?_
  refine lv_aload_n hC.1 hC.2.1 dL_law_1552 rfl (lv_at hl 0 rfl) ?_
  refine lv_iload_n hC.1 hC.2.1 dL_law_1553 rfl (lv_at hl 3 rfl) ?_
  refine lv_iconst hC.1 hC.2.1 dL_law_1554 ci_1 ?_
  refine lv_iadd hC.1 hC.2.1 dL_law_1555 ?_
  obtain ⟨hg7, hf⟩ := o_g hf
  refine va_sld hC.1 hC.2.1 hX hbl hbA hM.1.2.2 (ix_in hg7) dL_law_1556 ?_
  refine lv_aload_n hC.1 hC.2.1 dL_law_1557 rfl (lv_at hl 0 rfl) ?_
  refine lv_iload_n hC.1 hC.2.1 dL_law_1558 rfl (lv_at hl 3 rfl) ?_
  refine lv_iconst hC.1 hC.2.1 dL_law_1559 ci_2 ?_
  refine lv_iadd hC.1 hC.2.1 dL_law_1560 ?_
  obtain ⟨hg8, hf⟩ := o_g hf
  refine va_sld hC.1 hC.2.1 hX hbl hbA hM.1.2.2 (ix_in hg8) dL_law_1561 ?_
  refine lv_aload_n hC.1 hC.2.1 dL_law_1562 rfl (lv_at hl 0 rfl) ?_
  refine lv_iload_n hC.1 hC.2.1 dL_law_1563 rfl (lv_at hl 3 rfl) ?_
  refine lv_iconst hC.1 hC.2.1 dL_law_1564 ci_3 ?_
  refine lv_iadd hC.1 hC.2.1 dL_law_1565 ?_
  obtain ⟨hg9, hf⟩ := o_g hf
  refine va_sld hC.1 hC.2.1 hX hbl hbA hM.1.2.2 (ix_in hg9) dL_law_1566 ?_
  obtain ⟨r10, M12, hq11, hf⟩ := o_b2 hf
  refine l2_c2 (As := [.int (xs (Int32.toNatClampNeg (x3 + 1))), .int (xs (Int32.toNatClampNeg (x3 + 2))), .int (xs (Int32.toNatClampNeg (x3 + 3)))]) (rest := [.int r4]) hC hM (mcX12_act (V2 V a') l T (xs (Int32.toNatClampNeg (x3 + 1))) (xs (Int32.toNatClampNeg (x3 + 2))) (xs (Int32.toNatClampNeg (x3 + 3))) r10 M12 hq11) (mw_kV hC q_1715 q_1716 q_1717 q_120 q_1718 ⟨rfl, rfl⟩ kV_X12_act ⟨Nat.le_of_ble_eq_true rfl, Nat.le_of_ble_eq_true rfl⟩) rfl rfl (Nat.le_of_ble_eq_true rfl) hl.1 hcs dL_law_1567 (fun H locs hM => ?_)
  refine lv_icmp_eq (tgt := 1647) hC.1 hC.2.1 dL_law_1570 (by decide) (fun hc13 => ?_) (fun hc13 => ?_)
  · have hf := o_t hc13 hf
    refine lv_iinc (k := 3) (lv' := [(3, .int (x3 + 5)), (0, .ref b), (1, .ref (mvA V 0)), (2, .ref (a' 0))]) hC.1 hC.2.1 dL_law_1647 hl rfl (inc_5 _) (Nat.le_of_ble_eq_true rfl) rfl (fun ls hl => ?_)
    refine lv_goto (tgt := 18) hC.1 hC.2.1 dL_law_1650 (by decide) ?_
    exact hk _ _ _ _ _ _ hf hM (lv_sub hl [1, 2, 3, 0] rfl)
  · have hf := o_f hc13 hf
    exact absurd (Option.some.inj hf) (by decide)
set_option maxHeartbeats 4000000 in
set_option maxRecDepth 100000 in
theorem lc_45 {p : Program} {e : Env} {s : State} {m : MethodId} {below : List Frame} {meth : Method} {c : Code} {l : Launch} {x : Cond} {V : mV} {a' : Nat → Nat} {b L cells slots : Nat} {xs : Nat → Int32} {A : Nat → Prop} {Q : State → Prop} (hC : mw_C p s m #[Value.ref b] c code 4 RL x (mvD V) vwCl (mvY V) ssL (mvK V) (mvW V) A) (hX : va_X b L xs s s.heap) (hbl : b < s.heap.size) (hbA : ¬ A b) (hcs : cells ≤ room_1.cells ∧ slots ≤ room_1.slots) {kf : mM → mM → Int32 → Option Int32} (hk : ∀ (M T : mM) (x3 : Int32) (H : Heap) (locs : List Loc) (ls : Array Slot), kf M T x3 = some 1 → L2 V a' M T A s H locs → lv_has ls 4 [(0, .ref b), (1, .ref (mvA V 0)), (2, .ref (a' 0)), (3, .int x3)] → W p l e room_1 s m #[Value.ref b] below meth c H locs cells slots Q (F0 m 18 ls [])) (M T : mM) (x3 : Int32) (H : Heap) (locs : List Loc) (ls : Array Slot) (hf : fL_45 kf L xs M T x3 = some 1) (hM : L2 V a' M T A s H locs) (hl : lv_has ls 4 [(0, .ref b), (1, .ref (mvA V 0)), (2, .ref (a' 0)), (3, .int x3)]) : W p l e room_1 s m #[Value.ref b] below meth c H locs cells slots Q (F0 m 1575 ls []) := by
  unfold fL_45 at hf
  refine lv_aload_n hC.1 hC.2.1 dL_law_1575 rfl (lv_at hl 1 rfl) ?_
  refine lv_aload_n hC.1 hC.2.1 dL_law_1576 rfl (lv_at hl 0 rfl) ?_
  refine lv_iload_n hC.1 hC.2.1 dL_law_1577 rfl (lv_at hl 3 rfl) ?_
  refine lv_iconst hC.1 hC.2.1 dL_law_1578 ci_1 ?_
  refine lv_iadd hC.1 hC.2.1 dL_law_1579 ?_
  obtain ⟨hg1, hf⟩ := o_g hf
  refine va_sld hC.1 hC.2.1 hX hbl hbA hM.1.2.2 (ix_in hg1) dL_law_1580 ?_
  obtain ⟨r2, hq3, hf⟩ := o_b hf
  refine l2_c1 (As := [.int (xs (Int32.toNatClampNeg (x3 + 1)))]) (rest := []) hC hM (mcX11_trace V l M (xs (Int32.toNatClampNeg (x3 + 1))) r2 hq3) (mw_kV hC q_1118 q_1119 q_1120 q_107 q_1121 ⟨rfl, rfl⟩ kV_X11_trace ⟨Nat.le_of_ble_eq_true rfl, Nat.le_of_ble_eq_true rfl⟩) rfl rfl (Nat.le_of_ble_eq_true rfl) hl.1 hcs dL_law_1581 (fun H locs hM => ?_)
  refine lv_aload_n hC.1 hC.2.1 dL_law_1584 rfl (lv_at hl 2 rfl) ?_
  refine lv_aload_n hC.1 hC.2.1 dL_law_1585 rfl (lv_at hl 0 rfl) ?_
  refine lv_iload_n hC.1 hC.2.1 dL_law_1586 rfl (lv_at hl 3 rfl) ?_
  refine lv_iconst hC.1 hC.2.1 dL_law_1587 ci_1 ?_
  refine lv_iadd hC.1 hC.2.1 dL_law_1588 ?_
  obtain ⟨hg4, hf⟩ := o_g hf
  refine va_sld hC.1 hC.2.1 hX hbl hbA hM.1.2.2 (ix_in hg4) dL_law_1589 ?_
  obtain ⟨r5, hq6, hf⟩ := o_b hf
  refine l2_c2 (As := [.int (xs (Int32.toNatClampNeg (x3 + 1)))]) (rest := [.int r2]) hC hM (mcX12_trace (V2 V a') l T (xs (Int32.toNatClampNeg (x3 + 1))) r5 hq6) (mw_kV hC q_1755 q_1756 q_1757 q_120 q_1758 ⟨rfl, rfl⟩ kV_X12_trace ⟨Nat.le_of_ble_eq_true rfl, Nat.le_of_ble_eq_true rfl⟩) rfl rfl (Nat.le_of_ble_eq_true rfl) hl.1 hcs dL_law_1590 (fun H locs hM => ?_)
  refine lv_icmp_eq (tgt := 1647) hC.1 hC.2.1 dL_law_1593 (by decide) (fun hc7 => ?_) (fun hc7 => ?_)
  · have hf := o_t hc7 hf
    refine lv_iinc (k := 3) (lv' := [(3, .int (x3 + 5)), (0, .ref b), (1, .ref (mvA V 0)), (2, .ref (a' 0))]) hC.1 hC.2.1 dL_law_1647 hl rfl (inc_5 _) (Nat.le_of_ble_eq_true rfl) rfl (fun ls hl => ?_)
    refine lv_goto (tgt := 18) hC.1 hC.2.1 dL_law_1650 (by decide) ?_
    exact hk _ _ _ _ _ _ hf hM (lv_sub hl [1, 2, 3, 0] rfl)
  · have hf := o_f hc7 hf
    exact absurd (Option.some.inj hf) (by decide)
set_option maxHeartbeats 4000000 in
set_option maxRecDepth 100000 in
theorem lc_46 {p : Program} {e : Env} {s : State} {m : MethodId} {below : List Frame} {meth : Method} {c : Code} {l : Launch} {x : Cond} {V : mV} {a' : Nat → Nat} {b L cells slots : Nat} {xs : Nat → Int32} {A : Nat → Prop} {Q : State → Prop} (hC : mw_C p s m #[Value.ref b] c code 4 RL x (mvD V) vwCl (mvY V) ssL (mvK V) (mvW V) A) (hX : va_X b L xs s s.heap) (hbl : b < s.heap.size) (hbA : ¬ A b) (hcs : cells ≤ room_1.cells ∧ slots ≤ room_1.slots) {kf : mM → mM → Int32 → Option Int32} (hk : ∀ (M T : mM) (x3 : Int32) (H : Heap) (locs : List Loc) (ls : Array Slot), kf M T x3 = some 1 → L2 V a' M T A s H locs → lv_has ls 4 [(0, .ref b), (1, .ref (mvA V 0)), (2, .ref (a' 0)), (3, .int x3)] → W p l e room_1 s m #[Value.ref b] below meth c H locs cells slots Q (F0 m 18 ls [])) (M T : mM) (x3 : Int32) (H : Heap) (locs : List Loc) (ls : Array Slot) (hf : fL_46 kf L xs M T x3 = some 1) (hM : L2 V a' M T A s H locs) (hl : lv_has ls 4 [(0, .ref b), (1, .ref (mvA V 0)), (2, .ref (a' 0)), (3, .int x3)]) : W p l e room_1 s m #[Value.ref b] below meth c H locs cells slots Q (F0 m 1598 ls []) := by
  unfold fL_46 at hf
  refine lv_aload_n hC.1 hC.2.1 dL_law_1598 rfl (lv_at hl 1 rfl) ?_
  refine lv_aload_n hC.1 hC.2.1 dL_law_1599 rfl (lv_at hl 0 rfl) ?_
  refine lv_iload_n hC.1 hC.2.1 dL_law_1600 rfl (lv_at hl 3 rfl) ?_
  refine lv_iconst hC.1 hC.2.1 dL_law_1601 ci_1 ?_
  refine lv_iadd hC.1 hC.2.1 dL_law_1602 ?_
  obtain ⟨hg1, hf⟩ := o_g hf
  refine va_sld hC.1 hC.2.1 hX hbl hbA hM.1.2.2 (ix_in hg1) dL_law_1603 ?_
  refine l2_c1 (As := [.int (xs (Int32.toNatClampNeg (x3 + 1)))]) (rest := []) hC hM (mcX11_many V l M (xs (Int32.toNatClampNeg (x3 + 1))) _ rfl) (mw_kV hC q_1122 q_1123 q_1124 q_107 q_1125 ⟨rfl, rfl⟩ kV_X11_many ⟨Nat.le_of_ble_eq_true rfl, Nat.le_of_ble_eq_true rfl⟩) rfl rfl (Nat.le_of_ble_eq_true rfl) hl.1 hcs dL_law_1604 (fun H locs hM => ?_)
  refine lv_aload_n hC.1 hC.2.1 dL_law_1607 rfl (lv_at hl 2 rfl) ?_
  refine lv_aload_n hC.1 hC.2.1 dL_law_1608 rfl (lv_at hl 0 rfl) ?_
  refine lv_iload_n hC.1 hC.2.1 dL_law_1609 rfl (lv_at hl 3 rfl) ?_
  refine lv_iconst hC.1 hC.2.1 dL_law_1610 ci_1 ?_
  refine lv_iadd hC.1 hC.2.1 dL_law_1611 ?_
  obtain ⟨hg2, hf⟩ := o_g hf
  refine va_sld hC.1 hC.2.1 hX hbl hbA hM.1.2.2 (ix_in hg2) dL_law_1612 ?_
  obtain ⟨r3, hq4, hf⟩ := o_b hf
  refine l2_c2 (As := [.int (xs (Int32.toNatClampNeg (x3 + 1)))]) (rest := [.int (fX11_many M (xs (Int32.toNatClampNeg (x3 + 1))))]) hC hM (mcX12_many (V2 V a') l T (xs (Int32.toNatClampNeg (x3 + 1))) r3 hq4) (mw_kV hC q_1759 q_1760 q_1761 q_120 q_1762 ⟨rfl, rfl⟩ kV_X12_many ⟨Nat.le_of_ble_eq_true rfl, Nat.le_of_ble_eq_true rfl⟩) rfl rfl (Nat.le_of_ble_eq_true rfl) hl.1 hcs dL_law_1613 (fun H locs hM => ?_)
  refine lv_icmp_eq (tgt := 1647) hC.1 hC.2.1 dL_law_1616 (by decide) (fun hc5 => ?_) (fun hc5 => ?_)
  · have hf := o_t hc5 hf
    refine lv_iinc (k := 3) (lv' := [(3, .int (x3 + 5)), (0, .ref b), (1, .ref (mvA V 0)), (2, .ref (a' 0))]) hC.1 hC.2.1 dL_law_1647 hl rfl (inc_5 _) (Nat.le_of_ble_eq_true rfl) rfl (fun ls hl => ?_)
    refine lv_goto (tgt := 18) hC.1 hC.2.1 dL_law_1650 (by decide) ?_
    exact hk _ _ _ _ _ _ hf hM (lv_sub hl [1, 2, 3, 0] rfl)
  · have hf := o_f hc5 hf
    exact absurd (Option.some.inj hf) (by decide)
set_option maxHeartbeats 4000000 in
set_option maxRecDepth 100000 in
theorem lc_47 {p : Program} {e : Env} {s : State} {m : MethodId} {below : List Frame} {meth : Method} {c : Code} {l : Launch} {x : Cond} {V : mV} {a' : Nat → Nat} {b L cells slots : Nat} {xs : Nat → Int32} {A : Nat → Prop} {Q : State → Prop} (hC : mw_C p s m #[Value.ref b] c code 4 RL x (mvD V) vwCl (mvY V) ssL (mvK V) (mvW V) A) (hX : va_X b L xs s s.heap) (hbl : b < s.heap.size) (hbA : ¬ A b) (hcs : cells ≤ room_1.cells ∧ slots ≤ room_1.slots) {kf : mM → mM → Int32 → Option Int32} (hk : ∀ (M T : mM) (x3 : Int32) (H : Heap) (locs : List Loc) (ls : Array Slot), kf M T x3 = some 1 → L2 V a' M T A s H locs → lv_has ls 4 [(0, .ref b), (1, .ref (mvA V 0)), (2, .ref (a' 0)), (3, .int x3)] → W p l e room_1 s m #[Value.ref b] below meth c H locs cells slots Q (F0 m 18 ls [])) (M T : mM) (x3 : Int32) (H : Heap) (locs : List Loc) (ls : Array Slot) (hf : fL_47 kf L xs M T x3 = some 1) (hM : L2 V a' M T A s H locs) (hl : lv_has ls 4 [(0, .ref b), (1, .ref (mvA V 0)), (2, .ref (a' 0)), (3, .int x3)]) : W p l e room_1 s m #[Value.ref b] below meth c H locs cells slots Q (F0 m 1621 ls []) := by
  unfold fL_47 at hf
  refine lv_aload_n hC.1 hC.2.1 dL_law_1621 rfl (lv_at hl 1 rfl) ?_
  obtain ⟨r1, M3, hq2, hf⟩ := o_b2 hf
  refine l2_c1 (As := []) (rest := []) hC hM (mcX11_keep V l M r1 M3 hq2) (mw_kV hC q_1126 q_1127 q_1128 q_107 q_1129 ⟨rfl, rfl⟩ kV_X11_keep ⟨Nat.le_of_ble_eq_true rfl, Nat.le_of_ble_eq_true rfl⟩) rfl rfl (Nat.le_of_ble_eq_true rfl) hl.1 hcs dL_law_1622 (fun H locs hM => ?_)
  refine lv_aload_n hC.1 hC.2.1 dL_law_1625 rfl (lv_at hl 2 rfl) ?_
  obtain ⟨r4, M6, hq5, hf⟩ := o_b2 hf
  refine l2_c2 (As := []) (rest := [.int r1]) hC hM (mcX12_keep (V2 V a') l T r4 M6 hq5) (mw_kV hC q_1763 q_1764 q_1765 q_120 q_1766 ⟨rfl, rfl⟩ kV_X12_keep ⟨Nat.le_of_ble_eq_true rfl, Nat.le_of_ble_eq_true rfl⟩) rfl rfl (Nat.le_of_ble_eq_true rfl) hl.1 hcs dL_law_1626 (fun H locs hM => ?_)
  refine lv_icmp_eq (tgt := 1647) hC.1 hC.2.1 dL_law_1629 (by decide) (fun hc7 => ?_) (fun hc7 => ?_)
  · have hf := o_t hc7 hf
    refine lv_iinc (k := 3) (lv' := [(3, .int (x3 + 5)), (0, .ref b), (1, .ref (mvA V 0)), (2, .ref (a' 0))]) hC.1 hC.2.1 dL_law_1647 hl rfl (inc_5 _) (Nat.le_of_ble_eq_true rfl) rfl (fun ls hl => ?_)
    refine lv_goto (tgt := 18) hC.1 hC.2.1 dL_law_1650 (by decide) ?_
    exact hk _ _ _ _ _ _ hf hM (lv_sub hl [1, 2, 3, 0] rfl)
  · have hf := o_f hc7 hf
    exact absurd (Option.some.inj hf) (by decide)
set_option maxHeartbeats 4000000 in
set_option maxRecDepth 100000 in
theorem lc_48 {p : Program} {e : Env} {s : State} {m : MethodId} {below : List Frame} {meth : Method} {c : Code} {l : Launch} {x : Cond} {V : mV} {a' : Nat → Nat} {b L cells slots : Nat} {xs : Nat → Int32} {A : Nat → Prop} {Q : State → Prop} (hC : mw_C p s m #[Value.ref b] c code 4 RL x (mvD V) vwCl (mvY V) ssL (mvK V) (mvW V) A) (hX : va_X b L xs s s.heap) (hbl : b < s.heap.size) (hbA : ¬ A b) (hcs : cells ≤ room_1.cells ∧ slots ≤ room_1.slots) {kf : mM → mM → Int32 → Option Int32} (hk : ∀ (M T : mM) (x3 : Int32) (H : Heap) (locs : List Loc) (ls : Array Slot), kf M T x3 = some 1 → L2 V a' M T A s H locs → lv_has ls 4 [(0, .ref b), (1, .ref (mvA V 0)), (2, .ref (a' 0)), (3, .int x3)] → W p l e room_1 s m #[Value.ref b] below meth c H locs cells slots Q (F0 m 18 ls [])) (M T : mM) (x3 : Int32) (H : Heap) (locs : List Loc) (ls : Array Slot) (hf : fL_48 kf L xs M T x3 = some 1) (hM : L2 V a' M T A s H locs) (hl : lv_has ls 4 [(0, .ref b), (1, .ref (mvA V 0)), (2, .ref (a' 0)), (3, .int x3)]) : W p l e room_1 s m #[Value.ref b] below meth c H locs cells slots Q (F0 m 1634 ls []) := by
  unfold fL_48 at hf
  refine lv_aload_n hC.1 hC.2.1 dL_law_1634 rfl (lv_at hl 1 rfl) ?_
  obtain ⟨r1, M3, hq2, hf⟩ := o_b2 hf
  refine l2_c1 (As := []) (rest := []) hC hM (mcX11_again V l M r1 M3 hq2) (mw_kV hC q_1136 q_1137 q_1138 q_107 q_1139 ⟨rfl, rfl⟩ kV_X11_again ⟨Nat.le_of_ble_eq_true rfl, Nat.le_of_ble_eq_true rfl⟩) rfl rfl (Nat.le_of_ble_eq_true rfl) hl.1 hcs dL_law_1635 (fun H locs hM => ?_)
  refine lv_aload_n hC.1 hC.2.1 dL_law_1638 rfl (lv_at hl 2 rfl) ?_
  obtain ⟨r4, M6, hq5, hf⟩ := o_b2 hf
  refine l2_c2 (As := []) (rest := [.int r1]) hC hM (mcX12_again (V2 V a') l T r4 M6 hq5) (mw_kV hC q_1770 q_1771 q_1772 q_120 q_1773 ⟨rfl, rfl⟩ kV_X12_again ⟨Nat.le_of_ble_eq_true rfl, Nat.le_of_ble_eq_true rfl⟩) rfl rfl (Nat.le_of_ble_eq_true rfl) hl.1 hcs dL_law_1639 (fun H locs hM => ?_)
  refine lv_icmp_eq (tgt := 1647) hC.1 hC.2.1 dL_law_1642 (by decide) (fun hc7 => ?_) (fun hc7 => ?_)
  · have hf := o_t hc7 hf
    refine lv_iinc (k := 3) (lv' := [(3, .int (x3 + 5)), (0, .ref b), (1, .ref (mvA V 0)), (2, .ref (a' 0))]) hC.1 hC.2.1 dL_law_1647 hl rfl (inc_5 _) (Nat.le_of_ble_eq_true rfl) rfl (fun ls hl => ?_)
    refine lv_goto (tgt := 18) hC.1 hC.2.1 dL_law_1650 (by decide) ?_
    exact hk _ _ _ _ _ _ hf hM (lv_sub hl [1, 2, 3, 0] rfl)
  · have hf := o_f hc7 hf
    exact absurd (Option.some.inj hf) (by decide)
set_option maxHeartbeats 4000000 in
set_option maxRecDepth 100000 in
theorem lc_d {p : Program} {e : Env} {s : State} {m : MethodId} {below : List Frame} {meth : Method} {c : Code} {l : Launch} {x : Cond} {V : mV} {a' : Nat → Nat} {b L cells slots : Nat} {xs : Nat → Int32} {A : Nat → Prop} {Q : State → Prop} (hC : mw_C p s m #[Value.ref b] c code 4 RL x (mvD V) vwCl (mvY V) ssL (mvK V) (mvW V) A) (hX : va_X b L xs s s.heap) (hbl : b < s.heap.size) (hbA : ¬ A b) (hcs : cells ≤ room_1.cells ∧ slots ≤ room_1.slots) {kf : mM → mM → Int32 → Option Int32} (hk : ∀ (M T : mM) (x3 : Int32) (H : Heap) (locs : List Loc) (ls : Array Slot), kf M T x3 = some 1 → L2 V a' M T A s H locs → lv_has ls 4 [(0, .ref b), (1, .ref (mvA V 0)), (2, .ref (a' 0)), (3, .int x3)] → W p l e room_1 s m #[Value.ref b] below meth c H locs cells slots Q (F0 m 18 ls [])) (M T : mM) (x3 : Int32) (H : Heap) (locs : List Loc) (ls : Array Slot) (hf : fL_d kf L xs M T x3 = some 1) (hM : L2 V a' M T A s H locs) (hl : lv_has ls 4 [(0, .ref b), (1, .ref (mvA V 0)), (2, .ref (a' 0)), (3, .int x3)]) : W p l e room_1 s m #[Value.ref b] below meth c H locs cells slots Q (F0 m 1647 ls []) := by
  unfold fL_d at hf
  refine lv_iinc (k := 3) (lv' := [(3, .int (x3 + 5)), (0, .ref b), (1, .ref (mvA V 0)), (2, .ref (a' 0))]) hC.1 hC.2.1 dL_law_1647 hl rfl (inc_5 _) (Nat.le_of_ble_eq_true rfl) rfl (fun ls hl => ?_)
  refine lv_goto (tgt := 18) hC.1 hC.2.1 dL_law_1650 (by decide) ?_
  exact hk _ _ _ _ _ _ hf hM (lv_sub hl [1, 2, 3, 0] rfl)
