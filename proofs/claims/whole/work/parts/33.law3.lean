set_option maxHeartbeats 4000000 in
set_option maxRecDepth 100000 in
theorem law_loop {p : Program} {e : Env} {s : State} {m : MethodId} {below : List Frame} {meth : Method} {c : Code} {l : Launch} {x : Cond} {V : mV} {a' : Nat → Nat} {b L cells slots : Nat} {xs : Nat → Int32} {A : Nat → Prop} {Q : State → Prop} (hC : mw_C p s m #[Value.ref b] c code 4 RL x (mvD V) vwCl (mvY V) ssL (mvK V) (mvW V) A) (hX : va_X b L xs s s.heap) (hbl : b < s.heap.size) (hbA : ¬ A b) (hcs : cells ≤ room_1.cells ∧ slots ≤ room_1.slots) (hend : ∀ {H : Heap} {locs : List Loc} {ls : Array Slot} {pc : Nat}, va_S A s.heap H locs → decode code pc = .ok (.ireturn, 1) → W p l e room_1 s m #[Value.ref b] below meth c H locs cells slots Q (F0 m pc ls [.int 1])) : ∀ (n : Nat) (M T : mM) (x3 : Int32) (H : Heap) (locs : List Loc) (ls : Array Slot), fL L xs n M T x3 = some 1 → L2 V a' M T A s H locs → lv_has ls 4 [(0, .ref b), (1, .ref (mvA V 0)), (2, .ref (a' 0)), (3, .int x3)] → W p l e room_1 s m #[Value.ref b] below meth c H locs cells slots Q (F0 m 18 ls []) := by
  intro n
  induction n with
  | zero => intro M T x3 H locs ls hf; cases hf
  | succ n ih =>
    intro M T x3 H locs ls hf hM hl
    have hf : fL_b (fL L xs n) L xs M T x3 = some 1 := hf
    unfold fL_b at hf
    refine lv_iload_n hC.1 hC.2.1 dL_law_18 rfl (lv_at hl 3 rfl) ?_
    refine lv_aload_n hC.1 hC.2.1 dL_law_19 rfl (lv_at hl 0 rfl) ?_
    refine va_slen hC.1 hC.2.1 hX hbl hbA hM.1.2.2 dL_law_20 ?_
    refine lv_iconst hC.1 hC.2.1 dL_law_21 ci_5 ?_
    refine lv_isub hC.1 hC.2.1 dL_law_22 ?_
    refine lv_icmp_gt (tgt := 1653) hC.1 hC.2.1 dL_law_23 (by decide) (fun hc => ?_) (fun hc => ?_)
    · refine lv_iconst hC.1 hC.2.1 dL_law_1653 ci_1 ?_
      exact hend hM.1.2.2 dL_law_1654
    have hf := o_f hc hf
    obtain ⟨hg, hf⟩ := o_g hf
    refine lv_aload_n hC.1 hC.2.1 dL_law_26 rfl (lv_at hl 0 rfl) ?_
    refine lv_iload_n hC.1 hC.2.1 dL_law_27 rfl (lv_at hl 3 rfl) ?_
    refine va_sld hC.1 hC.2.1 hX hbl hbA hM.1.2.2 (ix_in hg) dL_law_28 ?_
    refine lv_bipush hC.1 hC.2.1 dL_law_29 cb_63 ?_
    refine lv_iand hC.1 hC.2.1 dL_law_31 ?_
    generalize hz : (xs x3.toNatClampNeg &&& 63) = z at hf ⊢
    by_cases h0 : z = 0
    · have hf := o_t h0 hf
      refine lv_tableIn (off := 212) (tgt := 244) hC.1 hC.2.1 dL_law_32 (by rw [h0]; decide) (by rw [h0]; decide) (by rw [h0]; rfl) (by decide) ?_
      exact lc_0 hC hX hbl hbA hcs (fun M T x3 H locs ls => ih M T x3 H locs ls) M T x3 H locs ls hf hM hl
    have hf := o_f h0 hf
    by_cases h1 : z = 1
    · have hf := o_t h1 hf
      refine lv_tableIn (off := 265) (tgt := 297) hC.1 hC.2.1 dL_law_32 (by rw [h1]; decide) (by rw [h1]; decide) (by rw [h1]; rfl) (by decide) ?_
      exact lc_1 hC hX hbl hbA hcs (fun M T x3 H locs ls => ih M T x3 H locs ls) M T x3 H locs ls hf hM hl
    have hf := o_f h1 hf
    by_cases h2 : z = 2
    · have hf := o_t h2 hf
      refine lv_tableIn (off := 298) (tgt := 330) hC.1 hC.2.1 dL_law_32 (by rw [h2]; decide) (by rw [h2]; decide) (by rw [h2]; rfl) (by decide) ?_
      exact lc_2 hC hX hbl hbA hcs (fun M T x3 H locs ls => ih M T x3 H locs ls) M T x3 H locs ls hf hM hl
    have hf := o_f h2 hf
    by_cases h3 : z = 3
    · have hf := o_t h3 hf
      refine lv_tableIn (off := 341) (tgt := 373) hC.1 hC.2.1 dL_law_32 (by rw [h3]; decide) (by rw [h3]; decide) (by rw [h3]; rfl) (by decide) ?_
      exact lc_3 hC hX hbl hbA hcs (fun M T x3 H locs ls => ih M T x3 H locs ls) M T x3 H locs ls hf hM hl
    have hf := o_f h3 hf
    by_cases h4 : z = 4
    · have hf := o_t h4 hf
      refine lv_tableIn (off := 374) (tgt := 406) hC.1 hC.2.1 dL_law_32 (by rw [h4]; decide) (by rw [h4]; decide) (by rw [h4]; rfl) (by decide) ?_
      exact lc_4 hC hX hbl hbA hcs (fun M T x3 H locs ls => ih M T x3 H locs ls) M T x3 H locs ls hf hM hl
    have hf := o_f h4 hf
    by_cases h5 : z = 5
    · have hf := o_t h5 hf
      refine lv_tableIn (off := 423) (tgt := 455) hC.1 hC.2.1 dL_law_32 (by rw [h5]; decide) (by rw [h5]; decide) (by rw [h5]; rfl) (by decide) ?_
      exact lc_5 hC hX hbl hbA hcs (fun M T x3 H locs ls => ih M T x3 H locs ls) M T x3 H locs ls hf hM hl
    have hf := o_f h5 hf
    by_cases h6 : z = 6
    · have hf := o_t h6 hf
      refine lv_tableIn (off := 446) (tgt := 478) hC.1 hC.2.1 dL_law_32 (by rw [h6]; decide) (by rw [h6]; decide) (by rw [h6]; rfl) (by decide) ?_
      exact lc_6 hC hX hbl hbA hcs (fun M T x3 H locs ls => ih M T x3 H locs ls) M T x3 H locs ls hf hM hl
    have hf := o_f h6 hf
    by_cases h7 : z = 7
    · have hf := o_t h7 hf
      refine lv_tableIn (off := 469) (tgt := 501) hC.1 hC.2.1 dL_law_32 (by rw [h7]; decide) (by rw [h7]; decide) (by rw [h7]; rfl) (by decide) ?_
      exact lc_7 hC hX hbl hbA hcs (fun M T x3 H locs ls => ih M T x3 H locs ls) M T x3 H locs ls hf hM hl
    have hf := o_f h7 hf
    by_cases h8 : z = 8
    · have hf := o_t h8 hf
      refine lv_tableIn (off := 492) (tgt := 524) hC.1 hC.2.1 dL_law_32 (by rw [h8]; decide) (by rw [h8]; decide) (by rw [h8]; rfl) (by decide) ?_
      exact lc_8 hC hX hbl hbA hcs (fun M T x3 H locs ls => ih M T x3 H locs ls) M T x3 H locs ls hf hM hl
    have hf := o_f h8 hf
    by_cases h9 : z = 9
    · have hf := o_t h9 hf
      refine lv_tableIn (off := 555) (tgt := 587) hC.1 hC.2.1 dL_law_32 (by rw [h9]; decide) (by rw [h9]; decide) (by rw [h9]; rfl) (by decide) ?_
      exact lc_9 hC hX hbl hbA hcs (fun M T x3 H locs ls => ih M T x3 H locs ls) M T x3 H locs ls hf hM hl
    have hf := o_f h9 hf
    by_cases h10 : z = 10
    · have hf := o_t h10 hf
      refine lv_tableIn (off := 568) (tgt := 600) hC.1 hC.2.1 dL_law_32 (by rw [h10]; decide) (by rw [h10]; decide) (by rw [h10]; rfl) (by decide) ?_
      exact lc_10 hC hX hbl hbA hcs (fun M T x3 H locs ls => ih M T x3 H locs ls) M T x3 H locs ls hf hM hl
    have hf := o_f h10 hf
    by_cases h11 : z = 11
    · have hf := o_t h11 hf
      refine lv_tableIn (off := 581) (tgt := 613) hC.1 hC.2.1 dL_law_32 (by rw [h11]; decide) (by rw [h11]; decide) (by rw [h11]; rfl) (by decide) ?_
      exact lc_11 hC hX hbl hbA hcs (fun M T x3 H locs ls => ih M T x3 H locs ls) M T x3 H locs ls hf hM hl
    have hf := o_f h11 hf
    by_cases h12 : z = 12
    · have hf := o_t h12 hf
      refine lv_tableIn (off := 594) (tgt := 626) hC.1 hC.2.1 dL_law_32 (by rw [h12]; decide) (by rw [h12]; decide) (by rw [h12]; rfl) (by decide) ?_
      exact lc_12 hC hX hbl hbA hcs (fun M T x3 H locs ls => ih M T x3 H locs ls) M T x3 H locs ls hf hM hl
    have hf := o_f h12 hf
    by_cases h13 : z = 13
    · have hf := o_t h13 hf
      refine lv_tableIn (off := 617) (tgt := 649) hC.1 hC.2.1 dL_law_32 (by rw [h13]; decide) (by rw [h13]; decide) (by rw [h13]; rfl) (by decide) ?_
      exact lc_13 hC hX hbl hbA hcs (fun M T x3 H locs ls => ih M T x3 H locs ls) M T x3 H locs ls hf hM hl
    have hf := o_f h13 hf
    by_cases h14 : z = 14
    · have hf := o_t h14 hf
      refine lv_tableIn (off := 640) (tgt := 672) hC.1 hC.2.1 dL_law_32 (by rw [h14]; decide) (by rw [h14]; decide) (by rw [h14]; rfl) (by decide) ?_
      exact lc_14 hC hX hbl hbA hcs (fun M T x3 H locs ls => ih M T x3 H locs ls) M T x3 H locs ls hf hM hl
    have hf := o_f h14 hf
    by_cases h15 : z = 15
    · have hf := o_t h15 hf
      refine lv_tableIn (off := 663) (tgt := 695) hC.1 hC.2.1 dL_law_32 (by rw [h15]; decide) (by rw [h15]; decide) (by rw [h15]; rfl) (by decide) ?_
      exact lc_15 hC hX hbl hbA hcs (fun M T x3 H locs ls => ih M T x3 H locs ls) M T x3 H locs ls hf hM hl
    have hf := o_f h15 hf
    by_cases h16 : z = 16
    · have hf := o_t h16 hf
      refine lv_tableIn (off := 686) (tgt := 718) hC.1 hC.2.1 dL_law_32 (by rw [h16]; decide) (by rw [h16]; decide) (by rw [h16]; rfl) (by decide) ?_
      exact lc_16 hC hX hbl hbA hcs (fun M T x3 H locs ls => ih M T x3 H locs ls) M T x3 H locs ls hf hM hl
    have hf := o_f h16 hf
    by_cases h17 : z = 17
    · have hf := o_t h17 hf
      refine lv_tableIn (off := 709) (tgt := 741) hC.1 hC.2.1 dL_law_32 (by rw [h17]; decide) (by rw [h17]; decide) (by rw [h17]; rfl) (by decide) ?_
      exact lc_17 hC hX hbl hbA hcs (fun M T x3 H locs ls => ih M T x3 H locs ls) M T x3 H locs ls hf hM hl
    have hf := o_f h17 hf
    by_cases h18 : z = 18
    · have hf := o_t h18 hf
      refine lv_tableIn (off := 722) (tgt := 754) hC.1 hC.2.1 dL_law_32 (by rw [h18]; decide) (by rw [h18]; decide) (by rw [h18]; rfl) (by decide) ?_
      exact lc_18 hC hX hbl hbA hcs (fun M T x3 H locs ls => ih M T x3 H locs ls) M T x3 H locs ls hf hM hl
    have hf := o_f h18 hf
    by_cases h19 : z = 19
    · have hf := o_t h19 hf
      refine lv_tableIn (off := 745) (tgt := 777) hC.1 hC.2.1 dL_law_32 (by rw [h19]; decide) (by rw [h19]; decide) (by rw [h19]; rfl) (by decide) ?_
      exact lc_19 hC hX hbl hbA hcs (fun M T x3 H locs ls => ih M T x3 H locs ls) M T x3 H locs ls hf hM hl
    have hf := o_f h19 hf
    by_cases h20 : z = 20
    · have hf := o_t h20 hf
      refine lv_tableIn (off := 768) (tgt := 800) hC.1 hC.2.1 dL_law_32 (by rw [h20]; decide) (by rw [h20]; decide) (by rw [h20]; rfl) (by decide) ?_
      exact lc_20 hC hX hbl hbA hcs (fun M T x3 H locs ls => ih M T x3 H locs ls) M T x3 H locs ls hf hM hl
    have hf := o_f h20 hf
    by_cases h21 : z = 21
    · have hf := o_t h21 hf
      refine lv_tableIn (off := 801) (tgt := 833) hC.1 hC.2.1 dL_law_32 (by rw [h21]; decide) (by rw [h21]; decide) (by rw [h21]; rfl) (by decide) ?_
      exact lc_21 hC hX hbl hbA hcs (fun M T x3 H locs ls => ih M T x3 H locs ls) M T x3 H locs ls hf hM hl
    have hf := o_f h21 hf
    by_cases h22 : z = 22
    · have hf := o_t h22 hf
      refine lv_tableIn (off := 834) (tgt := 866) hC.1 hC.2.1 dL_law_32 (by rw [h22]; decide) (by rw [h22]; decide) (by rw [h22]; rfl) (by decide) ?_
      exact lc_22 hC hX hbl hbA hcs (fun M T x3 H locs ls => ih M T x3 H locs ls) M T x3 H locs ls hf hM hl
    have hf := o_f h22 hf
    by_cases h23 : z = 23
    · have hf := o_t h23 hf
      refine lv_tableIn (off := 857) (tgt := 889) hC.1 hC.2.1 dL_law_32 (by rw [h23]; decide) (by rw [h23]; decide) (by rw [h23]; rfl) (by decide) ?_
      exact lc_23 hC hX hbl hbA hcs (fun M T x3 H locs ls => ih M T x3 H locs ls) M T x3 H locs ls hf hM hl
    have hf := o_f h23 hf
    by_cases h24 : z = 24
    · have hf := o_t h24 hf
      refine lv_tableIn (off := 890) (tgt := 922) hC.1 hC.2.1 dL_law_32 (by rw [h24]; decide) (by rw [h24]; decide) (by rw [h24]; rfl) (by decide) ?_
      exact lc_24 hC hX hbl hbA hcs (fun M T x3 H locs ls => ih M T x3 H locs ls) M T x3 H locs ls hf hM hl
    have hf := o_f h24 hf
    by_cases h25 : z = 25
    · have hf := o_t h25 hf
      refine lv_tableIn (off := 913) (tgt := 945) hC.1 hC.2.1 dL_law_32 (by rw [h25]; decide) (by rw [h25]; decide) (by rw [h25]; rfl) (by decide) ?_
      exact lc_25 hC hX hbl hbA hcs (fun M T x3 H locs ls => ih M T x3 H locs ls) M T x3 H locs ls hf hM hl
    have hf := o_f h25 hf
    by_cases h26 : z = 26
    · have hf := o_t h26 hf
      refine lv_tableIn (off := 936) (tgt := 968) hC.1 hC.2.1 dL_law_32 (by rw [h26]; decide) (by rw [h26]; decide) (by rw [h26]; rfl) (by decide) ?_
      exact lc_26 hC hX hbl hbA hcs (fun M T x3 H locs ls => ih M T x3 H locs ls) M T x3 H locs ls hf hM hl
    have hf := o_f h26 hf
    by_cases h27 : z = 27
    · have hf := o_t h27 hf
      refine lv_tableIn (off := 969) (tgt := 1001) hC.1 hC.2.1 dL_law_32 (by rw [h27]; decide) (by rw [h27]; decide) (by rw [h27]; rfl) (by decide) ?_
      exact lc_27 hC hX hbl hbA hcs (fun M T x3 H locs ls => ih M T x3 H locs ls) M T x3 H locs ls hf hM hl
    have hf := o_f h27 hf
    by_cases h28 : z = 28
    · have hf := o_t h28 hf
      refine lv_tableIn (off := 982) (tgt := 1014) hC.1 hC.2.1 dL_law_32 (by rw [h28]; decide) (by rw [h28]; decide) (by rw [h28]; rfl) (by decide) ?_
      exact lc_28 hC hX hbl hbA hcs (fun M T x3 H locs ls => ih M T x3 H locs ls) M T x3 H locs ls hf hM hl
    have hf := o_f h28 hf
    by_cases h29 : z = 29
    · have hf := o_t h29 hf
      refine lv_tableIn (off := 1005) (tgt := 1037) hC.1 hC.2.1 dL_law_32 (by rw [h29]; decide) (by rw [h29]; decide) (by rw [h29]; rfl) (by decide) ?_
      exact lc_29 hC hX hbl hbA hcs (fun M T x3 H locs ls => ih M T x3 H locs ls) M T x3 H locs ls hf hM hl
    have hf := o_f h29 hf
    by_cases h30 : z = 30
    · have hf := o_t h30 hf
      refine lv_tableIn (off := 1018) (tgt := 1050) hC.1 hC.2.1 dL_law_32 (by rw [h30]; decide) (by rw [h30]; decide) (by rw [h30]; rfl) (by decide) ?_
      exact lc_30 hC hX hbl hbA hcs (fun M T x3 H locs ls => ih M T x3 H locs ls) M T x3 H locs ls hf hM hl
    have hf := o_f h30 hf
    by_cases h31 : z = 31
    · have hf := o_t h31 hf
      refine lv_tableIn (off := 1041) (tgt := 1073) hC.1 hC.2.1 dL_law_32 (by rw [h31]; decide) (by rw [h31]; decide) (by rw [h31]; rfl) (by decide) ?_
      exact lc_31 hC hX hbl hbA hcs (fun M T x3 H locs ls => ih M T x3 H locs ls) M T x3 H locs ls hf hM hl
    have hf := o_f h31 hf
    by_cases h32 : z = 32
    · have hf := o_t h32 hf
      refine lv_tableIn (off := 1054) (tgt := 1086) hC.1 hC.2.1 dL_law_32 (by rw [h32]; decide) (by rw [h32]; decide) (by rw [h32]; rfl) (by decide) ?_
      exact lc_32 hC hX hbl hbA hcs (fun M T x3 H locs ls => ih M T x3 H locs ls) M T x3 H locs ls hf hM hl
    have hf := o_f h32 hf
    by_cases h33 : z = 33
    · have hf := o_t h33 hf
      refine lv_tableIn (off := 1087) (tgt := 1119) hC.1 hC.2.1 dL_law_32 (by rw [h33]; decide) (by rw [h33]; decide) (by rw [h33]; rfl) (by decide) ?_
      exact lc_33 hC hX hbl hbA hcs (fun M T x3 H locs ls => ih M T x3 H locs ls) M T x3 H locs ls hf hM hl
    have hf := o_f h33 hf
    by_cases h34 : z = 34
    · have hf := o_t h34 hf
      refine lv_tableIn (off := 1110) (tgt := 1142) hC.1 hC.2.1 dL_law_32 (by rw [h34]; decide) (by rw [h34]; decide) (by rw [h34]; rfl) (by decide) ?_
      exact lc_34 hC hX hbl hbA hcs (fun M T x3 H locs ls => ih M T x3 H locs ls) M T x3 H locs ls hf hM hl
    have hf := o_f h34 hf
    by_cases h35 : z = 35
    · have hf := o_t h35 hf
      refine lv_tableIn (off := 1143) (tgt := 1175) hC.1 hC.2.1 dL_law_32 (by rw [h35]; decide) (by rw [h35]; decide) (by rw [h35]; rfl) (by decide) ?_
      exact lc_35 hC hX hbl hbA hcs (fun M T x3 H locs ls => ih M T x3 H locs ls) M T x3 H locs ls hf hM hl
    have hf := o_f h35 hf
    by_cases h36 : z = 36
    · have hf := o_t h36 hf
      refine lv_tableIn (off := 1186) (tgt := 1218) hC.1 hC.2.1 dL_law_32 (by rw [h36]; decide) (by rw [h36]; decide) (by rw [h36]; rfl) (by decide) ?_
      exact lc_36 hC hX hbl hbA hcs (fun M T x3 H locs ls => ih M T x3 H locs ls) M T x3 H locs ls hf hM hl
    have hf := o_f h36 hf
    by_cases h37 : z = 37
    · have hf := o_t h37 hf
      refine lv_tableIn (off := 1209) (tgt := 1241) hC.1 hC.2.1 dL_law_32 (by rw [h37]; decide) (by rw [h37]; decide) (by rw [h37]; rfl) (by decide) ?_
      exact lc_37 hC hX hbl hbA hcs (fun M T x3 H locs ls => ih M T x3 H locs ls) M T x3 H locs ls hf hM hl
    have hf := o_f h37 hf
    by_cases h38 : z = 38
    · have hf := o_t h38 hf
      refine lv_tableIn (off := 1252) (tgt := 1284) hC.1 hC.2.1 dL_law_32 (by rw [h38]; decide) (by rw [h38]; decide) (by rw [h38]; rfl) (by decide) ?_
      exact lc_38 hC hX hbl hbA hcs (fun M T x3 H locs ls => ih M T x3 H locs ls) M T x3 H locs ls hf hM hl
    have hf := o_f h38 hf
    by_cases h39 : z = 39
    · have hf := o_t h39 hf
      refine lv_tableIn (off := 1295) (tgt := 1327) hC.1 hC.2.1 dL_law_32 (by rw [h39]; decide) (by rw [h39]; decide) (by rw [h39]; rfl) (by decide) ?_
      exact lc_39 hC hX hbl hbA hcs (fun M T x3 H locs ls => ih M T x3 H locs ls) M T x3 H locs ls hf hM hl
    have hf := o_f h39 hf
    by_cases h40 : z = 40
    · have hf := o_t h40 hf
      refine lv_tableIn (off := 1338) (tgt := 1370) hC.1 hC.2.1 dL_law_32 (by rw [h40]; decide) (by rw [h40]; decide) (by rw [h40]; rfl) (by decide) ?_
      exact lc_40 hC hX hbl hbA hcs (fun M T x3 H locs ls => ih M T x3 H locs ls) M T x3 H locs ls hf hM hl
    have hf := o_f h40 hf
    by_cases h41 : z = 41
    · have hf := o_t h41 hf
      refine lv_tableIn (off := 1381) (tgt := 1413) hC.1 hC.2.1 dL_law_32 (by rw [h41]; decide) (by rw [h41]; decide) (by rw [h41]; rfl) (by decide) ?_
      exact lc_41 hC hX hbl hbA hcs (fun M T x3 H locs ls => ih M T x3 H locs ls) M T x3 H locs ls hf hM hl
    have hf := o_f h41 hf
    by_cases h42 : z = 42
    · have hf := o_t h42 hf
      refine lv_tableIn (off := 1424) (tgt := 1456) hC.1 hC.2.1 dL_law_32 (by rw [h42]; decide) (by rw [h42]; decide) (by rw [h42]; rfl) (by decide) ?_
      exact lc_42 hC hX hbl hbA hcs (fun M T x3 H locs ls => ih M T x3 H locs ls) M T x3 H locs ls hf hM hl
    have hf := o_f h42 hf
    by_cases h43 : z = 43
    · have hf := o_t h43 hf
      refine lv_tableIn (off := 1467) (tgt := 1499) hC.1 hC.2.1 dL_law_32 (by rw [h43]; decide) (by rw [h43]; decide) (by rw [h43]; rfl) (by decide) ?_
      exact lc_43 hC hX hbl hbA hcs (fun M T x3 H locs ls => ih M T x3 H locs ls) M T x3 H locs ls hf hM hl
    have hf := o_f h43 hf
    by_cases h44 : z = 44
    · have hf := o_t h44 hf
      refine lv_tableIn (off := 1500) (tgt := 1532) hC.1 hC.2.1 dL_law_32 (by rw [h44]; decide) (by rw [h44]; decide) (by rw [h44]; rfl) (by decide) ?_
      exact lc_44 hC hX hbl hbA hcs (fun M T x3 H locs ls => ih M T x3 H locs ls) M T x3 H locs ls hf hM hl
    have hf := o_f h44 hf
    by_cases h45 : z = 45
    · have hf := o_t h45 hf
      refine lv_tableIn (off := 1543) (tgt := 1575) hC.1 hC.2.1 dL_law_32 (by rw [h45]; decide) (by rw [h45]; decide) (by rw [h45]; rfl) (by decide) ?_
      exact lc_45 hC hX hbl hbA hcs (fun M T x3 H locs ls => ih M T x3 H locs ls) M T x3 H locs ls hf hM hl
    have hf := o_f h45 hf
    by_cases h46 : z = 46
    · have hf := o_t h46 hf
      refine lv_tableIn (off := 1566) (tgt := 1598) hC.1 hC.2.1 dL_law_32 (by rw [h46]; decide) (by rw [h46]; decide) (by rw [h46]; rfl) (by decide) ?_
      exact lc_46 hC hX hbl hbA hcs (fun M T x3 H locs ls => ih M T x3 H locs ls) M T x3 H locs ls hf hM hl
    have hf := o_f h46 hf
    by_cases h47 : z = 47
    · have hf := o_t h47 hf
      refine lv_tableIn (off := 1589) (tgt := 1621) hC.1 hC.2.1 dL_law_32 (by rw [h47]; decide) (by rw [h47]; decide) (by rw [h47]; rfl) (by decide) ?_
      exact lc_47 hC hX hbl hbA hcs (fun M T x3 H locs ls => ih M T x3 H locs ls) M T x3 H locs ls hf hM hl
    have hf := o_f h47 hf
    by_cases h48 : z = 48
    · have hf := o_t h48 hf
      refine lv_tableIn (off := 1602) (tgt := 1634) hC.1 hC.2.1 dL_law_32 (by rw [h48]; decide) (by rw [h48]; decide) (by rw [h48]; rfl) (by decide) ?_
      exact lc_48 hC hX hbl hbA hcs (fun M T x3 H locs ls => ih M T x3 H locs ls) M T x3 H locs ls hf hM hl
    have hf := o_f h48 hf
    have h0 := sw_ne (k := 0) (v := 0) rfl h0
    have h1 := sw_ne (k := 1) (v := 1) rfl h1
    have h2 := sw_ne (k := 2) (v := 2) rfl h2
    have h3 := sw_ne (k := 3) (v := 3) rfl h3
    have h4 := sw_ne (k := 4) (v := 4) rfl h4
    have h5 := sw_ne (k := 5) (v := 5) rfl h5
    have h6 := sw_ne (k := 6) (v := 6) rfl h6
    have h7 := sw_ne (k := 7) (v := 7) rfl h7
    have h8 := sw_ne (k := 8) (v := 8) rfl h8
    have h9 := sw_ne (k := 9) (v := 9) rfl h9
    have h10 := sw_ne (k := 10) (v := 10) rfl h10
    have h11 := sw_ne (k := 11) (v := 11) rfl h11
    have h12 := sw_ne (k := 12) (v := 12) rfl h12
    have h13 := sw_ne (k := 13) (v := 13) rfl h13
    have h14 := sw_ne (k := 14) (v := 14) rfl h14
    have h15 := sw_ne (k := 15) (v := 15) rfl h15
    have h16 := sw_ne (k := 16) (v := 16) rfl h16
    have h17 := sw_ne (k := 17) (v := 17) rfl h17
    have h18 := sw_ne (k := 18) (v := 18) rfl h18
    have h19 := sw_ne (k := 19) (v := 19) rfl h19
    have h20 := sw_ne (k := 20) (v := 20) rfl h20
    have h21 := sw_ne (k := 21) (v := 21) rfl h21
    have h22 := sw_ne (k := 22) (v := 22) rfl h22
    have h23 := sw_ne (k := 23) (v := 23) rfl h23
    have h24 := sw_ne (k := 24) (v := 24) rfl h24
    have h25 := sw_ne (k := 25) (v := 25) rfl h25
    have h26 := sw_ne (k := 26) (v := 26) rfl h26
    have h27 := sw_ne (k := 27) (v := 27) rfl h27
    have h28 := sw_ne (k := 28) (v := 28) rfl h28
    have h29 := sw_ne (k := 29) (v := 29) rfl h29
    have h30 := sw_ne (k := 30) (v := 30) rfl h30
    have h31 := sw_ne (k := 31) (v := 31) rfl h31
    have h32 := sw_ne (k := 32) (v := 32) rfl h32
    have h33 := sw_ne (k := 33) (v := 33) rfl h33
    have h34 := sw_ne (k := 34) (v := 34) rfl h34
    have h35 := sw_ne (k := 35) (v := 35) rfl h35
    have h36 := sw_ne (k := 36) (v := 36) rfl h36
    have h37 := sw_ne (k := 37) (v := 37) rfl h37
    have h38 := sw_ne (k := 38) (v := 38) rfl h38
    have h39 := sw_ne (k := 39) (v := 39) rfl h39
    have h40 := sw_ne (k := 40) (v := 40) rfl h40
    have h41 := sw_ne (k := 41) (v := 41) rfl h41
    have h42 := sw_ne (k := 42) (v := 42) rfl h42
    have h43 := sw_ne (k := 43) (v := 43) rfl h43
    have h44 := sw_ne (k := 44) (v := 44) rfl h44
    have h45 := sw_ne (k := 45) (v := 45) rfl h45
    have h46 := sw_ne (k := 46) (v := 46) rfl h46
    have h47 := sw_ne (k := 47) (v := 47) rfl h47
    have h48 := sw_ne (k := 48) (v := 48) rfl h48
    refine lv_tableOut (tgt := 1647) hC.1 hC.2.1 dL_law_32 (by omega) (by decide) ?_
    exact lc_d hC hX hbl hbA hcs (fun M T x3 H locs ls => ih M T x3 H locs ls) M T x3 H locs ls hf hM hl
