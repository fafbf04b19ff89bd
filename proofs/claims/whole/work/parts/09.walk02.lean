set_option maxHeartbeats 4000000 in
set_option maxRecDepth 100000 in
theorem mcX5_nameAt (V : mV) (l : Launch) (M : mM) (p1 : Int32) (p2 : Int32) (r : Int32) (hf : fX5_nameAt M p1 p2 = some r) : IC V l yX5_nameAt cX5_nameAt 3 ({ frames := 10, cells := 0, slots := 0, locals := 325 } : Room) [.ref (mvA V 33), .int p1, .int p2] M r M := by
  unfold fX5_nameAt at hf
  refine mw_enterI RX5 rfl (by decide +kernel) (Nat.le_of_ble_eq_true rfl) (fun {p e s m args below meth c} ls A Q hC hret hM hl => ?_)
  have hl : lv_has ls 3 [(0, .ref (mvA V 33)), (1, .int p1), (2, .int p2)] := hl
  refine lv_aload_n hC.1 hC.2.1 dX5_nameAt_0 rfl (lv_at hl 0 rfl) ?_
  refine lv_iload_n hC.1 hC.2.1 dX5_nameAt_1 rfl (lv_at hl 1 rfl) ?_
  refine lv_iload_n hC.1 hC.2.1 dX5_nameAt_2 rfl (lv_at hl 2 rfl) ?_
  refine va_ldcS (own := RX5) (index := 81) (tx := "voter") (q := mvK V 0) hC.1 hC.2.1 hC.2.2.2.1 (st_0 hC) dX5_nameAt_3 ?_
  obtain ⟨r1, hq2, hf⟩ := o_b hf
  refine mw_cVi (As := [.int p1, .int p2, .ref (mvK V 0)]) (rest := []) hC hM (mcX5_spells V l M p1 p2 0 r1 hq2) (mw_kV hC q_596 q_598 q_8 q_111 q_599 ⟨rfl, rfl⟩ kV_X5_spells ⟨Nat.le_of_ble_eq_true rfl, Nat.le_of_ble_eq_true rfl⟩) (Nat.le_of_ble_eq_true rfl) (eC_33 V) rfl rfl rfl (Nat.le_of_ble_eq_true rfl) hl.1 dX5_nameAt_5 (fun H locs hM hb3 => ?_)
  refine lv_if_eq (tgt := 15) hC.1 hC.2.1 dX5_nameAt_8 (by decide) (fun hc72 => ?_) (fun hc72 => ?_)
  · have hf := o_t hc72 hf
    refine lv_aload_n hC.1 hC.2.1 dX5_nameAt_15 rfl (lv_at hl 0 rfl) ?_
    refine lv_iload_n hC.1 hC.2.1 dX5_nameAt_16 rfl (lv_at hl 1 rfl) ?_
    refine lv_iload_n hC.1 hC.2.1 dX5_nameAt_17 rfl (lv_at hl 2 rfl) ?_
    refine va_ldcS (own := RX5) (index := 87) (tx := "lover") (q := mvK V 1) hC.1 hC.2.1 hC.2.2.2.1 (st_1 hC) dX5_nameAt_18 ?_
    obtain ⟨r4, hq5, hf⟩ := o_b hf
    refine mw_cVi (As := [.int p1, .int p2, .ref (mvK V 1)]) (rest := []) hC hM (mcX5_spells V l M p1 p2 1 r4 hq5) (mw_kV hC q_596 q_598 q_8 q_111 q_599 ⟨rfl, rfl⟩ kV_X5_spells ⟨Nat.le_of_ble_eq_true rfl, Nat.le_of_ble_eq_true rfl⟩) (Nat.le_of_ble_eq_true rfl) (eC_33 V) rfl rfl rfl (Nat.le_of_ble_eq_true rfl) hl.1 dX5_nameAt_20 (fun H locs hM hb6 => ?_)
    refine lv_if_eq (tgt := 30) hC.1 hC.2.1 dX5_nameAt_23 (by decide) (fun hc71 => ?_) (fun hc71 => ?_)
    · have hf := o_t hc71 hf
      refine lv_aload_n hC.1 hC.2.1 dX5_nameAt_30 rfl (lv_at hl 0 rfl) ?_
      refine lv_iload_n hC.1 hC.2.1 dX5_nameAt_31 rfl (lv_at hl 1 rfl) ?_
      refine lv_iload_n hC.1 hC.2.1 dX5_nameAt_32 rfl (lv_at hl 2 rfl) ?_
      refine va_ldcS (own := RX5) (index := 89) (tx := "debtor") (q := mvK V 2) hC.1 hC.2.1 hC.2.2.2.1 (st_2 hC) dX5_nameAt_33 ?_
      obtain ⟨r7, hq8, hf⟩ := o_b hf
      refine mw_cVi (As := [.int p1, .int p2, .ref (mvK V 2)]) (rest := []) hC hM (mcX5_spells V l M p1 p2 2 r7 hq8) (mw_kV hC q_596 q_598 q_8 q_111 q_599 ⟨rfl, rfl⟩ kV_X5_spells ⟨Nat.le_of_ble_eq_true rfl, Nat.le_of_ble_eq_true rfl⟩) (Nat.le_of_ble_eq_true rfl) (eC_33 V) rfl rfl rfl (Nat.le_of_ble_eq_true rfl) hl.1 dX5_nameAt_35 (fun H locs hM hb9 => ?_)
      refine lv_if_eq (tgt := 45) hC.1 hC.2.1 dX5_nameAt_38 (by decide) (fun hc70 => ?_) (fun hc70 => ?_)
      · have hf := o_t hc70 hf
        refine lv_aload_n hC.1 hC.2.1 dX5_nameAt_45 rfl (lv_at hl 0 rfl) ?_
        refine lv_iload_n hC.1 hC.2.1 dX5_nameAt_46 rfl (lv_at hl 1 rfl) ?_
        refine lv_iload_n hC.1 hC.2.1 dX5_nameAt_47 rfl (lv_at hl 2 rfl) ?_
        refine va_ldcS (own := RX5) (index := 91) (tx := "shift") (q := mvK V 3) hC.1 hC.2.1 hC.2.2.2.1 (st_3 hC) dX5_nameAt_48 ?_
        obtain ⟨r10, hq11, hf⟩ := o_b hf
        refine mw_cVi (As := [.int p1, .int p2, .ref (mvK V 3)]) (rest := []) hC hM (mcX5_spells V l M p1 p2 3 r10 hq11) (mw_kV hC q_596 q_598 q_8 q_111 q_599 ⟨rfl, rfl⟩ kV_X5_spells ⟨Nat.le_of_ble_eq_true rfl, Nat.le_of_ble_eq_true rfl⟩) (Nat.le_of_ble_eq_true rfl) (eC_33 V) rfl rfl rfl (Nat.le_of_ble_eq_true rfl) hl.1 dX5_nameAt_50 (fun H locs hM hb12 => ?_)
        refine lv_if_eq (tgt := 60) hC.1 hC.2.1 dX5_nameAt_53 (by decide) (fun hc69 => ?_) (fun hc69 => ?_)
        · have hf := o_t hc69 hf
          refine lv_aload_n hC.1 hC.2.1 dX5_nameAt_60 rfl (lv_at hl 0 rfl) ?_
          refine lv_iload_n hC.1 hC.2.1 dX5_nameAt_61 rfl (lv_at hl 1 rfl) ?_
          refine lv_iload_n hC.1 hC.2.1 dX5_nameAt_62 rfl (lv_at hl 2 rfl) ?_
          refine va_ldcS (own := RX5) (index := 93) (tx := "baker") (q := mvK V 4) hC.1 hC.2.1 hC.2.2.2.1 (st_4 hC) dX5_nameAt_63 ?_
          obtain ⟨r13, hq14, hf⟩ := o_b hf
          refine mw_cVi (As := [.int p1, .int p2, .ref (mvK V 4)]) (rest := []) hC hM (mcX5_spells V l M p1 p2 4 r13 hq14) (mw_kV hC q_596 q_598 q_8 q_111 q_599 ⟨rfl, rfl⟩ kV_X5_spells ⟨Nat.le_of_ble_eq_true rfl, Nat.le_of_ble_eq_true rfl⟩) (Nat.le_of_ble_eq_true rfl) (eC_33 V) rfl rfl rfl (Nat.le_of_ble_eq_true rfl) hl.1 dX5_nameAt_65 (fun H locs hM hb15 => ?_)
          refine lv_if_eq (tgt := 75) hC.1 hC.2.1 dX5_nameAt_68 (by decide) (fun hc68 => ?_) (fun hc68 => ?_)
          · have hf := o_t hc68 hf
            refine lv_aload_n hC.1 hC.2.1 dX5_nameAt_75 rfl (lv_at hl 0 rfl) ?_
            refine lv_iload_n hC.1 hC.2.1 dX5_nameAt_76 rfl (lv_at hl 1 rfl) ?_
            refine lv_iload_n hC.1 hC.2.1 dX5_nameAt_77 rfl (lv_at hl 2 rfl) ?_
            refine va_ldcS (own := RX5) (index := 95) (tx := "sleeper") (q := mvK V 5) hC.1 hC.2.1 hC.2.2.2.1 (st_5 hC) dX5_nameAt_78 ?_
            obtain ⟨r16, hq17, hf⟩ := o_b hf
            refine mw_cVi (As := [.int p1, .int p2, .ref (mvK V 5)]) (rest := []) hC hM (mcX5_spells V l M p1 p2 5 r16 hq17) (mw_kV hC q_596 q_598 q_8 q_111 q_599 ⟨rfl, rfl⟩ kV_X5_spells ⟨Nat.le_of_ble_eq_true rfl, Nat.le_of_ble_eq_true rfl⟩) (Nat.le_of_ble_eq_true rfl) (eC_33 V) rfl rfl rfl (Nat.le_of_ble_eq_true rfl) hl.1 dX5_nameAt_80 (fun H locs hM hb18 => ?_)
            refine lv_if_eq (tgt := 90) hC.1 hC.2.1 dX5_nameAt_83 (by decide) (fun hc67 => ?_) (fun hc67 => ?_)
            · have hf := o_t hc67 hf
              refine lv_aload_n hC.1 hC.2.1 dX5_nameAt_90 rfl (lv_at hl 0 rfl) ?_
              refine lv_iload_n hC.1 hC.2.1 dX5_nameAt_91 rfl (lv_at hl 1 rfl) ?_
              refine lv_iload_n hC.1 hC.2.1 dX5_nameAt_92 rfl (lv_at hl 2 rfl) ?_
              refine va_ldcS (own := RX5) (index := 97) (tx := "hour") (q := mvK V 6) hC.1 hC.2.1 hC.2.2.2.1 (st_6 hC) dX5_nameAt_93 ?_
              obtain ⟨r19, hq20, hf⟩ := o_b hf
              refine mw_cVi (As := [.int p1, .int p2, .ref (mvK V 6)]) (rest := []) hC hM (mcX5_spells V l M p1 p2 6 r19 hq20) (mw_kV hC q_596 q_598 q_8 q_111 q_599 ⟨rfl, rfl⟩ kV_X5_spells ⟨Nat.le_of_ble_eq_true rfl, Nat.le_of_ble_eq_true rfl⟩) (Nat.le_of_ble_eq_true rfl) (eC_33 V) rfl rfl rfl (Nat.le_of_ble_eq_true rfl) hl.1 dX5_nameAt_95 (fun H locs hM hb21 => ?_)
              refine lv_if_eq (tgt := 106) hC.1 hC.2.1 dX5_nameAt_98 (by decide) (fun hc66 => ?_) (fun hc66 => ?_)
              · have hf := o_t hc66 hf
                refine lv_aload_n hC.1 hC.2.1 dX5_nameAt_106 rfl (lv_at hl 0 rfl) ?_
                refine lv_iload_n hC.1 hC.2.1 dX5_nameAt_107 rfl (lv_at hl 1 rfl) ?_
                refine lv_iload_n hC.1 hC.2.1 dX5_nameAt_108 rfl (lv_at hl 2 rfl) ?_
                refine va_ldcS (own := RX5) (index := 99) (tx := "want") (q := mvK V 7) hC.1 hC.2.1 hC.2.2.2.1 (st_7 hC) dX5_nameAt_109 ?_
                obtain ⟨r22, hq23, hf⟩ := o_b hf
                refine mw_cVi (As := [.int p1, .int p2, .ref (mvK V 7)]) (rest := []) hC hM (mcX5_spells V l M p1 p2 7 r22 hq23) (mw_kV hC q_596 q_598 q_8 q_111 q_599 ⟨rfl, rfl⟩ kV_X5_spells ⟨Nat.le_of_ble_eq_true rfl, Nat.le_of_ble_eq_true rfl⟩) (Nat.le_of_ble_eq_true rfl) (eC_33 V) rfl rfl rfl (Nat.le_of_ble_eq_true rfl) hl.1 dX5_nameAt_111 (fun H locs hM hb24 => ?_)
                refine lv_if_eq (tgt := 122) hC.1 hC.2.1 dX5_nameAt_114 (by decide) (fun hc65 => ?_) (fun hc65 => ?_)
                · have hf := o_t hc65 hf
                  refine lv_aload_n hC.1 hC.2.1 dX5_nameAt_122 rfl (lv_at hl 0 rfl) ?_
                  refine lv_iload_n hC.1 hC.2.1 dX5_nameAt_123 rfl (lv_at hl 1 rfl) ?_
                  refine lv_iload_n hC.1 hC.2.1 dX5_nameAt_124 rfl (lv_at hl 2 rfl) ?_
                  refine va_ldcS (own := RX5) (index := 101) (tx := "weight") (q := mvK V 8) hC.1 hC.2.1 hC.2.2.2.1 (st_8 hC) dX5_nameAt_125 ?_
                  obtain ⟨r25, hq26, hf⟩ := o_b hf
                  refine mw_cVi (As := [.int p1, .int p2, .ref (mvK V 8)]) (rest := []) hC hM (mcX5_spells V l M p1 p2 8 r25 hq26) (mw_kV hC q_596 q_598 q_8 q_111 q_599 ⟨rfl, rfl⟩ kV_X5_spells ⟨Nat.le_of_ble_eq_true rfl, Nat.le_of_ble_eq_true rfl⟩) (Nat.le_of_ble_eq_true rfl) (eC_33 V) rfl rfl rfl (Nat.le_of_ble_eq_true rfl) hl.1 dX5_nameAt_127 (fun H locs hM hb27 => ?_)
                  refine lv_if_eq (tgt := 138) hC.1 hC.2.1 dX5_nameAt_130 (by decide) (fun hc64 => ?_) (fun hc64 => ?_)
                  · have hf := o_t hc64 hf
                    refine lv_aload_n hC.1 hC.2.1 dX5_nameAt_138 rfl (lv_at hl 0 rfl) ?_
                    refine lv_iload_n hC.1 hC.2.1 dX5_nameAt_139 rfl (lv_at hl 1 rfl) ?_
                    refine lv_iload_n hC.1 hC.2.1 dX5_nameAt_140 rfl (lv_at hl 2 rfl) ?_
                    refine va_ldcS (own := RX5) (index := 103) (tx := "awake") (q := mvK V 9) hC.1 hC.2.1 hC.2.2.2.1 (st_9 hC) dX5_nameAt_141 ?_
                    obtain ⟨r28, hq29, hf⟩ := o_b hf
                    refine mw_cVi (As := [.int p1, .int p2, .ref (mvK V 9)]) (rest := []) hC hM (mcX5_spells V l M p1 p2 9 r28 hq29) (mw_kV hC q_596 q_598 q_8 q_111 q_599 ⟨rfl, rfl⟩ kV_X5_spells ⟨Nat.le_of_ble_eq_true rfl, Nat.le_of_ble_eq_true rfl⟩) (Nat.le_of_ble_eq_true rfl) (eC_33 V) rfl rfl rfl (Nat.le_of_ble_eq_true rfl) hl.1 dX5_nameAt_143 (fun H locs hM hb30 => ?_)
                    refine lv_if_eq (tgt := 154) hC.1 hC.2.1 dX5_nameAt_146 (by decide) (fun hc63 => ?_) (fun hc63 => ?_)
                    · have hf := o_t hc63 hf
                      refine lv_aload_n hC.1 hC.2.1 dX5_nameAt_154 rfl (lv_at hl 0 rfl) ?_
                      refine lv_iload_n hC.1 hC.2.1 dX5_nameAt_155 rfl (lv_at hl 1 rfl) ?_
                      refine lv_iload_n hC.1 hC.2.1 dX5_nameAt_156 rfl (lv_at hl 2 rfl) ?_
                      refine va_ldcS (own := RX5) (index := 105) (tx := "number") (q := mvK V 10) hC.1 hC.2.1 hC.2.2.2.1 (st_10 hC) dX5_nameAt_157 ?_
                      obtain ⟨r31, hq32, hf⟩ := o_b hf
                      refine mw_cVi (As := [.int p1, .int p2, .ref (mvK V 10)]) (rest := []) hC hM (mcX5_spells V l M p1 p2 10 r31 hq32) (mw_kV hC q_596 q_598 q_8 q_111 q_599 ⟨rfl, rfl⟩ kV_X5_spells ⟨Nat.le_of_ble_eq_true rfl, Nat.le_of_ble_eq_true rfl⟩) (Nat.le_of_ble_eq_true rfl) (eC_33 V) rfl rfl rfl (Nat.le_of_ble_eq_true rfl) hl.1 dX5_nameAt_159 (fun H locs hM hb33 => ?_)
                      refine lv_if_eq (tgt := 170) hC.1 hC.2.1 dX5_nameAt_162 (by decide) (fun hc62 => ?_) (fun hc62 => ?_)
                      · have hf := o_t hc62 hf
                        refine lv_aload_n hC.1 hC.2.1 dX5_nameAt_170 rfl (lv_at hl 0 rfl) ?_
                        refine lv_iload_n hC.1 hC.2.1 dX5_nameAt_171 rfl (lv_at hl 1 rfl) ?_
                        refine lv_iload_n hC.1 hC.2.1 dX5_nameAt_172 rfl (lv_at hl 2 rfl) ?_
                        refine va_ldcS (own := RX5) (index := 107) (tx := "if") (q := mvK V 11) hC.1 hC.2.1 hC.2.2.2.1 (st_11 hC) dX5_nameAt_173 ?_
                        obtain ⟨r34, hq35, hf⟩ := o_b hf
                        refine mw_cVi (As := [.int p1, .int p2, .ref (mvK V 11)]) (rest := []) hC hM (mcX5_spells V l M p1 p2 11 r34 hq35) (mw_kV hC q_596 q_598 q_8 q_111 q_599 ⟨rfl, rfl⟩ kV_X5_spells ⟨Nat.le_of_ble_eq_true rfl, Nat.le_of_ble_eq_true rfl⟩) (Nat.le_of_ble_eq_true rfl) (eC_33 V) rfl rfl rfl (Nat.le_of_ble_eq_true rfl) hl.1 dX5_nameAt_175 (fun H locs hM hb36 => ?_)
                        refine lv_if_eq (tgt := 186) hC.1 hC.2.1 dX5_nameAt_178 (by decide) (fun hc61 => ?_) (fun hc61 => ?_)
                        · have hf := o_t hc61 hf
                          refine lv_aload_n hC.1 hC.2.1 dX5_nameAt_186 rfl (lv_at hl 0 rfl) ?_
                          refine lv_iload_n hC.1 hC.2.1 dX5_nameAt_187 rfl (lv_at hl 1 rfl) ?_
                          refine lv_iload_n hC.1 hC.2.1 dX5_nameAt_188 rfl (lv_at hl 2 rfl) ?_
                          refine va_ldcS (own := RX5) (index := 109) (tx := "and") (q := mvK V 12) hC.1 hC.2.1 hC.2.2.2.1 (st_12 hC) dX5_nameAt_189 ?_
                          obtain ⟨r37, hq38, hf⟩ := o_b hf
                          refine mw_cVi (As := [.int p1, .int p2, .ref (mvK V 12)]) (rest := []) hC hM (mcX5_spells V l M p1 p2 12 r37 hq38) (mw_kV hC q_596 q_598 q_8 q_111 q_599 ⟨rfl, rfl⟩ kV_X5_spells ⟨Nat.le_of_ble_eq_true rfl, Nat.le_of_ble_eq_true rfl⟩) (Nat.le_of_ble_eq_true rfl) (eC_33 V) rfl rfl rfl (Nat.le_of_ble_eq_true rfl) hl.1 dX5_nameAt_191 (fun H locs hM hb39 => ?_)
                          refine lv_if_eq (tgt := 202) hC.1 hC.2.1 dX5_nameAt_194 (by decide) (fun hc60 => ?_) (fun hc60 => ?_)
                          · have hf := o_t hc60 hf
                            refine lv_aload_n hC.1 hC.2.1 dX5_nameAt_202 rfl (lv_at hl 0 rfl) ?_
                            refine lv_iload_n hC.1 hC.2.1 dX5_nameAt_203 rfl (lv_at hl 1 rfl) ?_
                            refine lv_iload_n hC.1 hC.2.1 dX5_nameAt_204 rfl (lv_at hl 2 rfl) ?_
                            refine va_ldcS (own := RX5) (index := 111) (tx := "or") (q := mvK V 13) hC.1 hC.2.1 hC.2.2.2.1 (st_13 hC) dX5_nameAt_205 ?_
                            obtain ⟨r40, hq41, hf⟩ := o_b hf
                            refine mw_cVi (As := [.int p1, .int p2, .ref (mvK V 13)]) (rest := []) hC hM (mcX5_spells V l M p1 p2 13 r40 hq41) (mw_kV hC q_596 q_598 q_8 q_111 q_599 ⟨rfl, rfl⟩ kV_X5_spells ⟨Nat.le_of_ble_eq_true rfl, Nat.le_of_ble_eq_true rfl⟩) (Nat.le_of_ble_eq_true rfl) (eC_33 V) rfl rfl rfl (Nat.le_of_ble_eq_true rfl) hl.1 dX5_nameAt_207 (fun H locs hM hb42 => ?_)
                            refine lv_if_eq (tgt := 218) hC.1 hC.2.1 dX5_nameAt_210 (by decide) (fun hc59 => ?_) (fun hc59 => ?_)
                            · have hf := o_t hc59 hf
                              refine lv_aload_n hC.1 hC.2.1 dX5_nameAt_218 rfl (lv_at hl 0 rfl) ?_
                              refine lv_iload_n hC.1 hC.2.1 dX5_nameAt_219 rfl (lv_at hl 1 rfl) ?_
                              refine lv_iload_n hC.1 hC.2.1 dX5_nameAt_220 rfl (lv_at hl 2 rfl) ?_
                              refine va_ldcS (own := RX5) (index := 113) (tx := "not") (q := mvK V 14) hC.1 hC.2.1 hC.2.2.2.1 (st_14 hC) dX5_nameAt_221 ?_
                              obtain ⟨r43, hq44, hf⟩ := o_b hf
                              refine mw_cVi (As := [.int p1, .int p2, .ref (mvK V 14)]) (rest := []) hC hM (mcX5_spells V l M p1 p2 14 r43 hq44) (mw_kV hC q_596 q_598 q_8 q_111 q_599 ⟨rfl, rfl⟩ kV_X5_spells ⟨Nat.le_of_ble_eq_true rfl, Nat.le_of_ble_eq_true rfl⟩) (Nat.le_of_ble_eq_true rfl) (eC_33 V) rfl rfl rfl (Nat.le_of_ble_eq_true rfl) hl.1 dX5_nameAt_223 (fun H locs hM hb45 => ?_)
                              refine lv_if_eq (tgt := 234) hC.1 hC.2.1 dX5_nameAt_226 (by decide) (fun hc58 => ?_) (fun hc58 => ?_)
                              · have hf := o_t hc58 hf
                                refine lv_aload_n hC.1 hC.2.1 dX5_nameAt_234 rfl (lv_at hl 0 rfl) ?_
                                refine lv_iload_n hC.1 hC.2.1 dX5_nameAt_235 rfl (lv_at hl 1 rfl) ?_
                                refine lv_iload_n hC.1 hC.2.1 dX5_nameAt_236 rfl (lv_at hl 2 rfl) ?_
                                refine va_ldcS (own := RX5) (index := 115) (tx := "more") (q := mvK V 15) hC.1 hC.2.1 hC.2.2.2.1 (st_15 hC) dX5_nameAt_237 ?_
                                obtain ⟨r46, hq47, hf⟩ := o_b hf
                                refine mw_cVi (As := [.int p1, .int p2, .ref (mvK V 15)]) (rest := []) hC hM (mcX5_spells V l M p1 p2 15 r46 hq47) (mw_kV hC q_596 q_598 q_8 q_111 q_599 ⟨rfl, rfl⟩ kV_X5_spells ⟨Nat.le_of_ble_eq_true rfl, Nat.le_of_ble_eq_true rfl⟩) (Nat.le_of_ble_eq_true rfl) (eC_33 V) rfl rfl rfl (Nat.le_of_ble_eq_true rfl) hl.1 dX5_nameAt_239 (fun H locs hM hb48 => ?_)
                                refine lv_if_eq (tgt := 250) hC.1 hC.2.1 dX5_nameAt_242 (by decide) (fun hc57 => ?_) (fun hc57 => ?_)
                                · have hf := o_t hc57 hf
                                  refine lv_aload_n hC.1 hC.2.1 dX5_nameAt_250 rfl (lv_at hl 0 rfl) ?_
                                  refine lv_iload_n hC.1 hC.2.1 dX5_nameAt_251 rfl (lv_at hl 1 rfl) ?_
                                  refine lv_iload_n hC.1 hC.2.1 dX5_nameAt_252 rfl (lv_at hl 2 rfl) ?_
                                  refine va_ldcS (own := RX5) (index := 117) (tx := "less") (q := mvK V 16) hC.1 hC.2.1 hC.2.2.2.1 (st_16 hC) dX5_nameAt_253 ?_
                                  obtain ⟨r49, hq50, hf⟩ := o_b hf
                                  refine mw_cVi (As := [.int p1, .int p2, .ref (mvK V 16)]) (rest := []) hC hM (mcX5_spells V l M p1 p2 16 r49 hq50) (mw_kV hC q_596 q_598 q_8 q_111 q_599 ⟨rfl, rfl⟩ kV_X5_spells ⟨Nat.le_of_ble_eq_true rfl, Nat.le_of_ble_eq_true rfl⟩) (Nat.le_of_ble_eq_true rfl) (eC_33 V) rfl rfl rfl (Nat.le_of_ble_eq_true rfl) hl.1 dX5_nameAt_255 (fun H locs hM hb51 => ?_)
                                  refine lv_if_eq (tgt := 266) hC.1 hC.2.1 dX5_nameAt_258 (by decide) (fun hc56 => ?_) (fun hc56 => ?_)
                                  · have hf := o_t hc56 hf
                                    refine lv_aload_n hC.1 hC.2.1 dX5_nameAt_266 rfl (lv_at hl 0 rfl) ?_
                                    refine lv_iload_n hC.1 hC.2.1 dX5_nameAt_267 rfl (lv_at hl 1 rfl) ?_
                                    refine lv_iload_n hC.1 hC.2.1 dX5_nameAt_268 rfl (lv_at hl 2 rfl) ?_
                                    refine va_ldcS (own := RX5) (index := 119) (tx := "nil") (q := mvK V 17) hC.1 hC.2.1 hC.2.2.2.1 (st_17 hC) dX5_nameAt_269 ?_
                                    obtain ⟨r52, hq53, hf⟩ := o_b hf
                                    refine mw_cVi (As := [.int p1, .int p2, .ref (mvK V 17)]) (rest := []) hC hM (mcX5_spells V l M p1 p2 17 r52 hq53) (mw_kV hC q_596 q_598 q_8 q_111 q_599 ⟨rfl, rfl⟩ kV_X5_spells ⟨Nat.le_of_ble_eq_true rfl, Nat.le_of_ble_eq_true rfl⟩) (Nat.le_of_ble_eq_true rfl) (eC_33 V) rfl rfl rfl (Nat.le_of_ble_eq_true rfl) hl.1 dX5_nameAt_271 (fun H locs hM hb54 => ?_)
                                    refine lv_if_eq (tgt := 282) hC.1 hC.2.1 dX5_nameAt_274 (by decide) (fun hc55 => ?_) (fun hc55 => ?_)
                                    · have hf := o_t hc55 hf
                                      refine lv_bipush hC.1 hC.2.1 dX5_nameAt_282 cb_41 ?_
                                      exact hret (Option.some.inj hf) hM dX5_nameAt_284
                                    · have hf := o_f hc55 hf
                                      refine lv_bipush hC.1 hC.2.1 dX5_nameAt_277 cb_26 ?_
                                      refine lv_goto (tgt := 284) hC.1 hC.2.1 dX5_nameAt_279 (by decide) ?_
                                      exact hret (Option.some.inj hf) hM dX5_nameAt_284
                                  · have hf := o_f hc56 hf
                                    refine lv_bipush hC.1 hC.2.1 dX5_nameAt_261 cb_25 ?_
                                    refine lv_goto (tgt := 284) hC.1 hC.2.1 dX5_nameAt_263 (by decide) ?_
                                    exact hret (Option.some.inj hf) hM dX5_nameAt_284
                                · have hf := o_f hc57 hf
                                  refine lv_bipush hC.1 hC.2.1 dX5_nameAt_245 cb_24 ?_
                                  refine lv_goto (tgt := 284) hC.1 hC.2.1 dX5_nameAt_247 (by decide) ?_
                                  exact hret (Option.some.inj hf) hM dX5_nameAt_284
                              · have hf := o_f hc58 hf
                                refine lv_bipush hC.1 hC.2.1 dX5_nameAt_229 cb_23 ?_
                                refine lv_goto (tgt := 284) hC.1 hC.2.1 dX5_nameAt_231 (by decide) ?_
                                exact hret (Option.some.inj hf) hM dX5_nameAt_284
                            · have hf := o_f hc59 hf
                              refine lv_bipush hC.1 hC.2.1 dX5_nameAt_213 cb_22 ?_
                              refine lv_goto (tgt := 284) hC.1 hC.2.1 dX5_nameAt_215 (by decide) ?_
                              exact hret (Option.some.inj hf) hM dX5_nameAt_284
                          · have hf := o_f hc60 hf
                            refine lv_bipush hC.1 hC.2.1 dX5_nameAt_197 cb_21 ?_
                            refine lv_goto (tgt := 284) hC.1 hC.2.1 dX5_nameAt_199 (by decide) ?_
                            exact hret (Option.some.inj hf) hM dX5_nameAt_284
                        · have hf := o_f hc61 hf
                          refine lv_bipush hC.1 hC.2.1 dX5_nameAt_181 cb_20 ?_
                          refine lv_goto (tgt := 284) hC.1 hC.2.1 dX5_nameAt_183 (by decide) ?_
                          exact hret (Option.some.inj hf) hM dX5_nameAt_284
                      · have hf := o_f hc62 hf
                        refine lv_bipush hC.1 hC.2.1 dX5_nameAt_165 cb_14 ?_
                        refine lv_goto (tgt := 284) hC.1 hC.2.1 dX5_nameAt_167 (by decide) ?_
                        exact hret (Option.some.inj hf) hM dX5_nameAt_284
                    · have hf := o_f hc63 hf
                      refine lv_bipush hC.1 hC.2.1 dX5_nameAt_149 cb_13 ?_
                      refine lv_goto (tgt := 284) hC.1 hC.2.1 dX5_nameAt_151 (by decide) ?_
                      exact hret (Option.some.inj hf) hM dX5_nameAt_284
                  · have hf := o_f hc64 hf
                    refine lv_bipush hC.1 hC.2.1 dX5_nameAt_133 cb_12 ?_
                    refine lv_goto (tgt := 284) hC.1 hC.2.1 dX5_nameAt_135 (by decide) ?_
                    exact hret (Option.some.inj hf) hM dX5_nameAt_284
                · have hf := o_f hc65 hf
                  refine lv_bipush hC.1 hC.2.1 dX5_nameAt_117 cb_11 ?_
                  refine lv_goto (tgt := 284) hC.1 hC.2.1 dX5_nameAt_119 (by decide) ?_
                  exact hret (Option.some.inj hf) hM dX5_nameAt_284
              · have hf := o_f hc66 hf
                refine lv_bipush hC.1 hC.2.1 dX5_nameAt_101 cb_10 ?_
                refine lv_goto (tgt := 284) hC.1 hC.2.1 dX5_nameAt_103 (by decide) ?_
                exact hret (Option.some.inj hf) hM dX5_nameAt_284
            · have hf := o_f hc67 hf
              refine lv_iconst hC.1 hC.2.1 dX5_nameAt_86 ci_5 ?_
              refine lv_goto (tgt := 284) hC.1 hC.2.1 dX5_nameAt_87 (by decide) ?_
              exact hret (Option.some.inj hf) hM dX5_nameAt_284
          · have hf := o_f hc68 hf
            refine lv_iconst hC.1 hC.2.1 dX5_nameAt_71 ci_4 ?_
            refine lv_goto (tgt := 284) hC.1 hC.2.1 dX5_nameAt_72 (by decide) ?_
            exact hret (Option.some.inj hf) hM dX5_nameAt_284
        · have hf := o_f hc69 hf
          refine lv_iconst hC.1 hC.2.1 dX5_nameAt_56 ci_3 ?_
          refine lv_goto (tgt := 284) hC.1 hC.2.1 dX5_nameAt_57 (by decide) ?_
          exact hret (Option.some.inj hf) hM dX5_nameAt_284
      · have hf := o_f hc70 hf
        refine lv_iconst hC.1 hC.2.1 dX5_nameAt_41 ci_2 ?_
        refine lv_goto (tgt := 284) hC.1 hC.2.1 dX5_nameAt_42 (by decide) ?_
        exact hret (Option.some.inj hf) hM dX5_nameAt_284
    · have hf := o_f hc71 hf
      refine lv_iconst hC.1 hC.2.1 dX5_nameAt_26 ci_1 ?_
      refine lv_goto (tgt := 284) hC.1 hC.2.1 dX5_nameAt_27 (by decide) ?_
      exact hret (Option.some.inj hf) hM dX5_nameAt_284
  · have hf := o_f hc72 hf
    refine lv_iconst hC.1 hC.2.1 dX5_nameAt_11 ci_0 ?_
    refine lv_goto (tgt := 284) hC.1 hC.2.1 dX5_nameAt_12 (by decide) ?_
    exact hret (Option.some.inj hf) hM dX5_nameAt_284
