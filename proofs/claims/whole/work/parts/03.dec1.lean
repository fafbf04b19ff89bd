theorem dX11_play_73 : decode cX11_play 73 = .ok (.goto (-39), 3) := by decide +kernel
theorem dX11_play_76 : decode cX11_play 76 = .ok (.iload_n 3, 1) := by decide +kernel
theorem dX11_play_77 : decode cX11_play 77 = .ok (.ireturn, 1) := by decide +kernel
theorem dX11_report_0 : decode cX11_report 0 = .ok (.iload_n 1, 1) := by decide +kernel
theorem dX11_report_1 : decode cX11_report 1 = .ok (.iconst 0, 1) := by decide +kernel
theorem dX11_report_2 : decode cX11_report 2 = .ok (.bipush 60, 2) := by decide +kernel
theorem dX11_report_4 : decode cX11_report 4 = .ok (.invokestatic 83, 3) := by decide +kernel
theorem dX11_report_7 : decode cX11_report 7 = .ok (.ifCond .eq 10, 3) := by decide +kernel
theorem dX11_report_10 : decode cX11_report 10 = .ok (.iload_n 2, 1) := by decide +kernel
theorem dX11_report_11 : decode cX11_report 11 = .ok (.invokestatic 134, 3) := by decide +kernel
theorem dX11_report_14 : decode cX11_report 14 = .ok (.ifCond .ne 5, 3) := by decide +kernel
theorem dX11_report_17 : decode cX11_report 17 = .ok (.iconst (-1), 1) := by decide +kernel
theorem dX11_report_18 : decode cX11_report 18 = .ok (.ireturn, 1) := by decide +kernel
theorem dX11_report_19 : decode cX11_report 19 = .ok (.aload_n 0, 1) := by decide +kernel
theorem dX11_report_20 : decode cX11_report 20 = .ok (.getfield 15, 3) := by decide +kernel
theorem dX11_report_23 : decode cX11_report 23 = .ok (.getfield 280, 3) := by decide +kernel
theorem dX11_report_26 : decode cX11_report 26 = .ok (.bipush 6, 2) := by decide +kernel
theorem dX11_report_28 : decode cX11_report 28 = .ok (.if_icmp .lt 6, 3) := by decide +kernel
theorem dX11_report_31 : decode cX11_report 31 = .ok (.bipush (-2), 2) := by decide +kernel
theorem dX11_report_33 : decode cX11_report 33 = .ok (.ireturn, 1) := by decide +kernel
theorem dX11_report_34 : decode cX11_report 34 = .ok (.aload_n 0, 1) := by decide +kernel
theorem dX11_report_35 : decode cX11_report 35 = .ok (.getfield 15, 3) := by decide +kernel
theorem dX11_report_38 : decode cX11_report 38 = .ok (.getfield 283, 3) := by decide +kernel
theorem dX11_report_41 : decode cX11_report 41 = .ok (.aload_n 0, 1) := by decide +kernel
theorem dX11_report_42 : decode cX11_report 42 = .ok (.getfield 15, 3) := by decide +kernel
theorem dX11_report_45 : decode cX11_report 45 = .ok (.getfield 280, 3) := by decide +kernel
theorem dX11_report_48 : decode cX11_report 48 = .ok (.iload_n 1, 1) := by decide +kernel
theorem dX11_report_49 : decode cX11_report 49 = .ok (.iastore, 1) := by decide +kernel
theorem dX11_report_50 : decode cX11_report 50 = .ok (.aload_n 0, 1) := by decide +kernel
theorem dX11_report_51 : decode cX11_report 51 = .ok (.getfield 15, 3) := by decide +kernel
theorem dX11_report_54 : decode cX11_report 54 = .ok (.getfield 286, 3) := by decide +kernel
theorem dX11_report_57 : decode cX11_report 57 = .ok (.aload_n 0, 1) := by decide +kernel
theorem dX11_report_58 : decode cX11_report 58 = .ok (.getfield 15, 3) := by decide +kernel
theorem dX11_report_61 : decode cX11_report 61 = .ok (.getfield 280, 3) := by decide +kernel
theorem dX11_report_64 : decode cX11_report 64 = .ok (.iload_n 2, 1) := by decide +kernel
theorem dX11_report_65 : decode cX11_report 65 = .ok (.iastore, 1) := by decide +kernel
theorem dX11_report_66 : decode cX11_report 66 = .ok (.aload_n 0, 1) := by decide +kernel
theorem dX11_report_67 : decode cX11_report 67 = .ok (.getfield 15, 3) := by decide +kernel
theorem dX11_report_70 : decode cX11_report 70 = .ok (.dup, 1) := by decide +kernel
theorem dX11_report_71 : decode cX11_report 71 = .ok (.getfield 280, 3) := by decide +kernel
theorem dX11_report_74 : decode cX11_report 74 = .ok (.dup_x1, 1) := by decide +kernel
theorem dX11_report_75 : decode cX11_report 75 = .ok (.iconst 1, 1) := by decide +kernel
theorem dX11_report_76 : decode cX11_report 76 = .ok (.iadd, 1) := by decide +kernel
theorem dX11_report_77 : decode cX11_report 77 = .ok (.putfield 280, 3) := by decide +kernel
theorem dX11_report_80 : decode cX11_report 80 = .ok (.ireturn, 1) := by decide +kernel
theorem dX11_forget_0 : decode cX11_forget 0 = .ok (.aload_n 0, 1) := by decide +kernel
theorem dX11_forget_1 : decode cX11_forget 1 = .ok (.getfield 15, 3) := by decide +kernel
theorem dX11_forget_4 : decode cX11_forget 4 = .ok (.getfield 280, 3) := by decide +kernel
theorem dX11_forget_7 : decode cX11_forget 7 = .ok (.istore_n 1, 1) := by decide +kernel
theorem dX11_forget_8 : decode cX11_forget 8 = .ok (.aload_n 0, 1) := by decide +kernel
theorem dX11_forget_9 : decode cX11_forget 9 = .ok (.getfield 15, 3) := by decide +kernel
theorem dX11_forget_12 : decode cX11_forget 12 = .ok (.iconst 0, 1) := by decide +kernel
theorem dX11_forget_13 : decode cX11_forget 13 = .ok (.putfield 280, 3) := by decide +kernel
theorem dX11_forget_16 : decode cX11_forget 16 = .ok (.iload_n 1, 1) := by decide +kernel
theorem dX11_forget_17 : decode cX11_forget 17 = .ok (.ireturn, 1) := by decide +kernel
theorem dX11_span_0 : decode cX11_span 0 = .ok (.iload_n 1, 1) := by decide +kernel
theorem dX11_span_1 : decode cX11_span 1 = .ok (.iconst 0, 1) := by decide +kernel
theorem dX11_span_2 : decode cX11_span 2 = .ok (.iconst 2, 1) := by decide +kernel
theorem dX11_span_3 : decode cX11_span 3 = .ok (.invokestatic 83, 3) := by decide +kernel
theorem dX11_span_6 : decode cX11_span 6 = .ok (.ifCond .ne 5, 3) := by decide +kernel
theorem dX11_span_9 : decode cX11_span 9 = .ok (.iconst (-1), 1) := by decide +kernel
theorem dX11_span_10 : decode cX11_span 10 = .ok (.ireturn, 1) := by decide +kernel
theorem dX11_span_11 : decode cX11_span 11 = .ok (.bipush (-3), 2) := by decide +kernel
theorem dX11_span_13 : decode cX11_span 13 = .ok (.istore_n 2, 1) := by decide +kernel
theorem dX11_span_14 : decode cX11_span 14 = .ok (.iconst 0, 1) := by decide +kernel
theorem dX11_span_15 : decode cX11_span 15 = .ok (.istore_n 3, 1) := by decide +kernel
theorem dX11_span_16 : decode cX11_span 16 = .ok (.bipush 71, 2) := by decide +kernel
theorem dX11_span_18 : decode cX11_span 18 = .ok (.istore 4, 2) := by decide +kernel
theorem dX11_span_20 : decode cX11_span 20 = .ok (.iload 4, 2) := by decide +kernel
theorem dX11_span_22 : decode cX11_span 22 = .ok (.ifCond .lt 26, 3) := by decide +kernel
theorem dX11_span_25 : decode cX11_span 25 = .ok (.aload_n 0, 1) := by decide +kernel
theorem dX11_span_26 : decode cX11_span 26 = .ok (.iload 4, 2) := by decide +kernel
theorem dX11_span_28 : decode cX11_span 28 = .ok (.bipush (-3), 2) := by decide +kernel
theorem dX11_span_30 : decode cX11_span 30 = .ok (.invokevirtual 289, 3) := by decide +kernel
theorem dX11_span_33 : decode cX11_span 33 = .ok (.ifCond .eq 9, 3) := by decide +kernel
theorem dX11_span_36 : decode cX11_span 36 = .ok (.iload 4, 2) := by decide +kernel
theorem dX11_span_38 : decode cX11_span 38 = .ok (.istore_n 2, 1) := by decide +kernel
theorem dX11_span_39 : decode cX11_span 39 = .ok (.iinc 3 1, 3) := by decide +kernel
theorem dX11_span_42 : decode cX11_span 42 = .ok (.iinc 4 (-1), 3) := by decide +kernel
theorem dX11_span_45 : decode cX11_span 45 = .ok (.goto (-25), 3) := by decide +kernel
theorem dX11_span_48 : decode cX11_span 48 = .ok (.iload_n 1, 1) := by decide +kernel
theorem dX11_span_49 : decode cX11_span 49 = .ok (.ifCond .ne 5, 3) := by decide +kernel
theorem dX11_span_52 : decode cX11_span 52 = .ok (.iload_n 3, 1) := by decide +kernel
theorem dX11_span_53 : decode cX11_span 53 = .ok (.ireturn, 1) := by decide +kernel
theorem dX11_span_54 : decode cX11_span 54 = .ok (.iload_n 2, 1) := by decide +kernel
theorem dX11_span_55 : decode cX11_span 55 = .ok (.ifCond .ge 8, 3) := by decide +kernel
theorem dX11_span_58 : decode cX11_span 58 = .ok (.bipush (-3), 2) := by decide +kernel
theorem dX11_span_60 : decode cX11_span 60 = .ok (.goto 19, 3) := by decide +kernel
theorem dX11_span_63 : decode cX11_span 63 = .ok (.iload_n 1, 1) := by decide +kernel
theorem dX11_span_64 : decode cX11_span 64 = .ok (.iconst 1, 1) := by decide +kernel
theorem dX11_span_65 : decode cX11_span 65 = .ok (.if_icmp .ne 10, 3) := by decide +kernel
theorem dX11_span_68 : decode cX11_span 68 = .ok (.iload_n 2, 1) := by decide +kernel
theorem dX11_span_69 : decode cX11_span 69 = .ok (.bipush 24, 2) := by decide +kernel
theorem dX11_span_71 : decode cX11_span 71 = .ok (.idiv, 1) := by decide +kernel
theorem dX11_span_72 : decode cX11_span 72 = .ok (.goto 7, 3) := by decide +kernel
theorem dX11_span_75 : decode cX11_span 75 = .ok (.iload_n 2, 1) := by decide +kernel
theorem dX11_span_76 : decode cX11_span 76 = .ok (.bipush 24, 2) := by decide +kernel
theorem dX11_span_78 : decode cX11_span 78 = .ok (.irem, 1) := by decide +kernel
theorem dX11_span_79 : decode cX11_span 79 = .ok (.ireturn, 1) := by decide +kernel
theorem dX11_liar_0 : decode cX11_liar 0 = .ok (.aload_n 0, 1) := by decide +kernel
theorem dX11_liar_1 : decode cX11_liar 1 = .ok (.bipush (-3), 2) := by decide +kernel
theorem dX11_liar_3 : decode cX11_liar 3 = .ok (.invokevirtual 292, 3) := by decide +kernel
theorem dX11_liar_6 : decode cX11_liar 6 = .ok (.ifCond .eq 6, 3) := by decide +kernel
theorem dX11_liar_9 : decode cX11_liar 9 = .ok (.bipush (-3), 2) := by decide +kernel
theorem dX11_liar_11 : decode cX11_liar 11 = .ok (.ireturn, 1) := by decide +kernel
theorem dX11_liar_12 : decode cX11_liar 12 = .ok (.iconst 0, 1) := by decide +kernel
theorem dX11_liar_13 : decode cX11_liar 13 = .ok (.istore_n 1, 1) := by decide +kernel
theorem dX11_liar_14 : decode cX11_liar 14 = .ok (.iload_n 1, 1) := by decide +kernel
theorem dX11_liar_15 : decode cX11_liar 15 = .ok (.aload_n 0, 1) := by decide +kernel
theorem dX11_liar_16 : decode cX11_liar 16 = .ok (.getfield 15, 3) := by decide +kernel
theorem dX11_liar_19 : decode cX11_liar 19 = .ok (.getfield 280, 3) := by decide +kernel
theorem dX11_liar_22 : decode cX11_liar 22 = .ok (.if_icmp .ge 19, 3) := by decide +kernel
theorem dX11_liar_25 : decode cX11_liar 25 = .ok (.aload_n 0, 1) := by decide +kernel
theorem dX11_liar_26 : decode cX11_liar 26 = .ok (.iload_n 1, 1) := by decide +kernel
theorem dX11_liar_27 : decode cX11_liar 27 = .ok (.invokevirtual 292, 3) := by decide +kernel
theorem dX11_liar_30 : decode cX11_liar 30 = .ok (.ifCond .eq 5, 3) := by decide +kernel
theorem dX11_liar_33 : decode cX11_liar 33 = .ok (.iload_n 1, 1) := by decide +kernel
theorem dX11_liar_34 : decode cX11_liar 34 = .ok (.ireturn, 1) := by decide +kernel
theorem dX11_liar_35 : decode cX11_liar 35 = .ok (.iinc 1 1, 3) := by decide +kernel
theorem dX11_liar_38 : decode cX11_liar 38 = .ok (.goto (-24), 3) := by decide +kernel
theorem dX11_liar_41 : decode cX11_liar 41 = .ok (.bipush (-3), 2) := by decide +kernel
theorem dX11_liar_43 : decode cX11_liar 43 = .ok (.ireturn, 1) := by decide +kernel
theorem dX11_seed_0 : decode cX11_seed 0 = .ok (.aload_n 0, 1) := by decide +kernel
theorem dX11_seed_1 : decode cX11_seed 1 = .ok (.getfield 15, 3) := by decide +kernel
theorem dX11_seed_4 : decode cX11_seed 4 = .ok (.getfield 295, 3) := by decide +kernel
theorem dX11_seed_7 : decode cX11_seed 7 = .ok (.istore_n 2, 1) := by decide +kernel
theorem dX11_seed_8 : decode cX11_seed 8 = .ok (.aload_n 0, 1) := by decide +kernel
theorem dX11_seed_9 : decode cX11_seed 9 = .ok (.getfield 15, 3) := by decide +kernel
theorem dX11_seed_12 : decode cX11_seed 12 = .ok (.iload_n 1, 1) := by decide +kernel
theorem dX11_seed_13 : decode cX11_seed 13 = .ok (.putfield 295, 3) := by decide +kernel
theorem dX11_seed_16 : decode cX11_seed 16 = .ok (.iload_n 2, 1) := by decide +kernel
theorem dX11_seed_17 : decode cX11_seed 17 = .ok (.ireturn, 1) := by decide +kernel
theorem dX11_lot_0 : decode cX11_lot 0 = .ok (.aload_n 0, 1) := by decide +kernel
theorem dX11_lot_1 : decode cX11_lot 1 = .ok (.getfield 15, 3) := by decide +kernel
theorem dX11_lot_4 : decode cX11_lot 4 = .ok (.getfield 140, 3) := by decide +kernel
theorem dX11_lot_7 : decode cX11_lot 7 = .ok (.sipush 9999, 3) := by decide +kernel
theorem dX11_lot_10 : decode cX11_lot 10 = .ok (.if_icmp .lt 6, 3) := by decide +kernel
theorem dX11_lot_13 : decode cX11_lot 13 = .ok (.bipush (-4), 2) := by decide +kernel
theorem dX11_lot_15 : decode cX11_lot 15 = .ok (.ireturn, 1) := by decide +kernel
theorem dX11_lot_16 : decode cX11_lot 16 = .ok (.aload_n 0, 1) := by decide +kernel
theorem dX11_lot_17 : decode cX11_lot 17 = .ok (.invokevirtual 230, 3) := by decide +kernel
theorem dX11_lot_20 : decode cX11_lot 20 = .ok (.aload_n 0, 1) := by decide +kernel
theorem dX11_lot_21 : decode cX11_lot 21 = .ok (.getfield 15, 3) := by decide +kernel
theorem dX11_lot_24 : decode cX11_lot 24 = .ok (.aload_n 0, 1) := by decide +kernel
theorem dX11_lot_25 : decode cX11_lot 25 = .ok (.invokevirtual 298, 3) := by decide +kernel
theorem dX11_lot_28 : decode cX11_lot 28 = .ok (.invokevirtual 179, 3) := by decide +kernel
theorem dX11_lot_31 : decode cX11_lot 31 = .ok (.ireturn, 1) := by decide +kernel
theorem dX11_often_0 : decode cX11_often 0 = .ok (.iload_n 1, 1) := by decide +kernel
theorem dX11_often_1 : decode cX11_often 1 = .ok (.iconst 1, 1) := by decide +kernel
theorem dX11_often_2 : decode cX11_often 2 = .ok (.bipush 60, 2) := by decide +kernel
theorem dX11_often_4 : decode cX11_often 4 = .ok (.invokestatic 83, 3) := by decide +kernel
theorem dX11_often_7 : decode cX11_often 7 = .ok (.ifCond .eq 10, 3) := by decide +kernel
theorem dX11_often_10 : decode cX11_often 10 = .ok (.iload_n 2, 1) := by decide +kernel
theorem dX11_often_11 : decode cX11_often 11 = .ok (.invokestatic 134, 3) := by decide +kernel
theorem dX11_often_14 : decode cX11_often 14 = .ok (.ifCond .ne 5, 3) := by decide +kernel
theorem dX11_often_17 : decode cX11_often 17 = .ok (.iconst (-1), 1) := by decide +kernel
theorem dX11_often_18 : decode cX11_often 18 = .ok (.ireturn, 1) := by decide +kernel
theorem dX11_often_19 : decode cX11_often 19 = .ok (.aload_n 0, 1) := by decide +kernel
theorem dX11_often_20 : decode cX11_often 20 = .ok (.getfield 15, 3) := by decide +kernel
theorem dX11_often_23 : decode cX11_often 23 = .ok (.getfield 295, 3) := by decide +kernel
theorem dX11_often_26 : decode cX11_often 26 = .ok (.istore_n 3, 1) := by decide +kernel
theorem dX11_often_27 : decode cX11_often 27 = .ok (.iconst 0, 1) := by decide +kernel
theorem dX11_often_28 : decode cX11_often 28 = .ok (.istore 4, 2) := by decide +kernel
theorem dX11_often_30 : decode cX11_often 30 = .ok (.aload_n 0, 1) := by decide +kernel
theorem dX11_often_31 : decode cX11_often 31 = .ok (.invokevirtual 230, 3) := by decide +kernel
theorem dX11_often_34 : decode cX11_often 34 = .ok (.iconst 0, 1) := by decide +kernel
theorem dX11_often_35 : decode cX11_often 35 = .ok (.istore 5, 2) := by decide +kernel
theorem dX11_often_37 : decode cX11_often 37 = .ok (.iload 5, 2) := by decide +kernel
theorem dX11_often_39 : decode cX11_often 39 = .ok (.iload_n 1, 1) := by decide +kernel
theorem dX11_often_40 : decode cX11_often 40 = .ok (.if_icmp .ge 30, 3) := by decide +kernel
theorem dX11_often_43 : decode cX11_often 43 = .ok (.aload_n 0, 1) := by decide +kernel
theorem dX11_often_44 : decode cX11_often 44 = .ok (.getfield 15, 3) := by decide +kernel
theorem dX11_often_47 : decode cX11_often 47 = .ok (.getfield 117, 3) := by decide +kernel
theorem dX11_often_50 : decode cX11_often 50 = .ok (.aload_n 0, 1) := by decide +kernel
theorem dX11_often_51 : decode cX11_often 51 = .ok (.invokevirtual 298, 3) := by decide +kernel
theorem dX11_often_54 : decode cX11_often 54 = .ok (.invokestatic 194, 3) := by decide +kernel
theorem dX11_often_57 : decode cX11_often 57 = .ok (.iload_n 2, 1) := by decide +kernel
theorem dX11_often_58 : decode cX11_often 58 = .ok (.if_icmp .ne 6, 3) := by decide +kernel
theorem dX11_often_61 : decode cX11_often 61 = .ok (.iinc 4 1, 3) := by decide +kernel
theorem dX11_often_64 : decode cX11_often 64 = .ok (.iinc 5 1, 3) := by decide +kernel
theorem dX11_often_67 : decode cX11_often 67 = .ok (.goto (-30), 3) := by decide +kernel
theorem dX11_often_70 : decode cX11_often 70 = .ok (.aload_n 0, 1) := by decide +kernel
theorem dX11_often_71 : decode cX11_often 71 = .ok (.getfield 15, 3) := by decide +kernel
theorem dX11_often_74 : decode cX11_often 74 = .ok (.iload_n 3, 1) := by decide +kernel
theorem dX11_often_75 : decode cX11_often 75 = .ok (.putfield 295, 3) := by decide +kernel
theorem dX11_often_78 : decode cX11_often 78 = .ok (.iload 4, 2) := by decide +kernel
theorem dX11_often_80 : decode cX11_often 80 = .ok (.ireturn, 1) := by decide +kernel
theorem dX11_valueOf_0 : decode cX11_valueOf 0 = .ok (.iload_n 3, 1) := by decide +kernel
theorem dX11_valueOf_1 : decode cX11_valueOf 1 = .ok (.ifCond .gt 5, 3) := by decide +kernel
theorem dX11_valueOf_4 : decode cX11_valueOf 4 = .ok (.iconst 0, 1) := by decide +kernel
theorem dX11_valueOf_5 : decode cX11_valueOf 5 = .ok (.ireturn, 1) := by decide +kernel
theorem dX11_valueOf_6 : decode cX11_valueOf 6 = .ok (.aload_n 0, 1) := by decide +kernel
theorem dX11_valueOf_7 : decode cX11_valueOf 7 = .ok (.iconst 0, 1) := by decide +kernel
theorem dX11_valueOf_8 : decode cX11_valueOf 8 = .ok (.iload_n 1, 1) := by decide +kernel
theorem dX11_valueOf_9 : decode cX11_valueOf 9 = .ok (.iload_n 2, 1) := by decide +kernel
theorem dX11_valueOf_10 : decode cX11_valueOf 10 = .ok (.iload_n 3, 1) := by decide +kernel
theorem dX11_valueOf_11 : decode cX11_valueOf 11 = .ok (.iload 4, 2) := by decide +kernel
theorem dX11_valueOf_13 : decode cX11_valueOf 13 = .ok (.invokevirtual 276, 3) := by decide +kernel
theorem dX11_valueOf_16 : decode cX11_valueOf 16 = .ok (.istore 5, 2) := by decide +kernel
theorem dX11_valueOf_18 : decode cX11_valueOf 18 = .ok (.iconst 1, 1) := by decide +kernel
theorem dX11_valueOf_19 : decode cX11_valueOf 19 = .ok (.istore 6, 2) := by decide +kernel
theorem dX11_valueOf_21 : decode cX11_valueOf 21 = .ok (.iload 6, 2) := by decide +kernel
theorem dX11_valueOf_23 : decode cX11_valueOf 23 = .ok (.aload_n 0, 1) := by decide +kernel
theorem dX11_valueOf_24 : decode cX11_valueOf 24 = .ok (.getfield 15, 3) := by decide +kernel
theorem dX11_valueOf_27 : decode cX11_valueOf 27 = .ok (.getfield 91, 3) := by decide +kernel
theorem dX11_valueOf_30 : decode cX11_valueOf 30 = .ok (.if_icmp .gt 39, 3) := by decide +kernel
theorem dX11_valueOf_33 : decode cX11_valueOf 33 = .ok (.aload_n 0, 1) := by decide +kernel
theorem dX11_valueOf_34 : decode cX11_valueOf 34 = .ok (.iload 6, 2) := by decide +kernel
theorem dX11_valueOf_36 : decode cX11_valueOf 36 = .ok (.iload_n 1, 1) := by decide +kernel
theorem dX11_valueOf_37 : decode cX11_valueOf 37 = .ok (.iload_n 2, 1) := by decide +kernel
theorem dX11_valueOf_38 : decode cX11_valueOf 38 = .ok (.iload_n 3, 1) := by decide +kernel
theorem dX11_valueOf_39 : decode cX11_valueOf 39 = .ok (.iload 4, 2) := by decide +kernel
theorem dX11_valueOf_41 : decode cX11_valueOf 41 = .ok (.invokevirtual 276, 3) := by decide +kernel
theorem dX11_valueOf_44 : decode cX11_valueOf 44 = .ok (.istore 7, 2) := by decide +kernel
theorem dX11_valueOf_46 : decode cX11_valueOf 46 = .ok (.iload 7, 2) := by decide +kernel
theorem dX11_valueOf_48 : decode cX11_valueOf 48 = .ok (.iload 4, 2) := by decide +kernel
theorem dX11_valueOf_50 : decode cX11_valueOf 50 = .ok (.imul, 1) := by decide +kernel
theorem dX11_valueOf_51 : decode cX11_valueOf 51 = .ok (.iload 5, 2) := by decide +kernel
theorem dX11_valueOf_53 : decode cX11_valueOf 53 = .ok (.iload 4, 2) := by decide +kernel
theorem dX11_valueOf_55 : decode cX11_valueOf 55 = .ok (.imul, 1) := by decide +kernel
theorem dX11_valueOf_56 : decode cX11_valueOf 56 = .ok (.if_icmp .le 7, 3) := by decide +kernel
theorem dX11_valueOf_59 : decode cX11_valueOf 59 = .ok (.iload 7, 2) := by decide +kernel
theorem dX11_valueOf_61 : decode cX11_valueOf 61 = .ok (.istore 5, 2) := by decide +kernel
theorem dX11_valueOf_63 : decode cX11_valueOf 63 = .ok (.iinc 6 1, 3) := by decide +kernel
theorem dX11_valueOf_66 : decode cX11_valueOf 66 = .ok (.goto (-45), 3) := by decide +kernel
theorem dX11_valueOf_69 : decode cX11_valueOf 69 = .ok (.iload 5, 2) := by decide +kernel
theorem dX11_valueOf_71 : decode cX11_valueOf 71 = .ok (.ireturn, 1) := by decide +kernel
theorem dX11_valueBy_0 : decode cX11_valueBy 0 = .ok (.iload_n 3, 1) := by decide +kernel
theorem dX11_valueBy_1 : decode cX11_valueBy 1 = .ok (.iload_n 1, 1) := by decide +kernel
theorem dX11_valueBy_2 : decode cX11_valueBy 2 = .ok (.invokestatic 259, 3) := by decide +kernel
theorem dX11_valueBy_5 : decode cX11_valueBy 5 = .ok (.istore 6, 2) := by decide +kernel
theorem dX11_valueBy_7 : decode cX11_valueBy 7 = .ok (.aload_n 0, 1) := by decide +kernel
theorem dX11_valueBy_8 : decode cX11_valueBy 8 = .ok (.iload_n 2, 1) := by decide +kernel
theorem dX11_valueBy_9 : decode cX11_valueBy 9 = .ok (.iload 6, 2) := by decide +kernel
theorem dX11_valueBy_11 : decode cX11_valueBy 11 = .ok (.invokevirtual 173, 3) := by decide +kernel
theorem dX11_valueBy_14 : decode cX11_valueBy 14 = .ok (.aload_n 0, 1) := by decide +kernel
theorem dX11_valueBy_15 : decode cX11_valueBy 15 = .ok (.getfield 15, 3) := by decide +kernel
theorem dX11_valueBy_18 : decode cX11_valueBy 18 = .ok (.getfield 137, 3) := by decide +kernel
theorem dX11_valueBy_21 : decode cX11_valueBy 21 = .ok (.invokestatic 191, 3) := by decide +kernel
theorem dX11_valueBy_24 : decode cX11_valueBy 24 = .ok (.istore 7, 2) := by decide +kernel
theorem dX11_valueBy_26 : decode cX11_valueBy 26 = .ok (.iload 7, 2) := by decide +kernel
theorem dX11_valueBy_28 : decode cX11_valueBy 28 = .ok (.aload_n 0, 1) := by decide +kernel
theorem dX11_valueBy_29 : decode cX11_valueBy 29 = .ok (.iload_n 2, 1) := by decide +kernel
theorem dX11_valueBy_30 : decode cX11_valueBy 30 = .ok (.iload 7, 2) := by decide +kernel
theorem dX11_valueBy_32 : decode cX11_valueBy 32 = .ok (.invokestatic 194, 3) := by decide +kernel
theorem dX11_valueBy_35 : decode cX11_valueBy 35 = .ok (.iload 6, 2) := by decide +kernel
theorem dX11_valueBy_37 : decode cX11_valueBy 37 = .ok (.iload 4, 2) := by decide +kernel
theorem dX11_valueBy_39 : decode cX11_valueBy 39 = .ok (.iconst 1, 1) := by decide +kernel
theorem dX11_valueBy_40 : decode cX11_valueBy 40 = .ok (.isub, 1) := by decide +kernel
theorem dX11_valueBy_41 : decode cX11_valueBy 41 = .ok (.iload 5, 2) := by decide +kernel
theorem dX11_valueBy_43 : decode cX11_valueBy 43 = .ok (.ineg, 1) := by decide +kernel
theorem dX11_valueBy_44 : decode cX11_valueBy 44 = .ok (.invokevirtual 272, 3) := by decide +kernel
theorem dX11_valueBy_47 : decode cX11_valueBy 47 = .ok (.iadd, 1) := by decide +kernel
theorem dX11_valueBy_48 : decode cX11_valueBy 48 = .ok (.ireturn, 1) := by decide +kernel
theorem dX11_fits_0 : decode cX11_fits 0 = .ok (.iload_n 1, 1) := by decide +kernel
theorem dX11_fits_1 : decode cX11_fits 1 = .ok (.bipush 24, 2) := by decide +kernel
theorem dX11_fits_3 : decode cX11_fits 3 = .ok (.idiv, 1) := by decide +kernel
theorem dX11_fits_4 : decode cX11_fits 4 = .ok (.iconst 1, 1) := by decide +kernel
theorem dX11_fits_5 : decode cX11_fits 5 = .ok (.isub, 1) := by decide +kernel
theorem dX11_fits_6 : decode cX11_fits 6 = .ok (.istore_n 3, 1) := by decide +kernel
theorem dX11_fits_7 : decode cX11_fits 7 = .ok (.iconst 0, 1) := by decide +kernel
theorem dX11_fits_8 : decode cX11_fits 8 = .ok (.istore 4, 2) := by decide +kernel
theorem dX11_fits_10 : decode cX11_fits 10 = .ok (.iload 4, 2) := by decide +kernel
theorem dX11_fits_12 : decode cX11_fits 12 = .ok (.aload_n 0, 1) := by decide +kernel
theorem dX11_fits_13 : decode cX11_fits 13 = .ok (.getfield 15, 3) := by decide +kernel
theorem dX11_fits_16 : decode cX11_fits 16 = .ok (.getfield 280, 3) := by decide +kernel
theorem dX11_fits_19 : decode cX11_fits 19 = .ok (.if_icmp .ge 49, 3) := by decide +kernel
theorem dX11_fits_22 : decode cX11_fits 22 = .ok (.iload 4, 2) := by decide +kernel
theorem dX11_fits_24 : decode cX11_fits 24 = .ok (.iload_n 2, 1) := by decide +kernel
theorem dX11_fits_25 : decode cX11_fits 25 = .ok (.if_icmp .eq 37, 3) := by decide +kernel
theorem dX11_fits_28 : decode cX11_fits 28 = .ok (.iload_n 1, 1) := by decide +kernel
theorem dX11_fits_29 : decode cX11_fits 29 = .ok (.bipush 24, 2) := by decide +kernel
theorem dX11_fits_31 : decode cX11_fits 31 = .ok (.irem, 1) := by decide +kernel
theorem dX11_fits_32 : decode cX11_fits 32 = .ok (.aload_n 0, 1) := by decide +kernel
theorem dX11_fits_33 : decode cX11_fits 33 = .ok (.getfield 15, 3) := by decide +kernel
theorem dX11_fits_36 : decode cX11_fits 36 = .ok (.getfield 283, 3) := by decide +kernel
theorem dX11_fits_39 : decode cX11_fits 39 = .ok (.iload 4, 2) := by decide +kernel
theorem dX11_fits_41 : decode cX11_fits 41 = .ok (.iaload, 1) := by decide +kernel
theorem dX11_fits_42 : decode cX11_fits 42 = .ok (.iload_n 3, 1) := by decide +kernel
theorem dX11_fits_43 : decode cX11_fits 43 = .ok (.imul, 1) := by decide +kernel
theorem dX11_fits_44 : decode cX11_fits 44 = .ok (.invokestatic 194, 3) := by decide +kernel
theorem dX11_fits_47 : decode cX11_fits 47 = .ok (.aload_n 0, 1) := by decide +kernel
theorem dX11_fits_48 : decode cX11_fits 48 = .ok (.getfield 15, 3) := by decide +kernel
theorem dX11_fits_51 : decode cX11_fits 51 = .ok (.getfield 286, 3) := by decide +kernel
theorem dX11_fits_54 : decode cX11_fits 54 = .ok (.iload 4, 2) := by decide +kernel
theorem dX11_fits_56 : decode cX11_fits 56 = .ok (.iaload, 1) := by decide +kernel
theorem dX11_fits_57 : decode cX11_fits 57 = .ok (.if_icmp .eq 5, 3) := by decide +kernel
theorem dX11_fits_60 : decode cX11_fits 60 = .ok (.iconst 0, 1) := by decide +kernel
theorem dX11_fits_61 : decode cX11_fits 61 = .ok (.ireturn, 1) := by decide +kernel
theorem dX11_fits_62 : decode cX11_fits 62 = .ok (.iinc 4 1, 3) := by decide +kernel
theorem dX11_fits_65 : decode cX11_fits 65 = .ok (.goto (-55), 3) := by decide +kernel
theorem dX11_fits_68 : decode cX11_fits 68 = .ok (.iconst 1, 1) := by decide +kernel
theorem dX11_fits_69 : decode cX11_fits 69 = .ok (.ireturn, 1) := by decide +kernel
theorem dX11_someFits_0 : decode cX11_someFits 0 = .ok (.iconst 0, 1) := by decide +kernel
theorem dX11_someFits_1 : decode cX11_someFits 1 = .ok (.istore_n 2, 1) := by decide +kernel
theorem dX11_someFits_2 : decode cX11_someFits 2 = .ok (.iload_n 2, 1) := by decide +kernel
theorem dX11_someFits_3 : decode cX11_someFits 3 = .ok (.bipush 72, 2) := by decide +kernel
theorem dX11_someFits_5 : decode cX11_someFits 5 = .ok (.if_icmp .ge 20, 3) := by decide +kernel
theorem dX11_someFits_8 : decode cX11_someFits 8 = .ok (.aload_n 0, 1) := by decide +kernel
theorem dX11_someFits_9 : decode cX11_someFits 9 = .ok (.iload_n 2, 1) := by decide +kernel
theorem dX11_someFits_10 : decode cX11_someFits 10 = .ok (.iload_n 1, 1) := by decide +kernel
theorem dX11_someFits_11 : decode cX11_someFits 11 = .ok (.invokevirtual 289, 3) := by decide +kernel
theorem dX11_someFits_14 : decode cX11_someFits 14 = .ok (.ifCond .eq 5, 3) := by decide +kernel
theorem dX11_someFits_17 : decode cX11_someFits 17 = .ok (.iconst 1, 1) := by decide +kernel
theorem dX11_someFits_18 : decode cX11_someFits 18 = .ok (.ireturn, 1) := by decide +kernel
theorem dX11_someFits_19 : decode cX11_someFits 19 = .ok (.iinc 2 1, 3) := by decide +kernel
theorem dX11_someFits_22 : decode cX11_someFits 22 = .ok (.goto (-20), 3) := by decide +kernel
theorem dX11_someFits_25 : decode cX11_someFits 25 = .ok (.iconst 0, 1) := by decide +kernel
theorem dX11_someFits_26 : decode cX11_someFits 26 = .ok (.ireturn, 1) := by decide +kernel
theorem dX11_turnByLot_0 : decode cX11_turnByLot 0 = .ok (.iconst 0, 1) := by decide +kernel
theorem dX11_turnByLot_1 : decode cX11_turnByLot 1 = .ok (.istore_n 1, 1) := by decide +kernel
theorem dX11_turnByLot_2 : decode cX11_turnByLot 2 = .ok (.iconst 0, 1) := by decide +kernel
theorem dX11_turnByLot_3 : decode cX11_turnByLot 3 = .ok (.istore_n 2, 1) := by decide +kernel
theorem dX11_turnByLot_4 : decode cX11_turnByLot 4 = .ok (.iload_n 2, 1) := by decide +kernel
theorem dX11_turnByLot_5 : decode cX11_turnByLot 5 = .ok (.aload_n 0, 1) := by decide +kernel
theorem dX11_turnByLot_6 : decode cX11_turnByLot 6 = .ok (.getfield 15, 3) := by decide +kernel
theorem dX11_turnByLot_9 : decode cX11_turnByLot 9 = .ok (.getfield 91, 3) := by decide +kernel
theorem dX11_turnByLot_12 : decode cX11_turnByLot 12 = .ok (.if_icmp .ge 36, 3) := by decide +kernel
theorem dX11_turnByLot_15 : decode cX11_turnByLot 15 = .ok (.aload_n 0, 1) := by decide +kernel
theorem dX11_turnByLot_16 : decode cX11_turnByLot 16 = .ok (.iload_n 2, 1) := by decide +kernel
theorem dX11_turnByLot_17 : decode cX11_turnByLot 17 = .ok (.invokevirtual 114, 3) := by decide +kernel
theorem dX11_turnByLot_20 : decode cX11_turnByLot 20 = .ok (.ifCond .eq 22, 3) := by decide +kernel
theorem dX11_turnByLot_23 : decode cX11_turnByLot 23 = .ok (.aload_n 0, 1) := by decide +kernel
theorem dX11_turnByLot_24 : decode cX11_turnByLot 24 = .ok (.getfield 15, 3) := by decide +kernel
theorem dX11_turnByLot_27 : decode cX11_turnByLot 27 = .ok (.invokevirtual 301, 3) := by decide +kernel
theorem dX11_turnByLot_30 : decode cX11_turnByLot 30 = .ok (.ifCond .eq 12, 3) := by decide +kernel
theorem dX11_turnByLot_33 : decode cX11_turnByLot 33 = .ok (.iload_n 1, 1) := by decide +kernel
theorem dX11_turnByLot_34 : decode cX11_turnByLot 34 = .ok (.aload_n 0, 1) := by decide +kernel
theorem dX11_turnByLot_35 : decode cX11_turnByLot 35 = .ok (.getfield 68, 3) := by decide +kernel
theorem dX11_turnByLot_38 : decode cX11_turnByLot 38 = .ok (.iload_n 2, 1) := by decide +kernel
theorem dX11_turnByLot_39 : decode cX11_turnByLot 39 = .ok (.iaload, 1) := by decide +kernel
theorem dX11_turnByLot_40 : decode cX11_turnByLot 40 = .ok (.iadd, 1) := by decide +kernel
theorem dX11_turnByLot_41 : decode cX11_turnByLot 41 = .ok (.istore_n 1, 1) := by decide +kernel
theorem dX11_turnByLot_42 : decode cX11_turnByLot 42 = .ok (.iinc 2 1, 3) := by decide +kernel
theorem dX11_turnByLot_45 : decode cX11_turnByLot 45 = .ok (.goto (-41), 3) := by decide +kernel
theorem dX11_turnByLot_48 : decode cX11_turnByLot 48 = .ok (.iload_n 1, 1) := by decide +kernel
theorem dX11_turnByLot_49 : decode cX11_turnByLot 49 = .ok (.aload_n 0, 1) := by decide +kernel
theorem dX11_turnByLot_50 : decode cX11_turnByLot 50 = .ok (.getfield 15, 3) := by decide +kernel
theorem dX11_turnByLot_53 : decode cX11_turnByLot 53 = .ok (.getfield 137, 3) := by decide +kernel
theorem dX11_turnByLot_56 : decode cX11_turnByLot 56 = .ok (.invokestatic 191, 3) := by decide +kernel
theorem dX11_turnByLot_59 : decode cX11_turnByLot 59 = .ok (.ireturn, 1) := by decide +kernel
theorem dX11_prove_0 : decode cX11_prove 0 = .ok (.iload_n 1, 1) := by decide +kernel
theorem dX11_prove_1 : decode cX11_prove 1 = .ok (.invokestatic 134, 3) := by decide +kernel
theorem dX11_prove_4 : decode cX11_prove 4 = .ok (.ifCond .ne 5, 3) := by decide +kernel
theorem dX11_prove_7 : decode cX11_prove 7 = .ok (.iconst (-1), 1) := by decide +kernel
theorem dX11_prove_8 : decode cX11_prove 8 = .ok (.ireturn, 1) := by decide +kernel
theorem dX11_prove_9 : decode cX11_prove 9 = .ok (.aload_n 0, 1) := by decide +kernel
theorem dX11_prove_10 : decode cX11_prove 10 = .ok (.iload_n 1, 1) := by decide +kernel
theorem dX11_prove_11 : decode cX11_prove 11 = .ok (.aload_n 0, 1) := by decide +kernel
theorem dX11_prove_12 : decode cX11_prove 12 = .ok (.getfield 15, 3) := by decide +kernel
theorem dX11_prove_15 : decode cX11_prove 15 = .ok (.getfield 137, 3) := by decide +kernel
theorem dX11_prove_18 : decode cX11_prove 18 = .ok (.iconst 4, 1) := by decide +kernel
theorem dX11_prove_19 : decode cX11_prove 19 = .ok (.invokevirtual 248, 3) := by decide +kernel
theorem dX11_prove_22 : decode cX11_prove 22 = .ok (.istore_n 2, 1) := by decide +kernel
theorem dX11_prove_23 : decode cX11_prove 23 = .ok (.iload_n 2, 1) := by decide +kernel
theorem dX11_prove_24 : decode cX11_prove 24 = .ok (.ifCond .ge 6, 3) := by decide +kernel
theorem dX11_prove_27 : decode cX11_prove 27 = .ok (.bipush (-3), 2) := by decide +kernel
theorem dX11_prove_29 : decode cX11_prove 29 = .ok (.ireturn, 1) := by decide +kernel
theorem dX11_prove_30 : decode cX11_prove 30 = .ok (.aload_n 0, 1) := by decide +kernel
theorem dX11_prove_31 : decode cX11_prove 31 = .ok (.getfield 15, 3) := by decide +kernel
theorem dX11_prove_34 : decode cX11_prove 34 = .ok (.getfield 117, 3) := by decide +kernel
theorem dX11_prove_37 : decode cX11_prove 37 = .ok (.istore_n 3, 1) := by decide +kernel
theorem dX11_prove_38 : decode cX11_prove 38 = .ok (.aload_n 0, 1) := by decide +kernel
theorem dX11_prove_39 : decode cX11_prove 39 = .ok (.getfield 15, 3) := by decide +kernel
theorem dX11_prove_42 : decode cX11_prove 42 = .ok (.getfield 107, 3) := by decide +kernel
theorem dX11_prove_45 : decode cX11_prove 45 = .ok (.istore 4, 2) := by decide +kernel
theorem dX11_prove_47 : decode cX11_prove 47 = .ok (.iconst 0, 1) := by decide +kernel
theorem dX11_prove_48 : decode cX11_prove 48 = .ok (.istore 5, 2) := by decide +kernel
theorem dX11_prove_50 : decode cX11_prove 50 = .ok (.iload 5, 2) := by decide +kernel
theorem dX11_prove_52 : decode cX11_prove 52 = .ok (.iload_n 2, 1) := by decide +kernel
theorem dX11_prove_53 : decode cX11_prove 53 = .ok (.if_icmp .ge 77, 3) := by decide +kernel
theorem dX11_prove_56 : decode cX11_prove 56 = .ok (.iload 4, 2) := by decide +kernel
theorem dX11_prove_58 : decode cX11_prove 58 = .ok (.aload_n 0, 1) := by decide +kernel
theorem dX11_prove_59 : decode cX11_prove 59 = .ok (.getfield 74, 3) := by decide +kernel
theorem dX11_prove_62 : decode cX11_prove 62 = .ok (.iload 5, 2) := by decide +kernel
theorem dX11_prove_64 : decode cX11_prove 64 = .ok (.iaload, 1) := by decide +kernel
theorem dX11_prove_65 : decode cX11_prove 65 = .ok (.invokestatic 259, 3) := by decide +kernel
theorem dX11_prove_68 : decode cX11_prove 68 = .ok (.istore 4, 2) := by decide +kernel
theorem dX11_prove_70 : decode cX11_prove 70 = .ok (.iload 5, 2) := by decide +kernel
theorem dX11_prove_72 : decode cX11_prove 72 = .ok (.iconst 3, 1) := by decide +kernel
theorem dX11_prove_73 : decode cX11_prove 73 = .ok (.imul, 1) := by decide +kernel
theorem dX11_prove_74 : decode cX11_prove 74 = .ok (.istore 6, 2) := by decide +kernel
theorem dX11_prove_76 : decode cX11_prove 76 = .ok (.aload_n 0, 1) := by decide +kernel
theorem dX11_prove_77 : decode cX11_prove 77 = .ok (.getfield 77, 3) := by decide +kernel
theorem dX11_prove_80 : decode cX11_prove 80 = .ok (.iload 6, 2) := by decide +kernel
theorem dX11_prove_82 : decode cX11_prove 82 = .ok (.aload_n 0, 1) := by decide +kernel
theorem dX11_prove_83 : decode cX11_prove 83 = .ok (.getfield 74, 3) := by decide +kernel
theorem dX11_prove_86 : decode cX11_prove 86 = .ok (.iload 5, 2) := by decide +kernel
theorem dX11_prove_88 : decode cX11_prove 88 = .ok (.iaload, 1) := by decide +kernel
theorem dX11_prove_89 : decode cX11_prove 89 = .ok (.iastore, 1) := by decide +kernel
theorem dX11_prove_90 : decode cX11_prove 90 = .ok (.aload_n 0, 1) := by decide +kernel
theorem dX11_prove_91 : decode cX11_prove 91 = .ok (.getfield 77, 3) := by decide +kernel
theorem dX11_prove_94 : decode cX11_prove 94 = .ok (.iload 6, 2) := by decide +kernel
theorem dX11_prove_96 : decode cX11_prove 96 = .ok (.iconst 1, 1) := by decide +kernel
theorem dX11_prove_97 : decode cX11_prove 97 = .ok (.iadd, 1) := by decide +kernel
theorem dX11_prove_98 : decode cX11_prove 98 = .ok (.aload_n 0, 1) := by decide +kernel
theorem dX11_prove_99 : decode cX11_prove 99 = .ok (.iload_n 3, 1) := by decide +kernel
theorem dX11_prove_100 : decode cX11_prove 100 = .ok (.iload 4, 2) := by decide +kernel
theorem dX11_prove_102 : decode cX11_prove 102 = .ok (.invokevirtual 173, 3) := by decide +kernel
theorem dX11_prove_105 : decode cX11_prove 105 = .ok (.iastore, 1) := by decide +kernel
theorem dX11_prove_106 : decode cX11_prove 106 = .ok (.aload_n 0, 1) := by decide +kernel
theorem dX11_prove_107 : decode cX11_prove 107 = .ok (.iload_n 3, 1) := by decide +kernel
theorem dX11_prove_108 : decode cX11_prove 108 = .ok (.iload 4, 2) := by decide +kernel
theorem dX11_prove_110 : decode cX11_prove 110 = .ok (.invokevirtual 188, 3) := by decide +kernel
theorem dX11_prove_113 : decode cX11_prove 113 = .ok (.istore_n 3, 1) := by decide +kernel
theorem dX11_prove_114 : decode cX11_prove 114 = .ok (.aload_n 0, 1) := by decide +kernel
theorem dX11_prove_115 : decode cX11_prove 115 = .ok (.getfield 77, 3) := by decide +kernel
theorem dX11_prove_118 : decode cX11_prove 118 = .ok (.iload 6, 2) := by decide +kernel
theorem dX11_prove_120 : decode cX11_prove 120 = .ok (.iconst 2, 1) := by decide +kernel
theorem dX11_prove_121 : decode cX11_prove 121 = .ok (.iadd, 1) := by decide +kernel
theorem dX11_prove_122 : decode cX11_prove 122 = .ok (.iload_n 3, 1) := by decide +kernel
theorem dX11_prove_123 : decode cX11_prove 123 = .ok (.iastore, 1) := by decide +kernel
theorem dX11_prove_124 : decode cX11_prove 124 = .ok (.iinc 5 1, 3) := by decide +kernel
theorem dX11_prove_127 : decode cX11_prove 127 = .ok (.goto (-77), 3) := by decide +kernel
theorem dX11_prove_130 : decode cX11_prove 130 = .ok (.aload_n 0, 1) := by decide +kernel
theorem dX11_prove_131 : decode cX11_prove 131 = .ok (.iload_n 2, 1) := by decide +kernel
theorem dX11_prove_132 : decode cX11_prove 132 = .ok (.putfield 305, 3) := by decide +kernel
theorem dX11_prove_135 : decode cX11_prove 135 = .ok (.iload_n 2, 1) := by decide +kernel
theorem dX11_prove_136 : decode cX11_prove 136 = .ok (.ireturn, 1) := by decide +kernel
theorem dX11_row_0 : decode cX11_row 0 = .ok (.aload_n 0, 1) := by decide +kernel
theorem dX11_row_1 : decode cX11_row 1 = .ok (.iload_n 1, 1) := by decide +kernel
theorem dX11_row_2 : decode cX11_row 2 = .ok (.iload_n 2, 1) := by decide +kernel
theorem dX11_row_3 : decode cX11_row 3 = .ok (.invokevirtual 308, 3) := by decide +kernel
theorem dX11_row_6 : decode cX11_row 6 = .ok (.ifCond .eq 16, 3) := by decide +kernel
theorem dX11_row_9 : decode cX11_row 9 = .ok (.aload_n 0, 1) := by decide +kernel
theorem dX11_row_10 : decode cX11_row 10 = .ok (.getfield 77, 3) := by decide +kernel
theorem dX11_row_13 : decode cX11_row 13 = .ok (.iload_n 1, 1) := by decide +kernel
theorem dX11_row_14 : decode cX11_row 14 = .ok (.iconst 3, 1) := by decide +kernel
theorem dX11_row_15 : decode cX11_row 15 = .ok (.imul, 1) := by decide +kernel
theorem dX11_row_16 : decode cX11_row 16 = .ok (.iload_n 2, 1) := by decide +kernel
theorem dX11_row_17 : decode cX11_row 17 = .ok (.iadd, 1) := by decide +kernel
theorem dX11_row_18 : decode cX11_row 18 = .ok (.iaload, 1) := by decide +kernel
theorem dX11_row_19 : decode cX11_row 19 = .ok (.goto 5, 3) := by decide +kernel
theorem dX11_row_22 : decode cX11_row 22 = .ok (.bipush (-9), 2) := by decide +kernel
theorem dX11_row_24 : decode cX11_row 24 = .ok (.ireturn, 1) := by decide +kernel
theorem dX11_alterRow_0 : decode cX11_alterRow 0 = .ok (.aload_n 0, 1) := by decide +kernel
theorem dX11_alterRow_1 : decode cX11_alterRow 1 = .ok (.iload_n 1, 1) := by decide +kernel
theorem dX11_alterRow_2 : decode cX11_alterRow 2 = .ok (.iload_n 2, 1) := by decide +kernel
theorem dX11_alterRow_3 : decode cX11_alterRow 3 = .ok (.invokevirtual 308, 3) := by decide +kernel
theorem dX11_alterRow_6 : decode cX11_alterRow 6 = .ok (.ifCond .ne 5, 3) := by decide +kernel
theorem dX11_alterRow_9 : decode cX11_alterRow 9 = .ok (.iconst 0, 1) := by decide +kernel
theorem dX11_alterRow_10 : decode cX11_alterRow 10 = .ok (.ireturn, 1) := by decide +kernel
theorem dX11_alterRow_11 : decode cX11_alterRow 11 = .ok (.iload_n 1, 1) := by decide +kernel
theorem dX11_alterRow_12 : decode cX11_alterRow 12 = .ok (.iconst 3, 1) := by decide +kernel
theorem dX11_alterRow_13 : decode cX11_alterRow 13 = .ok (.imul, 1) := by decide +kernel
theorem dX11_alterRow_14 : decode cX11_alterRow 14 = .ok (.iload_n 2, 1) := by decide +kernel
theorem dX11_alterRow_15 : decode cX11_alterRow 15 = .ok (.iadd, 1) := by decide +kernel
theorem dX11_alterRow_16 : decode cX11_alterRow 16 = .ok (.istore 4, 2) := by decide +kernel
theorem dX11_alterRow_18 : decode cX11_alterRow 18 = .ok (.aload_n 0, 1) := by decide +kernel
theorem dX11_alterRow_19 : decode cX11_alterRow 19 = .ok (.getfield 77, 3) := by decide +kernel
theorem dX11_alterRow_22 : decode cX11_alterRow 22 = .ok (.iload 4, 2) := by decide +kernel
theorem dX11_alterRow_24 : decode cX11_alterRow 24 = .ok (.iaload, 1) := by decide +kernel
theorem dX11_alterRow_25 : decode cX11_alterRow 25 = .ok (.iload_n 3, 1) := by decide +kernel
theorem dX11_alterRow_26 : decode cX11_alterRow 26 = .ok (.if_icmp .ne 7, 3) := by decide +kernel
theorem dX11_alterRow_29 : decode cX11_alterRow 29 = .ok (.iconst 1, 1) := by decide +kernel
theorem dX11_alterRow_30 : decode cX11_alterRow 30 = .ok (.goto 4, 3) := by decide +kernel
theorem dX11_alterRow_33 : decode cX11_alterRow 33 = .ok (.iconst 0, 1) := by decide +kernel
theorem dX11_alterRow_34 : decode cX11_alterRow 34 = .ok (.istore 5, 2) := by decide +kernel
theorem dX11_alterRow_36 : decode cX11_alterRow 36 = .ok (.aload_n 0, 1) := by decide +kernel
theorem dX11_alterRow_37 : decode cX11_alterRow 37 = .ok (.getfield 77, 3) := by decide +kernel
theorem dX11_alterRow_40 : decode cX11_alterRow 40 = .ok (.iload 4, 2) := by decide +kernel
theorem dX11_alterRow_42 : decode cX11_alterRow 42 = .ok (.iload_n 3, 1) := by decide +kernel
theorem dX11_alterRow_43 : decode cX11_alterRow 43 = .ok (.iastore, 1) := by decide +kernel
theorem dX11_alterRow_44 : decode cX11_alterRow 44 = .ok (.iload 5, 2) := by decide +kernel
theorem dX11_alterRow_46 : decode cX11_alterRow 46 = .ok (.ifCond .eq 7, 3) := by decide +kernel
theorem dX11_alterRow_49 : decode cX11_alterRow 49 = .ok (.iconst 1, 1) := by decide +kernel
theorem dX11_alterRow_50 : decode cX11_alterRow 50 = .ok (.goto 4, 3) := by decide +kernel
theorem dX11_alterRow_53 : decode cX11_alterRow 53 = .ok (.iconst 2, 1) := by decide +kernel
theorem dX11_alterRow_54 : decode cX11_alterRow 54 = .ok (.ireturn, 1) := by decide +kernel
theorem dX11_judge_0 : decode cX11_judge 0 = .ok (.iload_n 1, 1) := by decide +kernel
theorem dX11_judge_1 : decode cX11_judge 1 = .ok (.invokestatic 134, 3) := by decide +kernel
theorem dX11_judge_4 : decode cX11_judge 4 = .ok (.ifCond .ne 5, 3) := by decide +kernel
theorem dX11_judge_7 : decode cX11_judge 7 = .ok (.iconst (-1), 1) := by decide +kernel
theorem dX11_judge_8 : decode cX11_judge 8 = .ok (.ireturn, 1) := by decide +kernel
theorem dX11_judge_9 : decode cX11_judge 9 = .ok (.aload_n 0, 1) := by decide +kernel
theorem dX11_judge_10 : decode cX11_judge 10 = .ok (.getfield 15, 3) := by decide +kernel
theorem dX11_judge_13 : decode cX11_judge 13 = .ok (.getfield 117, 3) := by decide +kernel
theorem dX11_judge_16 : decode cX11_judge 16 = .ok (.istore_n 2, 1) := by decide +kernel
theorem dX11_judge_17 : decode cX11_judge 17 = .ok (.aload_n 0, 1) := by decide +kernel
theorem dX11_judge_18 : decode cX11_judge 18 = .ok (.getfield 15, 3) := by decide +kernel
theorem dX11_judge_21 : decode cX11_judge 21 = .ok (.getfield 107, 3) := by decide +kernel
theorem dX11_judge_24 : decode cX11_judge 24 = .ok (.istore_n 3, 1) := by decide +kernel
theorem dX11_judge_25 : decode cX11_judge 25 = .ok (.iconst 0, 1) := by decide +kernel
theorem dX11_judge_26 : decode cX11_judge 26 = .ok (.istore 4, 2) := by decide +kernel
theorem dX11_judge_28 : decode cX11_judge 28 = .ok (.iload 4, 2) := by decide +kernel
theorem dX11_judge_30 : decode cX11_judge 30 = .ok (.aload_n 0, 1) := by decide +kernel
theorem dX11_judge_31 : decode cX11_judge 31 = .ok (.getfield 305, 3) := by decide +kernel
theorem dX11_judge_34 : decode cX11_judge 34 = .ok (.if_icmp .ge 131, 3) := by decide +kernel
theorem dX11_judge_37 : decode cX11_judge 37 = .ok (.iload 4, 2) := by decide +kernel
theorem dX11_judge_39 : decode cX11_judge 39 = .ok (.iconst 3, 1) := by decide +kernel
theorem dX11_judge_40 : decode cX11_judge 40 = .ok (.imul, 1) := by decide +kernel
theorem dX11_judge_41 : decode cX11_judge 41 = .ok (.istore 5, 2) := by decide +kernel
theorem dX11_judge_43 : decode cX11_judge 43 = .ok (.aload_n 0, 1) := by decide +kernel
theorem dX11_judge_44 : decode cX11_judge 44 = .ok (.aload_n 0, 1) := by decide +kernel
theorem dX11_judge_45 : decode cX11_judge 45 = .ok (.getfield 77, 3) := by decide +kernel
theorem dX11_judge_48 : decode cX11_judge 48 = .ok (.iload 5, 2) := by decide +kernel
theorem dX11_judge_50 : decode cX11_judge 50 = .ok (.iaload, 1) := by decide +kernel
theorem dX11_judge_51 : decode cX11_judge 51 = .ok (.invokevirtual 311, 3) := by decide +kernel
theorem dX11_judge_54 : decode cX11_judge 54 = .ok (.ifCond .ne 8, 3) := by decide +kernel
theorem dX11_judge_57 : decode cX11_judge 57 = .ok (.iload 4, 2) := by decide +kernel
theorem dX11_judge_59 : decode cX11_judge 59 = .ok (.iconst 1, 1) := by decide +kernel
theorem dX11_judge_60 : decode cX11_judge 60 = .ok (.iadd, 1) := by decide +kernel
theorem dX11_judge_61 : decode cX11_judge 61 = .ok (.ireturn, 1) := by decide +kernel
theorem dX11_judge_62 : decode cX11_judge 62 = .ok (.iload_n 3, 1) := by decide +kernel
theorem dX11_judge_63 : decode cX11_judge 63 = .ok (.aload_n 0, 1) := by decide +kernel
theorem dX11_judge_64 : decode cX11_judge 64 = .ok (.getfield 77, 3) := by decide +kernel
theorem dX11_judge_67 : decode cX11_judge 67 = .ok (.iload 5, 2) := by decide +kernel
theorem dX11_judge_69 : decode cX11_judge 69 = .ok (.iaload, 1) := by decide +kernel
theorem dX11_judge_70 : decode cX11_judge 70 = .ok (.invokestatic 259, 3) := by decide +kernel
theorem dX11_judge_73 : decode cX11_judge 73 = .ok (.istore_n 3, 1) := by decide +kernel
theorem dX11_judge_74 : decode cX11_judge 74 = .ok (.aload_n 0, 1) := by decide +kernel
theorem dX11_judge_75 : decode cX11_judge 75 = .ok (.iload_n 2, 1) := by decide +kernel
theorem dX11_judge_76 : decode cX11_judge 76 = .ok (.iload_n 3, 1) := by decide +kernel
theorem dX11_judge_77 : decode cX11_judge 77 = .ok (.invokevirtual 173, 3) := by decide +kernel
theorem dX11_judge_80 : decode cX11_judge 80 = .ok (.istore 6, 2) := by decide +kernel
theorem dX11_judge_82 : decode cX11_judge 82 = .ok (.iload_n 2, 1) := by decide +kernel
theorem dX11_judge_83 : decode cX11_judge 83 = .ok (.iload 6, 2) := by decide +kernel
theorem dX11_judge_85 : decode cX11_judge 85 = .ok (.aload_n 0, 1) := by decide +kernel
theorem dX11_judge_86 : decode cX11_judge 86 = .ok (.getfield 15, 3) := by decide +kernel
theorem dX11_judge_89 : decode cX11_judge 89 = .ok (.getfield 137, 3) := by decide +kernel
theorem dX11_judge_92 : decode cX11_judge 92 = .ok (.invokestatic 191, 3) := by decide +kernel
theorem dX11_judge_95 : decode cX11_judge 95 = .ok (.invokestatic 194, 3) := by decide +kernel
theorem dX11_judge_98 : decode cX11_judge 98 = .ok (.istore_n 2, 1) := by decide +kernel
theorem dX11_judge_99 : decode cX11_judge 99 = .ok (.iload 4, 2) := by decide +kernel
theorem dX11_judge_101 : decode cX11_judge 101 = .ok (.aload_n 0, 1) := by decide +kernel
theorem dX11_judge_102 : decode cX11_judge 102 = .ok (.getfield 305, 3) := by decide +kernel
theorem dX11_judge_105 : decode cX11_judge 105 = .ok (.iconst 1, 1) := by decide +kernel
theorem dX11_judge_106 : decode cX11_judge 106 = .ok (.isub, 1) := by decide +kernel
theorem dX11_judge_107 : decode cX11_judge 107 = .ok (.if_icmp .ne 7, 3) := by decide +kernel
theorem dX11_judge_110 : decode cX11_judge 110 = .ok (.iconst 1, 1) := by decide +kernel
theorem dX11_judge_111 : decode cX11_judge 111 = .ok (.goto 4, 3) := by decide +kernel
theorem dX11_judge_114 : decode cX11_judge 114 = .ok (.iconst 0, 1) := by decide +kernel
theorem dX11_judge_115 : decode cX11_judge 115 = .ok (.istore 7, 2) := by decide +kernel
theorem dX11_judge_117 : decode cX11_judge 117 = .ok (.aload_n 0, 1) := by decide +kernel
theorem dX11_judge_118 : decode cX11_judge 118 = .ok (.getfield 77, 3) := by decide +kernel
theorem dX11_judge_121 : decode cX11_judge 121 = .ok (.iload 5, 2) := by decide +kernel
theorem dX11_judge_123 : decode cX11_judge 123 = .ok (.iconst 1, 1) := by decide +kernel
theorem dX11_judge_124 : decode cX11_judge 124 = .ok (.iadd, 1) := by decide +kernel
theorem dX11_judge_125 : decode cX11_judge 125 = .ok (.iaload, 1) := by decide +kernel
theorem dX11_judge_126 : decode cX11_judge 126 = .ok (.iload 6, 2) := by decide +kernel
theorem dX11_judge_128 : decode cX11_judge 128 = .ok (.if_icmp .ne 26, 3) := by decide +kernel
theorem dX11_judge_131 : decode cX11_judge 131 = .ok (.aload_n 0, 1) := by decide +kernel
theorem dX11_judge_132 : decode cX11_judge 132 = .ok (.getfield 77, 3) := by decide +kernel
theorem dX11_judge_135 : decode cX11_judge 135 = .ok (.iload 5, 2) := by decide +kernel
theorem dX11_judge_137 : decode cX11_judge 137 = .ok (.iconst 2, 1) := by decide +kernel
theorem dX11_judge_138 : decode cX11_judge 138 = .ok (.iadd, 1) := by decide +kernel
theorem dX11_judge_139 : decode cX11_judge 139 = .ok (.iaload, 1) := by decide +kernel
theorem dX11_judge_140 : decode cX11_judge 140 = .ok (.iload_n 2, 1) := by decide +kernel
theorem dX11_judge_141 : decode cX11_judge 141 = .ok (.if_icmp .ne 13, 3) := by decide +kernel
theorem dX11_judge_144 : decode cX11_judge 144 = .ok (.iload 7, 2) := by decide +kernel
theorem dX11_judge_146 : decode cX11_judge 146 = .ok (.ifCond .eq 13, 3) := by decide +kernel
theorem dX11_judge_149 : decode cX11_judge 149 = .ok (.iload_n 2, 1) := by decide +kernel
theorem dX11_judge_150 : decode cX11_judge 150 = .ok (.iload_n 1, 1) := by decide +kernel
theorem dX11_judge_151 : decode cX11_judge 151 = .ok (.if_icmp .eq 8, 3) := by decide +kernel
theorem dX11_judge_154 : decode cX11_judge 154 = .ok (.iload 4, 2) := by decide +kernel
theorem dX11_judge_156 : decode cX11_judge 156 = .ok (.iconst 1, 1) := by decide +kernel
theorem dX11_judge_157 : decode cX11_judge 157 = .ok (.iadd, 1) := by decide +kernel
theorem dX11_judge_158 : decode cX11_judge 158 = .ok (.ireturn, 1) := by decide +kernel
theorem dX11_judge_159 : decode cX11_judge 159 = .ok (.iinc 4 1, 3) := by decide +kernel
theorem dX11_judge_162 : decode cX11_judge 162 = .ok (.goto (-134), 3) := by decide +kernel
theorem dX11_judge_165 : decode cX11_judge 165 = .ok (.iconst 0, 1) := by decide +kernel
theorem dX11_judge_166 : decode cX11_judge 166 = .ok (.ireturn, 1) := by decide +kernel
theorem dX11_isInRow_0 : decode cX11_isInRow 0 = .ok (.iload_n 1, 1) := by decide +kernel
theorem dX11_isInRow_1 : decode cX11_isInRow 1 = .ok (.ifCond .lt 24, 3) := by decide +kernel
theorem dX11_isInRow_4 : decode cX11_isInRow 4 = .ok (.iload_n 1, 1) := by decide +kernel
theorem dX11_isInRow_5 : decode cX11_isInRow 5 = .ok (.aload_n 0, 1) := by decide +kernel
theorem dX11_isInRow_6 : decode cX11_isInRow 6 = .ok (.getfield 305, 3) := by decide +kernel
theorem dX11_isInRow_9 : decode cX11_isInRow 9 = .ok (.if_icmp .ge 16, 3) := by decide +kernel
theorem dX11_isInRow_12 : decode cX11_isInRow 12 = .ok (.iload_n 2, 1) := by decide +kernel
theorem dX11_isInRow_13 : decode cX11_isInRow 13 = .ok (.iconst 0, 1) := by decide +kernel
theorem dX11_isInRow_14 : decode cX11_isInRow 14 = .ok (.iconst 2, 1) := by decide +kernel
theorem dX11_isInRow_15 : decode cX11_isInRow 15 = .ok (.invokestatic 83, 3) := by decide +kernel
theorem dX11_isInRow_18 : decode cX11_isInRow 18 = .ok (.ifCond .eq 7, 3) := by decide +kernel
theorem dX11_isInRow_21 : decode cX11_isInRow 21 = .ok (.iconst 1, 1) := by decide +kernel
theorem dX11_isInRow_22 : decode cX11_isInRow 22 = .ok (.goto 4, 3) := by decide +kernel
theorem dX11_isInRow_25 : decode cX11_isInRow 25 = .ok (.iconst 0, 1) := by decide +kernel
theorem dX11_isInRow_26 : decode cX11_isInRow 26 = .ok (.ireturn, 1) := by decide +kernel
theorem dX11_sheet_0 : decode cX11_sheet 0 = .ok (.iload_n 1, 1) := by decide +kernel
theorem dX11_sheet_1 : decode cX11_sheet 1 = .ok (.iconst 0, 1) := by decide +kernel
theorem dX11_sheet_2 : decode cX11_sheet 2 = .ok (.iconst 3, 1) := by decide +kernel
theorem dX11_sheet_3 : decode cX11_sheet 3 = .ok (.invokestatic 83, 3) := by decide +kernel
theorem dX11_sheet_6 : decode cX11_sheet 6 = .ok (.ifCond .eq 12, 3) := by decide +kernel
theorem dX11_sheet_9 : decode cX11_sheet 9 = .ok (.iload_n 2, 1) := by decide +kernel
theorem dX11_sheet_10 : decode cX11_sheet 10 = .ok (.iconst (-1), 1) := by decide +kernel
theorem dX11_sheet_11 : decode cX11_sheet 11 = .ok (.iconst 4, 1) := by decide +kernel
theorem dX11_sheet_12 : decode cX11_sheet 12 = .ok (.invokestatic 83, 3) := by decide +kernel
theorem dX11_sheet_15 : decode cX11_sheet 15 = .ok (.ifCond .ne 5, 3) := by decide +kernel
theorem dX11_sheet_18 : decode cX11_sheet 18 = .ok (.iconst (-1), 1) := by decide +kernel
theorem dX11_sheet_19 : decode cX11_sheet 19 = .ok (.ireturn, 1) := by decide +kernel
theorem dX11_sheet_20 : decode cX11_sheet 20 = .ok (.iload_n 2, 1) := by decide +kernel
theorem dX11_sheet_21 : decode cX11_sheet 21 = .ok (.iconst (-1), 1) := by decide +kernel
theorem dX11_sheet_22 : decode cX11_sheet 22 = .ok (.if_icmp .eq 11, 3) := by decide +kernel
theorem dX11_sheet_25 : decode cX11_sheet 25 = .ok (.iload_n 3, 1) := by decide +kernel
theorem dX11_sheet_26 : decode cX11_sheet 26 = .ok (.bipush 40, 2) := by decide +kernel
theorem dX11_sheet_28 : decode cX11_sheet 28 = .ok (.if_icmp .le 5, 3) := by decide +kernel
theorem dX11_sheet_31 : decode cX11_sheet 31 = .ok (.iconst (-1), 1) := by decide +kernel
theorem dX11_sheet_32 : decode cX11_sheet 32 = .ok (.ireturn, 1) := by decide +kernel
theorem dX11_sheet_33 : decode cX11_sheet 33 = .ok (.iload_n 2, 1) := by decide +kernel
theorem dX11_sheet_34 : decode cX11_sheet 34 = .ok (.iconst (-1), 1) := by decide +kernel
theorem dX11_sheet_35 : decode cX11_sheet 35 = .ok (.if_icmp .eq 10, 3) := by decide +kernel
theorem dX11_sheet_38 : decode cX11_sheet 38 = .ok (.iload_n 3, 1) := by decide +kernel
theorem dX11_sheet_39 : decode cX11_sheet 39 = .ok (.ifCond .ge 6, 3) := by decide +kernel
theorem dX11_sheet_42 : decode cX11_sheet 42 = .ok (.bipush (-14), 2) := by decide +kernel
theorem dX11_sheet_44 : decode cX11_sheet 44 = .ok (.ireturn, 1) := by decide +kernel
theorem dX11_sheet_45 : decode cX11_sheet 45 = .ok (.aload_n 0, 1) := by decide +kernel
theorem dX11_sheet_46 : decode cX11_sheet 46 = .ok (.getfield 60, 3) := by decide +kernel
theorem dX11_sheet_49 : decode cX11_sheet 49 = .ok (.iload_n 1, 1) := by decide +kernel
theorem dX11_sheet_50 : decode cX11_sheet 50 = .ok (.iload_n 2, 1) := by decide +kernel
theorem dX11_sheet_51 : decode cX11_sheet 51 = .ok (.iload_n 2, 1) := by decide +kernel
theorem dX11_sheet_52 : decode cX11_sheet 52 = .ok (.iconst (-1), 1) := by decide +kernel
theorem dX11_sheet_53 : decode cX11_sheet 53 = .ok (.if_icmp .ne 7, 3) := by decide +kernel
theorem dX11_sheet_56 : decode cX11_sheet 56 = .ok (.iconst 0, 1) := by decide +kernel
theorem dX11_sheet_57 : decode cX11_sheet 57 = .ok (.goto 4, 3) := by decide +kernel
theorem dX11_sheet_60 : decode cX11_sheet 60 = .ok (.iload_n 3, 1) := by decide +kernel
theorem dX11_sheet_61 : decode cX11_sheet 61 = .ok (.invokevirtual 314, 3) := by decide +kernel
theorem dX11_sheet_64 : decode cX11_sheet 64 = .ok (.iconst 1, 1) := by decide +kernel
theorem dX11_sheet_65 : decode cX11_sheet 65 = .ok (.ireturn, 1) := by decide +kernel
theorem dX11_write_0 : decode cX11_write 0 = .ok (.iload_n 1, 1) := by decide +kernel
theorem dX11_write_1 : decode cX11_write 1 = .ok (.iconst 0, 1) := by decide +kernel
theorem dX11_write_2 : decode cX11_write 2 = .ok (.iconst 3, 1) := by decide +kernel
theorem dX11_write_3 : decode cX11_write 3 = .ok (.invokestatic 83, 3) := by decide +kernel
theorem dX11_write_6 : decode cX11_write 6 = .ok (.ifCond .ne 5, 3) := by decide +kernel
theorem dX11_write_9 : decode cX11_write 9 = .ok (.iconst (-1), 1) := by decide +kernel
theorem dX11_write_10 : decode cX11_write 10 = .ok (.ireturn, 1) := by decide +kernel
theorem dX11_write_11 : decode cX11_write 11 = .ok (.aload_n 0, 1) := by decide +kernel
theorem dX11_write_12 : decode cX11_write 12 = .ok (.getfield 60, 3) := by decide +kernel
theorem dX11_write_15 : decode cX11_write 15 = .ok (.getfield 317, 3) := by decide +kernel
theorem dX11_write_18 : decode cX11_write 18 = .ok (.iload_n 1, 1) := by decide +kernel
theorem dX11_write_19 : decode cX11_write 19 = .ok (.iaload, 1) := by decide +kernel
theorem dX11_write_20 : decode cX11_write 20 = .ok (.iconst (-1), 1) := by decide +kernel
theorem dX11_write_21 : decode cX11_write 21 = .ok (.if_icmp .ne 6, 3) := by decide +kernel
theorem dX11_write_24 : decode cX11_write 24 = .ok (.bipush (-11), 2) := by decide +kernel
theorem dX11_write_26 : decode cX11_write 26 = .ok (.ireturn, 1) := by decide +kernel
theorem dX11_write_27 : decode cX11_write 27 = .ok (.aload_n 0, 1) := by decide +kernel
theorem dX11_write_28 : decode cX11_write 28 = .ok (.getfield 60, 3) := by decide +kernel
theorem dX11_write_31 : decode cX11_write 31 = .ok (.iload_n 1, 1) := by decide +kernel
theorem dX11_write_32 : decode cX11_write 32 = .ok (.iload_n 2, 1) := by decide +kernel
theorem dX11_write_33 : decode cX11_write 33 = .ok (.invokevirtual 320, 3) := by decide +kernel
theorem dX11_write_36 : decode cX11_write 36 = .ok (.ifCond .ne 6, 3) := by decide +kernel
theorem dX11_write_39 : decode cX11_write 39 = .ok (.bipush (-12), 2) := by decide +kernel
theorem dX11_write_41 : decode cX11_write 41 = .ok (.ireturn, 1) := by decide +kernel
theorem dX11_write_42 : decode cX11_write 42 = .ok (.aload_n 0, 1) := by decide +kernel
theorem dX11_write_43 : decode cX11_write 43 = .ok (.getfield 60, 3) := by decide +kernel
theorem dX11_write_46 : decode cX11_write 46 = .ok (.iload_n 1, 1) := by decide +kernel
theorem dX11_write_47 : decode cX11_write 47 = .ok (.iload_n 2, 1) := by decide +kernel
theorem dX11_write_48 : decode cX11_write 48 = .ok (.iload_n 3, 1) := by decide +kernel
theorem dX11_write_49 : decode cX11_write 49 = .ok (.invokevirtual 323, 3) := by decide +kernel
theorem dX11_write_52 : decode cX11_write 52 = .ok (.iconst 1, 1) := by decide +kernel
theorem dX11_write_53 : decode cX11_write 53 = .ok (.ireturn, 1) := by decide +kernel
theorem dX11_item_0 : decode cX11_item 0 = .ok (.iload_n 1, 1) := by decide +kernel
theorem dX11_item_1 : decode cX11_item 1 = .ok (.iconst 0, 1) := by decide +kernel
theorem dX11_item_2 : decode cX11_item 2 = .ok (.iconst 3, 1) := by decide +kernel
theorem dX11_item_3 : decode cX11_item 3 = .ok (.invokestatic 83, 3) := by decide +kernel
theorem dX11_item_6 : decode cX11_item 6 = .ok (.ifCond .eq 12, 3) := by decide +kernel
theorem dX11_item_9 : decode cX11_item 9 = .ok (.iload_n 2, 1) := by decide +kernel
theorem dX11_item_10 : decode cX11_item 10 = .ok (.iconst 0, 1) := by decide +kernel
theorem dX11_item_11 : decode cX11_item 11 = .ok (.iconst 4, 1) := by decide +kernel
theorem dX11_item_12 : decode cX11_item 12 = .ok (.invokestatic 83, 3) := by decide +kernel
theorem dX11_item_15 : decode cX11_item 15 = .ok (.ifCond .ne 5, 3) := by decide +kernel
theorem dX11_item_18 : decode cX11_item 18 = .ok (.iconst (-1), 1) := by decide +kernel
theorem dX11_item_19 : decode cX11_item 19 = .ok (.ireturn, 1) := by decide +kernel
theorem dX11_item_20 : decode cX11_item 20 = .ok (.aload_n 0, 1) := by decide +kernel
theorem dX11_item_21 : decode cX11_item 21 = .ok (.getfield 60, 3) := by decide +kernel
theorem dX11_item_24 : decode cX11_item 24 = .ok (.iload_n 1, 1) := by decide +kernel
theorem dX11_item_25 : decode cX11_item 25 = .ok (.iload_n 2, 1) := by decide +kernel
theorem dX11_item_26 : decode cX11_item 26 = .ok (.invokevirtual 326, 3) := by decide +kernel
theorem dX11_item_29 : decode cX11_item 29 = .ok (.istore 4, 2) := by decide +kernel
theorem dX11_item_31 : decode cX11_item 31 = .ok (.iload 4, 2) := by decide +kernel
theorem dX11_item_33 : decode cX11_item 33 = .ok (.ifCond .ge 6, 3) := by decide +kernel
theorem dX11_item_36 : decode cX11_item 36 = .ok (.iload 4, 2) := by decide +kernel
theorem dX11_item_38 : decode cX11_item 38 = .ok (.ireturn, 1) := by decide +kernel
theorem dX11_item_39 : decode cX11_item 39 = .ok (.aload_n 0, 1) := by decide +kernel
theorem dX11_item_40 : decode cX11_item 40 = .ok (.getfield 60, 3) := by decide +kernel
theorem dX11_item_43 : decode cX11_item 43 = .ok (.iload_n 1, 1) := by decide +kernel
theorem dX11_item_44 : decode cX11_item 44 = .ok (.iload_n 3, 1) := by decide +kernel
theorem dX11_item_45 : decode cX11_item 45 = .ok (.invokevirtual 320, 3) := by decide +kernel
theorem dX11_item_48 : decode cX11_item 48 = .ok (.ifCond .eq 15, 3) := by decide +kernel
theorem dX11_item_51 : decode cX11_item 51 = .ok (.aload_n 0, 1) := by decide +kernel
theorem dX11_item_52 : decode cX11_item 52 = .ok (.getfield 60, 3) := by decide +kernel
theorem dX11_item_55 : decode cX11_item 55 = .ok (.iload_n 1, 1) := by decide +kernel
theorem dX11_item_56 : decode cX11_item 56 = .ok (.iload_n 3, 1) := by decide +kernel
theorem dX11_item_57 : decode cX11_item 57 = .ok (.invokevirtual 329, 3) := by decide +kernel
theorem dX11_item_60 : decode cX11_item 60 = .ok (.goto 5, 3) := by decide +kernel
theorem dX11_item_63 : decode cX11_item 63 = .ok (.bipush (-12), 2) := by decide +kernel
theorem dX11_item_65 : decode cX11_item 65 = .ok (.ireturn, 1) := by decide +kernel
theorem dX11_goAll_0 : decode cX11_goAll 0 = .ok (.aload_n 0, 1) := by decide +kernel
theorem dX11_goAll_1 : decode cX11_goAll 1 = .ok (.iload_n 1, 1) := by decide +kernel
theorem dX11_goAll_2 : decode cX11_goAll 2 = .ok (.iload_n 3, 1) := by decide +kernel
theorem dX11_goAll_3 : decode cX11_goAll 3 = .ok (.invokevirtual 332, 3) := by decide +kernel
theorem dX11_goAll_6 : decode cX11_goAll 6 = .ok (.istore 4, 2) := by decide +kernel
theorem dX11_goAll_8 : decode cX11_goAll 8 = .ok (.iload 4, 2) := by decide +kernel
theorem dX11_goAll_10 : decode cX11_goAll 10 = .ok (.ifCond .ge 6, 3) := by decide +kernel
theorem dX11_goAll_13 : decode cX11_goAll 13 = .ok (.iload 4, 2) := by decide +kernel
theorem dX11_goAll_15 : decode cX11_goAll 15 = .ok (.ireturn, 1) := by decide +kernel
theorem dX11_goAll_16 : decode cX11_goAll 16 = .ok (.iconst 0, 1) := by decide +kernel
theorem dX11_goAll_17 : decode cX11_goAll 17 = .ok (.istore 5, 2) := by decide +kernel
theorem dX11_goAll_19 : decode cX11_goAll 19 = .ok (.iconst 0, 1) := by decide +kernel
theorem dX11_goAll_20 : decode cX11_goAll 20 = .ok (.istore 6, 2) := by decide +kernel
theorem dX11_goAll_22 : decode cX11_goAll 22 = .ok (.iload 6, 2) := by decide +kernel
theorem dX11_goAll_24 : decode cX11_goAll 24 = .ok (.iload_n 3, 1) := by decide +kernel
theorem dX11_goAll_25 : decode cX11_goAll 25 = .ok (.if_icmp .ge 125, 3) := by decide +kernel
theorem dX11_goAll_28 : decode cX11_goAll 28 = .ok (.aload_n 0, 1) := by decide +kernel
theorem dX11_goAll_29 : decode cX11_goAll 29 = .ok (.getfield 60, 3) := by decide +kernel
theorem dX11_goAll_32 : decode cX11_goAll 32 = .ok (.iload_n 1, 1) := by decide +kernel
theorem dX11_goAll_33 : decode cX11_goAll 33 = .ok (.iload_n 2, 1) := by decide +kernel
theorem dX11_goAll_34 : decode cX11_goAll 34 = .ok (.iload 6, 2) := by decide +kernel
theorem dX11_goAll_36 : decode cX11_goAll 36 = .ok (.iadd, 1) := by decide +kernel
theorem dX11_goAll_37 : decode cX11_goAll 37 = .ok (.invokevirtual 320, 3) := by decide +kernel
theorem dX11_goAll_40 : decode cX11_goAll 40 = .ok (.ifCond .ne 6, 3) := by decide +kernel
theorem dX11_goAll_43 : decode cX11_goAll 43 = .ok (.bipush (-12), 2) := by decide +kernel
theorem dX11_goAll_45 : decode cX11_goAll 45 = .ok (.ireturn, 1) := by decide +kernel
theorem dX11_goAll_46 : decode cX11_goAll 46 = .ok (.aload_n 0, 1) := by decide +kernel
theorem dX11_goAll_47 : decode cX11_goAll 47 = .ok (.getfield 60, 3) := by decide +kernel
theorem dX11_goAll_50 : decode cX11_goAll 50 = .ok (.iload_n 1, 1) := by decide +kernel
theorem dX11_goAll_51 : decode cX11_goAll 51 = .ok (.iload_n 2, 1) := by decide +kernel
theorem dX11_goAll_52 : decode cX11_goAll 52 = .ok (.iload 6, 2) := by decide +kernel
theorem dX11_goAll_54 : decode cX11_goAll 54 = .ok (.iadd, 1) := by decide +kernel
theorem dX11_goAll_55 : decode cX11_goAll 55 = .ok (.invokevirtual 329, 3) := by decide +kernel
theorem dX11_goAll_58 : decode cX11_goAll 58 = .ok (.istore 7, 2) := by decide +kernel
theorem dX11_goAll_60 : decode cX11_goAll 60 = .ok (.aload_n 0, 1) := by decide +kernel
theorem dX11_goAll_61 : decode cX11_goAll 61 = .ok (.iload 7, 2) := by decide +kernel
theorem dX11_goAll_63 : decode cX11_goAll 63 = .ok (.invokevirtual 311, 3) := by decide +kernel
theorem dX11_goAll_66 : decode cX11_goAll 66 = .ok (.ifCond .eq 78, 3) := by decide +kernel
theorem dX11_goAll_69 : decode cX11_goAll 69 = .ok (.aload_n 0, 1) := by decide +kernel
theorem dX11_goAll_70 : decode cX11_goAll 70 = .ok (.getfield 15, 3) := by decide +kernel
theorem dX11_goAll_73 : decode cX11_goAll 73 = .ok (.getfield 140, 3) := by decide +kernel
theorem dX11_goAll_76 : decode cX11_goAll 76 = .ok (.sipush 9999, 3) := by decide +kernel
theorem dX11_goAll_79 : decode cX11_goAll 79 = .ok (.if_icmp .ge 65, 3) := by decide +kernel
theorem dX11_goAll_82 : decode cX11_goAll 82 = .ok (.aload_n 0, 1) := by decide +kernel
theorem dX11_goAll_83 : decode cX11_goAll 83 = .ok (.getfield 15, 3) := by decide +kernel
theorem dX11_goAll_86 : decode cX11_goAll 86 = .ok (.aload_n 0, 1) := by decide +kernel
theorem dX11_goAll_87 : decode cX11_goAll 87 = .ok (.getfield 15, 3) := by decide +kernel
theorem dX11_goAll_90 : decode cX11_goAll 90 = .ok (.getfield 107, 3) := by decide +kernel
theorem dX11_goAll_93 : decode cX11_goAll 93 = .ok (.iload 7, 2) := by decide +kernel
theorem dX11_goAll_95 : decode cX11_goAll 95 = .ok (.invokestatic 259, 3) := by decide +kernel
theorem dX11_goAll_98 : decode cX11_goAll 98 = .ok (.putfield 107, 3) := by decide +kernel
theorem dX11_goAll_101 : decode cX11_goAll 101 = .ok (.iload 5, 2) := by decide +kernel
theorem dX11_goAll_103 : decode cX11_goAll 103 = .ok (.aload_n 0, 1) := by decide +kernel
theorem dX11_goAll_104 : decode cX11_goAll 104 = .ok (.aload_n 0, 1) := by decide +kernel
theorem dX11_goAll_105 : decode cX11_goAll 105 = .ok (.getfield 15, 3) := by decide +kernel
theorem dX11_goAll_108 : decode cX11_goAll 108 = .ok (.getfield 117, 3) := by decide +kernel
theorem dX11_goAll_111 : decode cX11_goAll 111 = .ok (.aload_n 0, 1) := by decide +kernel
theorem dX11_goAll_112 : decode cX11_goAll 112 = .ok (.getfield 15, 3) := by decide +kernel
theorem dX11_goAll_115 : decode cX11_goAll 115 = .ok (.getfield 107, 3) := by decide +kernel
theorem dX11_goAll_118 : decode cX11_goAll 118 = .ok (.invokevirtual 173, 3) := by decide +kernel
theorem dX11_goAll_121 : decode cX11_goAll 121 = .ok (.ifCond .eq 7, 3) := by decide +kernel
theorem dX11_goAll_124 : decode cX11_goAll 124 = .ok (.iconst 1, 1) := by decide +kernel
theorem dX11_goAll_125 : decode cX11_goAll 125 = .ok (.goto 4, 3) := by decide +kernel
theorem dX11_goAll_128 : decode cX11_goAll 128 = .ok (.iconst 0, 1) := by decide +kernel
theorem dX11_goAll_129 : decode cX11_goAll 129 = .ok (.iadd, 1) := by decide +kernel
theorem dX11_goAll_130 : decode cX11_goAll 130 = .ok (.istore 5, 2) := by decide +kernel
theorem dX11_goAll_132 : decode cX11_goAll 132 = .ok (.aload_n 0, 1) := by decide +kernel
theorem dX11_goAll_133 : decode cX11_goAll 133 = .ok (.getfield 15, 3) := by decide +kernel
theorem dX11_goAll_136 : decode cX11_goAll 136 = .ok (.aload_n 0, 1) := by decide +kernel
theorem dX11_goAll_137 : decode cX11_goAll 137 = .ok (.invokevirtual 176, 3) := by decide +kernel
theorem dX11_goAll_140 : decode cX11_goAll 140 = .ok (.invokevirtual 179, 3) := by decide +kernel
theorem dX11_goAll_143 : decode cX11_goAll 143 = .ok (.pop, 1) := by decide +kernel
theorem dX11_goAll_144 : decode cX11_goAll 144 = .ok (.iinc 6 1, 3) := by decide +kernel
theorem dX11_goAll_147 : decode cX11_goAll 147 = .ok (.goto (-125), 3) := by decide +kernel
theorem dX11_goAll_150 : decode cX11_goAll 150 = .ok (.iload 5, 2) := by decide +kernel
theorem dX11_goAll_152 : decode cX11_goAll 152 = .ok (.ireturn, 1) := by decide +kernel
theorem dX11_wouldBe_0 : decode cX11_wouldBe 0 = .ok (.aload_n 0, 1) := by decide +kernel
theorem dX11_wouldBe_1 : decode cX11_wouldBe 1 = .ok (.iload_n 1, 1) := by decide +kernel
theorem dX11_wouldBe_2 : decode cX11_wouldBe 2 = .ok (.iload_n 3, 1) := by decide +kernel
theorem dX11_wouldBe_3 : decode cX11_wouldBe 3 = .ok (.invokevirtual 332, 3) := by decide +kernel
theorem dX11_wouldBe_6 : decode cX11_wouldBe 6 = .ok (.istore 4, 2) := by decide +kernel
theorem dX11_wouldBe_8 : decode cX11_wouldBe 8 = .ok (.iload 4, 2) := by decide +kernel
theorem dX11_wouldBe_10 : decode cX11_wouldBe 10 = .ok (.ifCond .ge 6, 3) := by decide +kernel
theorem dX11_wouldBe_13 : decode cX11_wouldBe 13 = .ok (.iload 4, 2) := by decide +kernel
theorem dX11_wouldBe_15 : decode cX11_wouldBe 15 = .ok (.ireturn, 1) := by decide +kernel
theorem dX11_wouldBe_16 : decode cX11_wouldBe 16 = .ok (.aload_n 0, 1) := by decide +kernel
theorem dX11_wouldBe_17 : decode cX11_wouldBe 17 = .ok (.getfield 15, 3) := by decide +kernel
theorem dX11_wouldBe_20 : decode cX11_wouldBe 20 = .ok (.getfield 117, 3) := by decide +kernel
theorem dX11_wouldBe_23 : decode cX11_wouldBe 23 = .ok (.istore 5, 2) := by decide +kernel
theorem dX11_wouldBe_25 : decode cX11_wouldBe 25 = .ok (.aload_n 0, 1) := by decide +kernel
theorem dX11_wouldBe_26 : decode cX11_wouldBe 26 = .ok (.getfield 15, 3) := by decide +kernel
theorem dX11_wouldBe_29 : decode cX11_wouldBe 29 = .ok (.getfield 107, 3) := by decide +kernel
theorem dX11_wouldBe_32 : decode cX11_wouldBe 32 = .ok (.istore 6, 2) := by decide +kernel
theorem dX11_wouldBe_34 : decode cX11_wouldBe 34 = .ok (.iconst 0, 1) := by decide +kernel
theorem dX11_wouldBe_35 : decode cX11_wouldBe 35 = .ok (.istore 7, 2) := by decide +kernel
theorem dX11_wouldBe_37 : decode cX11_wouldBe 37 = .ok (.iconst 0, 1) := by decide +kernel
theorem dX11_wouldBe_38 : decode cX11_wouldBe 38 = .ok (.istore 8, 2) := by decide +kernel
theorem dX11_wouldBe_40 : decode cX11_wouldBe 40 = .ok (.iload 8, 2) := by decide +kernel
theorem dX11_wouldBe_42 : decode cX11_wouldBe 42 = .ok (.iload_n 3, 1) := by decide +kernel
theorem dX11_wouldBe_43 : decode cX11_wouldBe 43 = .ok (.if_icmp .ge 93, 3) := by decide +kernel
theorem dX11_wouldBe_46 : decode cX11_wouldBe 46 = .ok (.aload_n 0, 1) := by decide +kernel
theorem dX11_wouldBe_47 : decode cX11_wouldBe 47 = .ok (.getfield 60, 3) := by decide +kernel
theorem dX11_wouldBe_50 : decode cX11_wouldBe 50 = .ok (.iload_n 1, 1) := by decide +kernel
theorem dX11_wouldBe_51 : decode cX11_wouldBe 51 = .ok (.iload_n 2, 1) := by decide +kernel
theorem dX11_wouldBe_52 : decode cX11_wouldBe 52 = .ok (.iload 8, 2) := by decide +kernel
theorem dX11_wouldBe_54 : decode cX11_wouldBe 54 = .ok (.iadd, 1) := by decide +kernel
theorem dX11_wouldBe_55 : decode cX11_wouldBe 55 = .ok (.invokevirtual 320, 3) := by decide +kernel
theorem dX11_wouldBe_58 : decode cX11_wouldBe 58 = .ok (.ifCond .ne 6, 3) := by decide +kernel
theorem dX11_wouldBe_61 : decode cX11_wouldBe 61 = .ok (.bipush (-12), 2) := by decide +kernel
theorem dX11_wouldBe_63 : decode cX11_wouldBe 63 = .ok (.ireturn, 1) := by decide +kernel
theorem dX11_wouldBe_64 : decode cX11_wouldBe 64 = .ok (.aload_n 0, 1) := by decide +kernel
theorem dX11_wouldBe_65 : decode cX11_wouldBe 65 = .ok (.getfield 60, 3) := by decide +kernel
theorem dX11_wouldBe_68 : decode cX11_wouldBe 68 = .ok (.iload_n 1, 1) := by decide +kernel
theorem dX11_wouldBe_69 : decode cX11_wouldBe 69 = .ok (.iload_n 2, 1) := by decide +kernel
theorem dX11_wouldBe_70 : decode cX11_wouldBe 70 = .ok (.iload 8, 2) := by decide +kernel
theorem dX11_wouldBe_72 : decode cX11_wouldBe 72 = .ok (.iadd, 1) := by decide +kernel
theorem dX11_wouldBe_73 : decode cX11_wouldBe 73 = .ok (.invokevirtual 329, 3) := by decide +kernel
theorem dX11_wouldBe_76 : decode cX11_wouldBe 76 = .ok (.istore 9, 2) := by decide +kernel
theorem dX11_wouldBe_78 : decode cX11_wouldBe 78 = .ok (.aload_n 0, 1) := by decide +kernel
theorem dX11_wouldBe_79 : decode cX11_wouldBe 79 = .ok (.iload 9, 2) := by decide +kernel
theorem dX11_wouldBe_81 : decode cX11_wouldBe 81 = .ok (.invokevirtual 311, 3) := by decide +kernel
theorem dX11_wouldBe_84 : decode cX11_wouldBe 84 = .ok (.ifCond .ne 6, 3) := by decide +kernel
theorem dX11_wouldBe_87 : decode cX11_wouldBe 87 = .ok (.bipush (-4), 2) := by decide +kernel
theorem dX11_wouldBe_89 : decode cX11_wouldBe 89 = .ok (.ireturn, 1) := by decide +kernel
theorem dX11_wouldBe_90 : decode cX11_wouldBe 90 = .ok (.iload 6, 2) := by decide +kernel
theorem dX11_wouldBe_92 : decode cX11_wouldBe 92 = .ok (.iload 9, 2) := by decide +kernel
theorem dX11_wouldBe_94 : decode cX11_wouldBe 94 = .ok (.invokestatic 259, 3) := by decide +kernel
theorem dX11_wouldBe_97 : decode cX11_wouldBe 97 = .ok (.istore 6, 2) := by decide +kernel
theorem dX11_wouldBe_99 : decode cX11_wouldBe 99 = .ok (.iload 7, 2) := by decide +kernel
theorem dX11_wouldBe_101 : decode cX11_wouldBe 101 = .ok (.aload_n 0, 1) := by decide +kernel
theorem dX11_wouldBe_102 : decode cX11_wouldBe 102 = .ok (.iload 5, 2) := by decide +kernel
theorem dX11_wouldBe_104 : decode cX11_wouldBe 104 = .ok (.iload 6, 2) := by decide +kernel
theorem dX11_wouldBe_106 : decode cX11_wouldBe 106 = .ok (.invokevirtual 173, 3) := by decide +kernel
theorem dX11_wouldBe_109 : decode cX11_wouldBe 109 = .ok (.ifCond .eq 7, 3) := by decide +kernel
theorem dX11_wouldBe_112 : decode cX11_wouldBe 112 = .ok (.iconst 1, 1) := by decide +kernel
theorem dX11_wouldBe_113 : decode cX11_wouldBe 113 = .ok (.goto 4, 3) := by decide +kernel
theorem dX11_wouldBe_116 : decode cX11_wouldBe 116 = .ok (.iconst 0, 1) := by decide +kernel
theorem dX11_wouldBe_117 : decode cX11_wouldBe 117 = .ok (.iadd, 1) := by decide +kernel
theorem dX11_wouldBe_118 : decode cX11_wouldBe 118 = .ok (.istore 7, 2) := by decide +kernel
theorem dX11_wouldBe_120 : decode cX11_wouldBe 120 = .ok (.aload_n 0, 1) := by decide +kernel
theorem dX11_wouldBe_121 : decode cX11_wouldBe 121 = .ok (.iload 5, 2) := by decide +kernel
theorem dX11_wouldBe_123 : decode cX11_wouldBe 123 = .ok (.iload 6, 2) := by decide +kernel
theorem dX11_wouldBe_125 : decode cX11_wouldBe 125 = .ok (.invokevirtual 188, 3) := by decide +kernel
theorem dX11_wouldBe_128 : decode cX11_wouldBe 128 = .ok (.istore 5, 2) := by decide +kernel
theorem dX11_wouldBe_130 : decode cX11_wouldBe 130 = .ok (.iinc 8 1, 3) := by decide +kernel
theorem dX11_wouldBe_133 : decode cX11_wouldBe 133 = .ok (.goto (-93), 3) := by decide +kernel
theorem dX11_wouldBe_136 : decode cX11_wouldBe 136 = .ok (.bipush 100, 2) := by decide +kernel
theorem dX11_wouldBe_138 : decode cX11_wouldBe 138 = .ok (.iload 7, 2) := by decide +kernel
theorem dX11_wouldBe_140 : decode cX11_wouldBe 140 = .ok (.imul, 1) := by decide +kernel
theorem dX11_wouldBe_141 : decode cX11_wouldBe 141 = .ok (.iload 5, 2) := by decide +kernel
theorem dX11_wouldBe_143 : decode cX11_wouldBe 143 = .ok (.iadd, 1) := by decide +kernel
theorem dX11_wouldBe_144 : decode cX11_wouldBe 144 = .ok (.ireturn, 1) := by decide +kernel
theorem dX11_shelf_0 : decode cX11_shelf 0 = .ok (.iload_n 1, 1) := by decide +kernel
theorem dX11_shelf_1 : decode cX11_shelf 1 = .ok (.iconst 0, 1) := by decide +kernel
theorem dX11_shelf_2 : decode cX11_shelf 2 = .ok (.iconst 3, 1) := by decide +kernel
theorem dX11_shelf_3 : decode cX11_shelf 3 = .ok (.invokestatic 83, 3) := by decide +kernel
theorem dX11_shelf_6 : decode cX11_shelf 6 = .ok (.ifCond .ne 5, 3) := by decide +kernel
theorem dX11_shelf_9 : decode cX11_shelf 9 = .ok (.iconst (-1), 1) := by decide +kernel
theorem dX11_shelf_10 : decode cX11_shelf 10 = .ok (.ireturn, 1) := by decide +kernel
theorem dX11_shelf_11 : decode cX11_shelf 11 = .ok (.iload_n 2, 1) := by decide +kernel
theorem dX11_shelf_12 : decode cX11_shelf 12 = .ok (.ifCond .ne 23, 3) := by decide +kernel
theorem dX11_shelf_15 : decode cX11_shelf 15 = .ok (.aload_n 0, 1) := by decide +kernel
theorem dX11_shelf_16 : decode cX11_shelf 16 = .ok (.iload_n 3, 1) := by decide +kernel
theorem dX11_shelf_17 : decode cX11_shelf 17 = .ok (.invokevirtual 110, 3) := by decide +kernel
theorem dX11_shelf_20 : decode cX11_shelf 20 = .ok (.ifCond .eq 15, 3) := by decide +kernel
theorem dX11_shelf_23 : decode cX11_shelf 23 = .ok (.aload_n 0, 1) := by decide +kernel
theorem dX11_shelf_24 : decode cX11_shelf 24 = .ok (.getfield 60, 3) := by decide +kernel
theorem dX11_shelf_27 : decode cX11_shelf 27 = .ok (.iload_n 1, 1) := by decide +kernel
theorem dX11_shelf_28 : decode cX11_shelf 28 = .ok (.iload_n 3, 1) := by decide +kernel
theorem dX11_shelf_29 : decode cX11_shelf 29 = .ok (.invokevirtual 335, 3) := by decide +kernel
theorem dX11_shelf_32 : decode cX11_shelf 32 = .ok (.goto 47, 3) := by decide +kernel
theorem dX11_shelf_35 : decode cX11_shelf 35 = .ok (.iload_n 2, 1) := by decide +kernel
theorem dX11_shelf_36 : decode cX11_shelf 36 = .ok (.iconst 1, 1) := by decide +kernel
theorem dX11_shelf_37 : decode cX11_shelf 37 = .ok (.if_icmp .ne 24, 3) := by decide +kernel
theorem dX11_shelf_40 : decode cX11_shelf 40 = .ok (.iload_n 3, 1) := by decide +kernel
theorem dX11_shelf_41 : decode cX11_shelf 41 = .ok (.iconst 0, 1) := by decide +kernel
theorem dX11_shelf_42 : decode cX11_shelf 42 = .ok (.iconst 3, 1) := by decide +kernel
theorem dX11_shelf_43 : decode cX11_shelf 43 = .ok (.invokestatic 83, 3) := by decide +kernel
theorem dX11_shelf_46 : decode cX11_shelf 46 = .ok (.ifCond .eq 15, 3) := by decide +kernel
theorem dX11_shelf_49 : decode cX11_shelf 49 = .ok (.aload_n 0, 1) := by decide +kernel
theorem dX11_shelf_50 : decode cX11_shelf 50 = .ok (.getfield 60, 3) := by decide +kernel
theorem dX11_shelf_53 : decode cX11_shelf 53 = .ok (.iload_n 1, 1) := by decide +kernel
theorem dX11_shelf_54 : decode cX11_shelf 54 = .ok (.iload_n 3, 1) := by decide +kernel
theorem dX11_shelf_55 : decode cX11_shelf 55 = .ok (.invokevirtual 339, 3) := by decide +kernel
theorem dX11_shelf_58 : decode cX11_shelf 58 = .ok (.goto 21, 3) := by decide +kernel
theorem dX11_shelf_61 : decode cX11_shelf 61 = .ok (.iload_n 2, 1) := by decide +kernel
theorem dX11_shelf_62 : decode cX11_shelf 62 = .ok (.iconst 2, 1) := by decide +kernel
theorem dX11_shelf_63 : decode cX11_shelf 63 = .ok (.if_icmp .ne 14, 3) := by decide +kernel
theorem dX11_shelf_66 : decode cX11_shelf 66 = .ok (.aload_n 0, 1) := by decide +kernel
theorem dX11_shelf_67 : decode cX11_shelf 67 = .ok (.getfield 60, 3) := by decide +kernel
theorem dX11_shelf_70 : decode cX11_shelf 70 = .ok (.iload_n 1, 1) := by decide +kernel
theorem dX11_shelf_71 : decode cX11_shelf 71 = .ok (.invokevirtual 342, 3) := by decide +kernel
theorem dX11_shelf_74 : decode cX11_shelf 74 = .ok (.goto 5, 3) := by decide +kernel
theorem dX11_shelf_77 : decode cX11_shelf 77 = .ok (.iconst (-1), 1) := by decide +kernel
theorem dX11_shelf_78 : decode cX11_shelf 78 = .ok (.ireturn, 1) := by decide +kernel
theorem dX11_shelf_79 : decode cX11_shelf 79 = .ok (.iconst 1, 1) := by decide +kernel
theorem dX11_shelf_80 : decode cX11_shelf 80 = .ok (.ireturn, 1) := by decide +kernel
theorem dX11_taken_0 : decode cX11_taken 0 = .ok (.iload_n 1, 1) := by decide +kernel
theorem dX11_taken_1 : decode cX11_taken 1 = .ok (.iconst 0, 1) := by decide +kernel
theorem dX11_taken_2 : decode cX11_taken 2 = .ok (.iconst 3, 1) := by decide +kernel
theorem dX11_taken_3 : decode cX11_taken 3 = .ok (.invokestatic 83, 3) := by decide +kernel
theorem dX11_taken_6 : decode cX11_taken 6 = .ok (.ifCond .eq 23, 3) := by decide +kernel
theorem dX11_taken_9 : decode cX11_taken 9 = .ok (.iload_n 2, 1) := by decide +kernel
theorem dX11_taken_10 : decode cX11_taken 10 = .ok (.iconst 0, 1) := by decide +kernel
theorem dX11_taken_11 : decode cX11_taken 11 = .ok (.iconst 5, 1) := by decide +kernel
theorem dX11_taken_12 : decode cX11_taken 12 = .ok (.invokestatic 83, 3) := by decide +kernel
theorem dX11_taken_15 : decode cX11_taken 15 = .ok (.ifCond .ne 16, 3) := by decide +kernel
theorem dX11_taken_18 : decode cX11_taken 18 = .ok (.iload_n 2, 1) := by decide +kernel
theorem dX11_taken_19 : decode cX11_taken 19 = .ok (.bipush 10, 2) := by decide +kernel
theorem dX11_taken_21 : decode cX11_taken 21 = .ok (.bipush 14, 2) := by decide +kernel
theorem dX11_taken_23 : decode cX11_taken 23 = .ok (.invokestatic 83, 3) := by decide +kernel
theorem dX11_taken_26 : decode cX11_taken 26 = .ok (.ifCond .ne 5, 3) := by decide +kernel
theorem dX11_taken_29 : decode cX11_taken 29 = .ok (.iconst (-1), 1) := by decide +kernel
theorem dX11_taken_30 : decode cX11_taken 30 = .ok (.ireturn, 1) := by decide +kernel
theorem dX11_taken_31 : decode cX11_taken 31 = .ok (.aload_n 0, 1) := by decide +kernel
theorem dX11_taken_32 : decode cX11_taken 32 = .ok (.getfield 60, 3) := by decide +kernel
theorem dX11_taken_35 : decode cX11_taken 35 = .ok (.getfield 345, 3) := by decide +kernel
theorem dX11_taken_38 : decode cX11_taken 38 = .ok (.iload_n 1, 1) := by decide +kernel
theorem dX11_taken_39 : decode cX11_taken 39 = .ok (.iaload, 1) := by decide +kernel
theorem dX11_taken_40 : decode cX11_taken 40 = .ok (.iconst 1, 1) := by decide +kernel
theorem dX11_taken_41 : decode cX11_taken 41 = .ok (.if_icmp .ne 34, 3) := by decide +kernel
theorem dX11_taken_44 : decode cX11_taken 44 = .ok (.aload_n 0, 1) := by decide +kernel
theorem dX11_taken_45 : decode cX11_taken 45 = .ok (.getfield 60, 3) := by decide +kernel
theorem dX11_taken_48 : decode cX11_taken 48 = .ok (.getfield 348, 3) := by decide +kernel
theorem dX11_taken_51 : decode cX11_taken 51 = .ok (.iload_n 1, 1) := by decide +kernel
theorem dX11_taken_52 : decode cX11_taken 52 = .ok (.iaload, 1) := by decide +kernel
theorem dX11_taken_53 : decode cX11_taken 53 = .ok (.bipush 10, 2) := by decide +kernel
theorem dX11_taken_55 : decode cX11_taken 55 = .ok (.iadd, 1) := by decide +kernel
theorem dX11_taken_56 : decode cX11_taken 56 = .ok (.iload_n 2, 1) := by decide +kernel
theorem dX11_taken_57 : decode cX11_taken 57 = .ok (.if_icmp .ne 15, 3) := by decide +kernel
theorem dX11_taken_60 : decode cX11_taken 60 = .ok (.aload_n 0, 1) := by decide +kernel
theorem dX11_taken_61 : decode cX11_taken 61 = .ok (.getfield 60, 3) := by decide +kernel
theorem dX11_taken_64 : decode cX11_taken 64 = .ok (.getfield 351, 3) := by decide +kernel
theorem dX11_taken_67 : decode cX11_taken 67 = .ok (.iload_n 1, 1) := by decide +kernel
theorem dX11_taken_68 : decode cX11_taken 68 = .ok (.iaload, 1) := by decide +kernel
theorem dX11_taken_69 : decode cX11_taken 69 = .ok (.goto 5, 3) := by decide +kernel
theorem dX11_taken_72 : decode cX11_taken 72 = .ok (.bipush (-13), 2) := by decide +kernel
theorem dX11_taken_74 : decode cX11_taken 74 = .ok (.ireturn, 1) := by decide +kernel
theorem dX11_taken_75 : decode cX11_taken 75 = .ok (.aload_n 0, 1) := by decide +kernel
theorem dX11_taken_76 : decode cX11_taken 76 = .ok (.iload_n 1, 1) := by decide +kernel
theorem dX11_taken_77 : decode cX11_taken 77 = .ok (.invokevirtual 354, 3) := by decide +kernel
theorem dX11_taken_80 : decode cX11_taken 80 = .ok (.istore_n 3, 1) := by decide +kernel
theorem dX11_taken_81 : decode cX11_taken 81 = .ok (.aload_n 0, 1) := by decide +kernel
theorem dX11_taken_82 : decode cX11_taken 82 = .ok (.iload_n 3, 1) := by decide +kernel
theorem dX11_taken_83 : decode cX11_taken 83 = .ok (.invokevirtual 110, 3) := by decide +kernel
theorem dX11_taken_86 : decode cX11_taken 86 = .ok (.ifCond .ne 6, 3) := by decide +kernel
theorem dX11_taken_89 : decode cX11_taken 89 = .ok (.bipush (-11), 2) := by decide +kernel
theorem dX11_taken_91 : decode cX11_taken 91 = .ok (.ireturn, 1) := by decide +kernel
theorem dX11_taken_92 : decode cX11_taken 92 = .ok (.iload_n 2, 1) := by decide +kernel
theorem dX11_taken_93 : decode cX11_taken 93 = .ok (.bipush 10, 2) := by decide +kernel
theorem dX11_taken_95 : decode cX11_taken 95 = .ok (.if_icmp .ge 23, 3) := by decide +kernel
theorem dX11_taken_98 : decode cX11_taken 98 = .ok (.aload_n 0, 1) := by decide +kernel
theorem dX11_taken_99 : decode cX11_taken 99 = .ok (.getfield 15, 3) := by decide +kernel
theorem dX11_taken_102 : decode cX11_taken 102 = .ok (.getfield 95, 3) := by decide +kernel
theorem dX11_taken_105 : decode cX11_taken 105 = .ok (.iload_n 3, 1) := by decide +kernel
theorem dX11_taken_106 : decode cX11_taken 106 = .ok (.iaload, 1) := by decide +kernel
theorem dX11_taken_107 : decode cX11_taken 107 = .ok (.iload_n 2, 1) := by decide +kernel
theorem dX11_taken_108 : decode cX11_taken 108 = .ok (.invokestatic 357, 3) := by decide +kernel
theorem dX11_taken_111 : decode cX11_taken 111 = .ok (.ifCond .eq 7, 3) := by decide +kernel
theorem dX11_taken_114 : decode cX11_taken 114 = .ok (.iload_n 3, 1) := by decide +kernel
theorem dX11_taken_115 : decode cX11_taken 115 = .ok (.goto 5, 3) := by decide +kernel
theorem dX11_taken_118 : decode cX11_taken 118 = .ok (.bipush (-13), 2) := by decide +kernel
theorem dX11_taken_120 : decode cX11_taken 120 = .ok (.ireturn, 1) := by decide +kernel
theorem dX11_act_0 : decode cX11_act 0 = .ok (.aload_n 0, 1) := by decide +kernel
theorem dX11_act_1 : decode cX11_act 1 = .ok (.getfield 29, 3) := by decide +kernel
theorem dX11_act_4 : decode cX11_act 4 = .ok (.iconst 0, 1) := by decide +kernel
theorem dX11_act_5 : decode cX11_act 5 = .ok (.putfield 360, 3) := by decide +kernel
theorem dX11_act_8 : decode cX11_act 8 = .ok (.aload_n 0, 1) := by decide +kernel
theorem dX11_act_9 : decode cX11_act 9 = .ok (.getfield 29, 3) := by decide +kernel
theorem dX11_act_12 : decode cX11_act 12 = .ok (.iconst 0, 1) := by decide +kernel
theorem dX11_act_13 : decode cX11_act 13 = .ok (.putfield 361, 3) := by decide +kernel
theorem dX11_act_16 : decode cX11_act 16 = .ok (.aload_n 0, 1) := by decide +kernel
theorem dX11_act_17 : decode cX11_act 17 = .ok (.iload_n 1, 1) := by decide +kernel
theorem dX11_act_18 : decode cX11_act 18 = .ok (.invokevirtual 354, 3) := by decide +kernel
theorem dX11_act_21 : decode cX11_act 21 = .ok (.istore 4, 2) := by decide +kernel
theorem dX11_act_23 : decode cX11_act 23 = .ok (.aload_n 0, 1) := by decide +kernel
theorem dX11_act_24 : decode cX11_act 24 = .ok (.iload 4, 2) := by decide +kernel
theorem dX11_act_26 : decode cX11_act 26 = .ok (.invokevirtual 110, 3) := by decide +kernel
theorem dX11_act_29 : decode cX11_act 29 = .ok (.ifCond .eq 12, 3) := by decide +kernel
theorem dX11_act_32 : decode cX11_act 32 = .ok (.iload_n 2, 1) := by decide +kernel
theorem dX11_act_33 : decode cX11_act 33 = .ok (.iconst 0, 1) := by decide +kernel
theorem dX11_act_34 : decode cX11_act 34 = .ok (.iconst 3, 1) := by decide +kernel
theorem dX11_act_35 : decode cX11_act 35 = .ok (.invokestatic 83, 3) := by decide +kernel
theorem dX11_act_38 : decode cX11_act 38 = .ok (.ifCond .ne 5, 3) := by decide +kernel
theorem dX11_act_41 : decode cX11_act 41 = .ok (.iconst 0, 1) := by decide +kernel
theorem dX11_act_42 : decode cX11_act 42 = .ok (.ireturn, 1) := by decide +kernel
theorem dX11_act_43 : decode cX11_act 43 = .ok (.aload_n 0, 1) := by decide +kernel
theorem dX11_act_44 : decode cX11_act 44 = .ok (.getfield 53, 3) := by decide +kernel
theorem dX11_act_47 : decode cX11_act 47 = .ok (.aload_n 0, 1) := by decide +kernel
theorem dX11_act_48 : decode cX11_act 48 = .ok (.getfield 15, 3) := by decide +kernel
theorem dX11_act_51 : decode cX11_act 51 = .ok (.getfield 95, 3) := by decide +kernel
theorem dX11_act_54 : decode cX11_act 54 = .ok (.iload 4, 2) := by decide +kernel
theorem dX11_act_56 : decode cX11_act 56 = .ok (.iaload, 1) := by decide +kernel
theorem dX11_act_57 : decode cX11_act 57 = .ok (.aaload, 1) := by decide +kernel
theorem dX11_act_58 : decode cX11_act 58 = .ok (.astore 5, 2) := by decide +kernel
theorem dX11_act_60 : decode cX11_act 60 = .ok (.aload 5, 2) := by decide +kernel
theorem dX11_act_62 : decode cX11_act 62 = .ok (.iload 4, 2) := by decide +kernel
theorem dX11_act_64 : decode cX11_act 64 = .ok (.putfield 365, 3) := by decide +kernel
theorem dX11_act_67 : decode cX11_act 67 = .ok (.aload 5, 2) := by decide +kernel
theorem dX11_act_69 : decode cX11_act 69 = .ok (.aload_n 0, 1) := by decide +kernel
theorem dX11_act_70 : decode cX11_act 70 = .ok (.getfield 15, 3) := by decide +kernel
theorem dX11_act_73 : decode cX11_act 73 = .ok (.getfield 98, 3) := by decide +kernel
theorem dX11_act_76 : decode cX11_act 76 = .ok (.iload 4, 2) := by decide +kernel
theorem dX11_act_78 : decode cX11_act 78 = .ok (.iaload, 1) := by decide +kernel
theorem dX11_act_79 : decode cX11_act 79 = .ok (.putfield 368, 3) := by decide +kernel
theorem dX11_act_82 : decode cX11_act 82 = .ok (.iload_n 2, 1) := by decide +kernel
theorem dX11_act_83 : decode cX11_act 83 = .ok (.ifCond .ne 12, 3) := by decide +kernel
theorem dX11_act_86 : decode cX11_act 86 = .ok (.aload 5, 2) := by decide +kernel
theorem dX11_act_88 : decode cX11_act 88 = .ok (.iload_n 3, 1) := by decide +kernel
theorem dX11_act_89 : decode cX11_act 89 = .ok (.invokevirtual 370, 3) := by decide +kernel
theorem dX11_act_92 : decode cX11_act 92 = .ok (.goto 37, 3) := by decide +kernel
theorem dX11_act_95 : decode cX11_act 95 = .ok (.iload_n 2, 1) := by decide +kernel
theorem dX11_act_96 : decode cX11_act 96 = .ok (.iconst 1, 1) := by decide +kernel
theorem dX11_act_97 : decode cX11_act 97 = .ok (.if_icmp .ne 12, 3) := by decide +kernel
theorem dX11_act_100 : decode cX11_act 100 = .ok (.aload 5, 2) := by decide +kernel
theorem dX11_act_102 : decode cX11_act 102 = .ok (.iload_n 3, 1) := by decide +kernel
theorem dX11_act_103 : decode cX11_act 103 = .ok (.invokevirtual 373, 3) := by decide +kernel
theorem dX11_act_106 : decode cX11_act 106 = .ok (.goto 23, 3) := by decide +kernel
theorem dX11_act_109 : decode cX11_act 109 = .ok (.iload_n 2, 1) := by decide +kernel
theorem dX11_act_110 : decode cX11_act 110 = .ok (.iconst 2, 1) := by decide +kernel
theorem dX11_act_111 : decode cX11_act 111 = .ok (.if_icmp .ne 12, 3) := by decide +kernel
theorem dX11_act_114 : decode cX11_act 114 = .ok (.aload 5, 2) := by decide +kernel
theorem dX11_act_116 : decode cX11_act 116 = .ok (.iload_n 3, 1) := by decide +kernel
theorem dX11_act_117 : decode cX11_act 117 = .ok (.invokevirtual 376, 3) := by decide +kernel
theorem dX11_act_120 : decode cX11_act 120 = .ok (.goto 9, 3) := by decide +kernel
theorem dX11_act_123 : decode cX11_act 123 = .ok (.aload 5, 2) := by decide +kernel
theorem dX11_act_125 : decode cX11_act 125 = .ok (.iload_n 3, 1) := by decide +kernel
theorem dX11_act_126 : decode cX11_act 126 = .ok (.invokevirtual 379, 3) := by decide +kernel
theorem dX11_act_129 : decode cX11_act 129 = .ok (.istore 6, 2) := by decide +kernel
theorem dX11_act_131 : decode cX11_act 131 = .ok (.aload_n 0, 1) := by decide +kernel
theorem dX11_act_132 : decode cX11_act 132 = .ok (.getfield 29, 3) := by decide +kernel
theorem dX11_act_135 : decode cX11_act 135 = .ok (.getfield 361, 3) := by decide +kernel
theorem dX11_act_138 : decode cX11_act 138 = .ok (.ifCond .eq 8, 3) := by decide +kernel
theorem dX11_act_141 : decode cX11_act 141 = .ok (.bipush (-15), 2) := by decide +kernel
theorem dX11_act_143 : decode cX11_act 143 = .ok (.goto 5, 3) := by decide +kernel
theorem dX11_act_146 : decode cX11_act 146 = .ok (.iload 6, 2) := by decide +kernel
theorem dX11_act_148 : decode cX11_act 148 = .ok (.ireturn, 1) := by decide +kernel
theorem dX11_trace_0 : decode cX11_trace 0 = .ok (.iload_n 1, 1) := by decide +kernel
theorem dX11_trace_1 : decode cX11_trace 1 = .ok (.ifCond .lt 26, 3) := by decide +kernel
theorem dX11_trace_4 : decode cX11_trace 4 = .ok (.iload_n 1, 1) := by decide +kernel
theorem dX11_trace_5 : decode cX11_trace 5 = .ok (.aload_n 0, 1) := by decide +kernel
theorem dX11_trace_6 : decode cX11_trace 6 = .ok (.getfield 29, 3) := by decide +kernel
theorem dX11_trace_9 : decode cX11_trace 9 = .ok (.getfield 360, 3) := by decide +kernel
theorem dX11_trace_12 : decode cX11_trace 12 = .ok (.if_icmp .ge 15, 3) := by decide +kernel
theorem dX11_trace_15 : decode cX11_trace 15 = .ok (.aload_n 0, 1) := by decide +kernel
theorem dX11_trace_16 : decode cX11_trace 16 = .ok (.getfield 29, 3) := by decide +kernel
theorem dX11_trace_19 : decode cX11_trace 19 = .ok (.getfield 382, 3) := by decide +kernel
theorem dX11_trace_22 : decode cX11_trace 22 = .ok (.iload_n 1, 1) := by decide +kernel
theorem dX11_trace_23 : decode cX11_trace 23 = .ok (.iaload, 1) := by decide +kernel
theorem dX11_trace_24 : decode cX11_trace 24 = .ok (.goto 5, 3) := by decide +kernel
theorem dX11_trace_27 : decode cX11_trace 27 = .ok (.bipush (-3), 2) := by decide +kernel
theorem dX11_trace_29 : decode cX11_trace 29 = .ok (.ireturn, 1) := by decide +kernel
theorem dX11_many_0 : decode cX11_many 0 = .ok (.iload_n 1, 1) := by decide +kernel
theorem dX11_many_1 : decode cX11_many 1 = .ok (.tableswitch 99 0 6 #[43, 51, 62, 70, 78, 83, 91], 43) := by decide +kernel
theorem dX11_many_44 : decode cX11_many 44 = .ok (.aload_n 0, 1) := by decide +kernel
theorem dX11_many_45 : decode cX11_many 45 = .ok (.getfield 15, 3) := by decide +kernel
theorem dX11_many_48 : decode cX11_many 48 = .ok (.getfield 91, 3) := by decide +kernel
theorem dX11_many_51 : decode cX11_many 51 = .ok (.ireturn, 1) := by decide +kernel
theorem dX11_many_52 : decode cX11_many 52 = .ok (.aload_n 0, 1) := by decide +kernel
theorem dX11_many_53 : decode cX11_many 53 = .ok (.getfield 15, 3) := by decide +kernel
theorem dX11_many_56 : decode cX11_many 56 = .ok (.getfield 157, 3) := by decide +kernel
theorem dX11_many_59 : decode cX11_many 59 = .ok (.getfield 170, 3) := by decide +kernel
theorem dX11_many_62 : decode cX11_many 62 = .ok (.ireturn, 1) := by decide +kernel
theorem dX11_many_63 : decode cX11_many 63 = .ok (.aload_n 0, 1) := by decide +kernel
theorem dX11_many_64 : decode cX11_many 64 = .ok (.getfield 15, 3) := by decide +kernel
theorem dX11_many_67 : decode cX11_many 67 = .ok (.getfield 140, 3) := by decide +kernel
theorem dX11_many_70 : decode cX11_many 70 = .ok (.ireturn, 1) := by decide +kernel
theorem dX11_many_71 : decode cX11_many 71 = .ok (.aload_n 0, 1) := by decide +kernel
theorem dX11_many_72 : decode cX11_many 72 = .ok (.getfield 15, 3) := by decide +kernel
theorem dX11_many_75 : decode cX11_many 75 = .ok (.getfield 280, 3) := by decide +kernel
theorem dX11_many_78 : decode cX11_many 78 = .ok (.ireturn, 1) := by decide +kernel
theorem dX11_many_79 : decode cX11_many 79 = .ok (.aload_n 0, 1) := by decide +kernel
theorem dX11_many_80 : decode cX11_many 80 = .ok (.getfield 305, 3) := by decide +kernel
theorem dX11_many_83 : decode cX11_many 83 = .ok (.ireturn, 1) := by decide +kernel
theorem dX11_many_84 : decode cX11_many 84 = .ok (.aload_n 0, 1) := by decide +kernel
theorem dX11_many_85 : decode cX11_many 85 = .ok (.getfield 25, 3) := by decide +kernel
theorem dX11_many_88 : decode cX11_many 88 = .ok (.getfield 146, 3) := by decide +kernel
theorem dX11_many_91 : decode cX11_many 91 = .ok (.ireturn, 1) := by decide +kernel
theorem dX11_many_92 : decode cX11_many 92 = .ok (.aload_n 0, 1) := by decide +kernel
theorem dX11_many_93 : decode cX11_many 93 = .ok (.getfield 29, 3) := by decide +kernel
theorem dX11_many_96 : decode cX11_many 96 = .ok (.getfield 360, 3) := by decide +kernel
theorem dX11_many_99 : decode cX11_many 99 = .ok (.ireturn, 1) := by decide +kernel
theorem dX11_many_100 : decode cX11_many 100 = .ok (.iconst (-1), 1) := by decide +kernel
theorem dX11_many_101 : decode cX11_many 101 = .ok (.ireturn, 1) := by decide +kernel
theorem dX11_refusalOfActs_0 : decode cX11_refusalOfActs 0 = .ok (.iload_n 1, 1) := by decide +kernel
theorem dX11_refusalOfActs_1 : decode cX11_refusalOfActs 1 = .ok (.iconst 0, 1) := by decide +kernel
theorem dX11_refusalOfActs_2 : decode cX11_refusalOfActs 2 = .ok (.iconst 3, 1) := by decide +kernel
theorem dX11_refusalOfActs_3 : decode cX11_refusalOfActs 3 = .ok (.invokestatic 83, 3) := by decide +kernel
theorem dX11_refusalOfActs_6 : decode cX11_refusalOfActs 6 = .ok (.ifCond .eq 13, 3) := by decide +kernel
theorem dX11_refusalOfActs_9 : decode cX11_refusalOfActs 9 = .ok (.iload_n 2, 1) := by decide +kernel
theorem dX11_refusalOfActs_10 : decode cX11_refusalOfActs 10 = .ok (.iconst 0, 1) := by decide +kernel
theorem dX11_refusalOfActs_11 : decode cX11_refusalOfActs 11 = .ok (.bipush 20, 2) := by decide +kernel
theorem dX11_refusalOfActs_13 : decode cX11_refusalOfActs 13 = .ok (.invokestatic 83, 3) := by decide +kernel
theorem dX11_refusalOfActs_16 : decode cX11_refusalOfActs 16 = .ok (.ifCond .ne 5, 3) := by decide +kernel
theorem dX11_refusalOfActs_19 : decode cX11_refusalOfActs 19 = .ok (.iconst (-1), 1) := by decide +kernel
theorem dX11_refusalOfActs_20 : decode cX11_refusalOfActs 20 = .ok (.ireturn, 1) := by decide +kernel
theorem dX11_refusalOfActs_21 : decode cX11_refusalOfActs 21 = .ok (.aload_n 0, 1) := by decide +kernel
theorem dX11_refusalOfActs_22 : decode cX11_refusalOfActs 22 = .ok (.getfield 60, 3) := by decide +kernel
theorem dX11_refusalOfActs_25 : decode cX11_refusalOfActs 25 = .ok (.iload_n 1, 1) := by decide +kernel
theorem dX11_refusalOfActs_26 : decode cX11_refusalOfActs 26 = .ok (.iconst 0, 1) := by decide +kernel
theorem dX11_refusalOfActs_27 : decode cX11_refusalOfActs 27 = .ok (.invokevirtual 326, 3) := by decide +kernel
theorem dX11_refusalOfActs_30 : decode cX11_refusalOfActs 30 = .ok (.ireturn, 1) := by decide +kernel
theorem dX11_voterOn_0 : decode cX11_voterOn 0 = .ok (.iload_n 1, 1) := by decide +kernel
theorem dX11_voterOn_1 : decode cX11_voterOn 1 = .ok (.iconst 0, 1) := by decide +kernel
theorem dX11_voterOn_2 : decode cX11_voterOn 2 = .ok (.iconst 3, 1) := by decide +kernel
theorem dX11_voterOn_3 : decode cX11_voterOn 3 = .ok (.invokestatic 83, 3) := by decide +kernel
theorem dX11_voterOn_6 : decode cX11_voterOn 6 = .ok (.ifCond .eq 19, 3) := by decide +kernel
theorem dX11_voterOn_9 : decode cX11_voterOn 9 = .ok (.aload_n 0, 1) := by decide +kernel
theorem dX11_voterOn_10 : decode cX11_voterOn 10 = .ok (.getfield 60, 3) := by decide +kernel
theorem dX11_voterOn_13 : decode cX11_voterOn 13 = .ok (.getfield 345, 3) := by decide +kernel
theorem dX11_voterOn_16 : decode cX11_voterOn 16 = .ok (.iload_n 1, 1) := by decide +kernel
theorem dX11_voterOn_17 : decode cX11_voterOn 17 = .ok (.iaload, 1) := by decide +kernel
theorem dX11_voterOn_18 : decode cX11_voterOn 18 = .ok (.ifCond .ne 7, 3) := by decide +kernel
theorem dX11_voterOn_21 : decode cX11_voterOn 21 = .ok (.iconst 1, 1) := by decide +kernel
theorem dX11_voterOn_22 : decode cX11_voterOn 22 = .ok (.goto 4, 3) := by decide +kernel
theorem dX11_voterOn_25 : decode cX11_voterOn 25 = .ok (.iconst 0, 1) := by decide +kernel
theorem dX11_voterOn_26 : decode cX11_voterOn 26 = .ok (.istore_n 2, 1) := by decide +kernel
theorem dX11_voterOn_27 : decode cX11_voterOn 27 = .ok (.iload_n 2, 1) := by decide +kernel
theorem dX11_voterOn_28 : decode cX11_voterOn 28 = .ok (.ifCond .eq 15, 3) := by decide +kernel
theorem dX11_voterOn_31 : decode cX11_voterOn 31 = .ok (.aload_n 0, 1) := by decide +kernel
theorem dX11_voterOn_32 : decode cX11_voterOn 32 = .ok (.getfield 60, 3) := by decide +kernel
theorem dX11_voterOn_35 : decode cX11_voterOn 35 = .ok (.getfield 351, 3) := by decide +kernel
theorem dX11_voterOn_38 : decode cX11_voterOn 38 = .ok (.iload_n 1, 1) := by decide +kernel
theorem dX11_voterOn_39 : decode cX11_voterOn 39 = .ok (.iaload, 1) := by decide +kernel
theorem dX11_voterOn_40 : decode cX11_voterOn 40 = .ok (.goto 5, 3) := by decide +kernel
theorem dX11_voterOn_43 : decode cX11_voterOn 43 = .ok (.bipush (-3), 2) := by decide +kernel
theorem dX11_voterOn_45 : decode cX11_voterOn 45 = .ok (.ireturn, 1) := by decide +kernel
theorem dX11_isUnder_0 : decode cX11_isUnder 0 = .ok (.iload_n 1, 1) := by decide +kernel
theorem dX11_isUnder_1 : decode cX11_isUnder 1 = .ok (.ifCond .eq 28, 3) := by decide +kernel
theorem dX11_isUnder_4 : decode cX11_isUnder 4 = .ok (.iload_n 1, 1) := by decide +kernel
theorem dX11_isUnder_5 : decode cX11_isUnder 5 = .ok (.iload_n 0, 1) := by decide +kernel
theorem dX11_isUnder_6 : decode cX11_isUnder 6 = .ok (.if_icmp .eq 23, 3) := by decide +kernel
theorem dX11_isUnder_9 : decode cX11_isUnder 9 = .ok (.iload_n 1, 1) := by decide +kernel
theorem dX11_isUnder_10 : decode cX11_isUnder 10 = .ok (.iconst 2, 1) := by decide +kernel
theorem dX11_isUnder_11 : decode cX11_isUnder 11 = .ok (.if_icmp .ne 8, 3) := by decide +kernel
theorem dX11_isUnder_14 : decode cX11_isUnder 14 = .ok (.iload_n 0, 1) := by decide +kernel
theorem dX11_isUnder_15 : decode cX11_isUnder 15 = .ok (.iconst 3, 1) := by decide +kernel
theorem dX11_isUnder_16 : decode cX11_isUnder 16 = .ok (.if_icmp .eq 13, 3) := by decide +kernel
theorem dX11_isUnder_19 : decode cX11_isUnder 19 = .ok (.iload_n 1, 1) := by decide +kernel
theorem dX11_isUnder_20 : decode cX11_isUnder 20 = .ok (.iconst 4, 1) := by decide +kernel
theorem dX11_isUnder_21 : decode cX11_isUnder 21 = .ok (.if_icmp .ne 12, 3) := by decide +kernel
theorem dX11_isUnder_24 : decode cX11_isUnder 24 = .ok (.iload_n 0, 1) := by decide +kernel
theorem dX11_isUnder_25 : decode cX11_isUnder 25 = .ok (.iconst 5, 1) := by decide +kernel
theorem dX11_isUnder_26 : decode cX11_isUnder 26 = .ok (.if_icmp .ne 7, 3) := by decide +kernel
theorem dX11_isUnder_29 : decode cX11_isUnder 29 = .ok (.iconst 1, 1) := by decide +kernel
theorem dX11_isUnder_30 : decode cX11_isUnder 30 = .ok (.goto 4, 3) := by decide +kernel
theorem dX11_isUnder_33 : decode cX11_isUnder 33 = .ok (.iconst 0, 1) := by decide +kernel
theorem dX11_isUnder_34 : decode cX11_isUnder 34 = .ok (.ireturn, 1) := by decide +kernel
theorem dX11_keep_0 : decode cX11_keep 0 = .ok (.aload_n 0, 1) := by decide +kernel
theorem dX11_keep_1 : decode cX11_keep 1 = .ok (.getfield 19, 3) := by decide +kernel
theorem dX11_keep_4 : decode cX11_keep 4 = .ok (.aload_n 0, 1) := by decide +kernel
theorem dX11_keep_5 : decode cX11_keep 5 = .ok (.getfield 15, 3) := by decide +kernel
theorem dX11_keep_8 : decode cX11_keep 8 = .ok (.invokevirtual 385, 3) := by decide +kernel
theorem dX11_keep_11 : decode cX11_keep 11 = .ok (.aload_n 0, 1) := by decide +kernel
theorem dX11_keep_12 : decode cX11_keep 12 = .ok (.iconst 1, 1) := by decide +kernel
theorem dX11_keep_13 : decode cX11_keep 13 = .ok (.putfield 388, 3) := by decide +kernel
theorem dX11_keep_16 : decode cX11_keep 16 = .ok (.iconst 1, 1) := by decide +kernel
theorem dX11_keep_17 : decode cX11_keep 17 = .ok (.ireturn, 1) := by decide +kernel
theorem dX11_again_0 : decode cX11_again 0 = .ok (.aload_n 0, 1) := by decide +kernel
theorem dX11_again_1 : decode cX11_again 1 = .ok (.getfield 388, 3) := by decide +kernel
theorem dX11_again_4 : decode cX11_again 4 = .ok (.ifCond .ne 6, 3) := by decide +kernel
theorem dX11_again_7 : decode cX11_again 7 = .ok (.bipush (-3), 2) := by decide +kernel
theorem dX11_again_9 : decode cX11_again 9 = .ok (.ireturn, 1) := by decide +kernel
theorem dX11_again_10 : decode cX11_again 10 = .ok (.aload_n 0, 1) := by decide +kernel
theorem dX11_again_11 : decode cX11_again 11 = .ok (.getfield 15, 3) := by decide +kernel
theorem dX11_again_14 : decode cX11_again 14 = .ok (.aload_n 0, 1) := by decide +kernel
theorem dX11_again_15 : decode cX11_again 15 = .ok (.getfield 19, 3) := by decide +kernel
theorem dX11_again_18 : decode cX11_again 18 = .ok (.invokevirtual 385, 3) := by decide +kernel
theorem dX11_again_21 : decode cX11_again 21 = .ok (.aload_n 0, 1) := by decide +kernel
theorem dX11_again_22 : decode cX11_again 22 = .ok (.invokevirtual 80, 3) := by decide +kernel
theorem dX11_again_25 : decode cX11_again 25 = .ok (.aload_n 0, 1) := by decide +kernel
theorem dX11_again_26 : decode cX11_again 26 = .ok (.getfield 15, 3) := by decide +kernel
theorem dX11_again_29 : decode cX11_again 29 = .ok (.getfield 91, 3) := by decide +kernel
theorem dX11_again_32 : decode cX11_again 32 = .ok (.ireturn, 1) := by decide +kernel
theorem dX12_init_0 : decode cX12_init 0 = .ok (.aload_n 0, 1) := by decide +kernel
theorem dX12_init_1 : decode cX12_init 1 = .ok (.invokespecial 3, 3) := by decide +kernel
theorem dX12_init_4 : decode cX12_init 4 = .ok (.aload_n 0, 1) := by decide +kernel
theorem dX12_init_5 : decode cX12_init 5 = .ok (.sipush 295, 3) := by decide +kernel
theorem dX12_init_8 : decode cX12_init 8 = .ok (.newarray .int, 2) := by decide +kernel
theorem dX12_init_10 : decode cX12_init 10 = .ok (.putfield 9, 3) := by decide +kernel
theorem dX12_init_13 : decode cX12_init 13 = .ok (.aload_n 0, 1) := by decide +kernel
theorem dX12_init_14 : decode cX12_init 14 = .ok (.sipush 295, 3) := by decide +kernel
theorem dX12_init_17 : decode cX12_init 17 = .ok (.newarray .int, 2) := by decide +kernel
theorem dX12_init_19 : decode cX12_init 19 = .ok (.putfield 13, 3) := by decide +kernel
theorem dX12_init_22 : decode cX12_init 22 = .ok (.aload_n 0, 1) := by decide +kernel
theorem dX12_init_23 : decode cX12_init 23 = .ok (.sipush 200, 3) := by decide +kernel
theorem dX12_init_26 : decode cX12_init 26 = .ok (.newarray .int, 2) := by decide +kernel
theorem dX12_init_28 : decode cX12_init 28 = .ok (.putfield 16, 3) := by decide +kernel
theorem dX12_init_31 : decode cX12_init 31 = .ok (.aload_n 0, 1) := by decide +kernel
theorem dX12_init_32 : decode cX12_init 32 = .ok (.sipush 200, 3) := by decide +kernel
theorem dX12_init_35 : decode cX12_init 35 = .ok (.newarray .int, 2) := by decide +kernel
theorem dX12_init_37 : decode cX12_init 37 = .ok (.putfield 19, 3) := by decide +kernel
theorem dX12_init_40 : decode cX12_init 40 = .ok (.aload_n 0, 1) := by decide +kernel
theorem dX12_init_41 : decode cX12_init 41 = .ok (.sipush 295, 3) := by decide +kernel
theorem dX12_init_44 : decode cX12_init 44 = .ok (.newarray .int, 2) := by decide +kernel
theorem dX12_init_46 : decode cX12_init 46 = .ok (.putfield 22, 3) := by decide +kernel
theorem dX12_init_49 : decode cX12_init 49 = .ok (.aload_n 0, 1) := by decide +kernel
theorem dX12_init_50 : decode cX12_init 50 = .ok (.bipush 24, 2) := by decide +kernel
theorem dX12_init_52 : decode cX12_init 52 = .ok (.newarray .int, 2) := by decide +kernel
theorem dX12_init_54 : decode cX12_init 54 = .ok (.putfield 25, 3) := by decide +kernel
theorem dX12_init_57 : decode cX12_init 57 = .ok (.aload_n 0, 1) := by decide +kernel
theorem dX12_init_58 : decode cX12_init 58 = .ok (.iconst 4, 1) := by decide +kernel
theorem dX12_init_59 : decode cX12_init 59 = .ok (.newarray .int, 2) := by decide +kernel
theorem dX12_init_61 : decode cX12_init 61 = .ok (.putfield 28, 3) := by decide +kernel
theorem dX12_init_64 : decode cX12_init 64 = .ok (.aload_n 0, 1) := by decide +kernel
theorem dX12_init_65 : decode cX12_init 65 = .ok (.bipush 24, 2) := by decide +kernel
theorem dX12_init_67 : decode cX12_init 67 = .ok (.newarray .int, 2) := by decide +kernel
theorem dX12_init_69 : decode cX12_init 69 = .ok (.putfield 31, 3) := by decide +kernel
theorem dX12_init_72 : decode cX12_init 72 = .ok (.aload_n 0, 1) := by decide +kernel
theorem dX12_init_73 : decode cX12_init 73 = .ok (.bipush 12, 2) := by decide +kernel
theorem dX12_init_75 : decode cX12_init 75 = .ok (.newarray .int, 2) := by decide +kernel
theorem dX12_init_77 : decode cX12_init 77 = .ok (.putfield 34, 3) := by decide +kernel
theorem dX12_init_80 : decode cX12_init 80 = .ok (.aload_n 0, 1) := by decide +kernel
theorem dX12_init_81 : decode cX12_init 81 = .ok (.iconst 4, 1) := by decide +kernel
theorem dX12_init_82 : decode cX12_init 82 = .ok (.newarray .int, 2) := by decide +kernel
theorem dX12_init_84 : decode cX12_init 84 = .ok (.dup, 1) := by decide +kernel
theorem dX12_init_85 : decode cX12_init 85 = .ok (.iconst 0, 1) := by decide +kernel
theorem dX12_init_86 : decode cX12_init 86 = .ok (.iconst (-1), 1) := by decide +kernel
theorem dX12_init_87 : decode cX12_init 87 = .ok (.iastore, 1) := by decide +kernel
theorem dX12_init_88 : decode cX12_init 88 = .ok (.dup, 1) := by decide +kernel
theorem dX12_init_89 : decode cX12_init 89 = .ok (.iconst 1, 1) := by decide +kernel
theorem dX12_init_90 : decode cX12_init 90 = .ok (.iconst (-1), 1) := by decide +kernel
theorem dX12_init_91 : decode cX12_init 91 = .ok (.iastore, 1) := by decide +kernel
theorem dX12_init_92 : decode cX12_init 92 = .ok (.dup, 1) := by decide +kernel
theorem dX12_init_93 : decode cX12_init 93 = .ok (.iconst 2, 1) := by decide +kernel
theorem dX12_init_94 : decode cX12_init 94 = .ok (.iconst (-1), 1) := by decide +kernel
theorem dX12_init_95 : decode cX12_init 95 = .ok (.iastore, 1) := by decide +kernel
theorem dX12_init_96 : decode cX12_init 96 = .ok (.dup, 1) := by decide +kernel
theorem dX12_init_97 : decode cX12_init 97 = .ok (.iconst 3, 1) := by decide +kernel
theorem dX12_init_98 : decode cX12_init 98 = .ok (.iconst (-1), 1) := by decide +kernel
theorem dX12_init_99 : decode cX12_init 99 = .ok (.iastore, 1) := by decide +kernel
theorem dX12_init_100 : decode cX12_init 100 = .ok (.putfield 37, 3) := by decide +kernel
theorem dX12_init_103 : decode cX12_init 103 = .ok (.aload_n 0, 1) := by decide +kernel
theorem dX12_init_104 : decode cX12_init 104 = .ok (.iconst 4, 1) := by decide +kernel
theorem dX12_init_105 : decode cX12_init 105 = .ok (.newarray .int, 2) := by decide +kernel
theorem dX12_init_107 : decode cX12_init 107 = .ok (.putfield 40, 3) := by decide +kernel
theorem dX12_init_110 : decode cX12_init 110 = .ok (.aload_n 0, 1) := by decide +kernel
theorem dX12_init_111 : decode cX12_init 111 = .ok (.sipush 160, 3) := by decide +kernel
theorem dX12_init_114 : decode cX12_init 114 = .ok (.newarray .int, 2) := by decide +kernel
theorem dX12_init_116 : decode cX12_init 116 = .ok (.putfield 43, 3) := by decide +kernel
theorem dX12_init_119 : decode cX12_init 119 = .ok (.aload_n 0, 1) := by decide +kernel
theorem dX12_init_120 : decode cX12_init 120 = .ok (.iconst 4, 1) := by decide +kernel
theorem dX12_init_121 : decode cX12_init 121 = .ok (.newarray .int, 2) := by decide +kernel
theorem dX12_init_123 : decode cX12_init 123 = .ok (.dup, 1) := by decide +kernel
theorem dX12_init_124 : decode cX12_init 124 = .ok (.iconst 0, 1) := by decide +kernel
theorem dX12_init_125 : decode cX12_init 125 = .ok (.iconst 2, 1) := by decide +kernel
theorem dX12_init_126 : decode cX12_init 126 = .ok (.iastore, 1) := by decide +kernel
theorem dX12_init_127 : decode cX12_init 127 = .ok (.dup, 1) := by decide +kernel
theorem dX12_init_128 : decode cX12_init 128 = .ok (.iconst 1, 1) := by decide +kernel
theorem dX12_init_129 : decode cX12_init 129 = .ok (.iconst 2, 1) := by decide +kernel
theorem dX12_init_130 : decode cX12_init 130 = .ok (.iastore, 1) := by decide +kernel
theorem dX12_init_131 : decode cX12_init 131 = .ok (.dup, 1) := by decide +kernel
theorem dX12_init_132 : decode cX12_init 132 = .ok (.iconst 2, 1) := by decide +kernel
theorem dX12_init_133 : decode cX12_init 133 = .ok (.iconst 2, 1) := by decide +kernel
theorem dX12_init_134 : decode cX12_init 134 = .ok (.iastore, 1) := by decide +kernel
theorem dX12_init_135 : decode cX12_init 135 = .ok (.dup, 1) := by decide +kernel
theorem dX12_init_136 : decode cX12_init 136 = .ok (.iconst 3, 1) := by decide +kernel
theorem dX12_init_137 : decode cX12_init 137 = .ok (.iconst 2, 1) := by decide +kernel
theorem dX12_init_138 : decode cX12_init 138 = .ok (.iastore, 1) := by decide +kernel
theorem dX12_init_139 : decode cX12_init 139 = .ok (.putfield 46, 3) := by decide +kernel
theorem dX12_init_142 : decode cX12_init 142 = .ok (.aload_n 0, 1) := by decide +kernel
theorem dX12_init_143 : decode cX12_init 143 = .ok (.iconst 4, 1) := by decide +kernel
theorem dX12_init_144 : decode cX12_init 144 = .ok (.newarray .int, 2) := by decide +kernel
theorem dX12_init_146 : decode cX12_init 146 = .ok (.putfield 49, 3) := by decide +kernel
theorem dX12_init_149 : decode cX12_init 149 = .ok (.aload_n 0, 1) := by decide +kernel
theorem dX12_init_150 : decode cX12_init 150 = .ok (.iconst 4, 1) := by decide +kernel
theorem dX12_init_151 : decode cX12_init 151 = .ok (.newarray .int, 2) := by decide +kernel
theorem dX12_init_153 : decode cX12_init 153 = .ok (.putfield 52, 3) := by decide +kernel
theorem dX12_init_156 : decode cX12_init 156 = .ok (.aload_n 0, 1) := by decide +kernel
theorem dX12_init_157 : decode cX12_init 157 = .ok (.bipush 30, 2) := by decide +kernel
theorem dX12_init_159 : decode cX12_init 159 = .ok (.newarray .int, 2) := by decide +kernel
theorem dX12_init_161 : decode cX12_init 161 = .ok (.putfield 55, 3) := by decide +kernel
theorem dX12_init_164 : decode cX12_init 164 = .ok (.aload_n 0, 1) := by decide +kernel
theorem dX12_init_165 : decode cX12_init 165 = .ok (.getfield 9, 3) := by decide +kernel
theorem dX12_init_168 : decode cX12_init 168 = .ok (.iconst 5, 1) := by decide +kernel
theorem dX12_init_169 : decode cX12_init 169 = .ok (.iconst 1, 1) := by decide +kernel
theorem dX12_init_170 : decode cX12_init 170 = .ok (.iastore, 1) := by decide +kernel
theorem dX12_init_171 : decode cX12_init 171 = .ok (.return_, 1) := by decide +kernel
theorem dX12_in_0 : decode cX12_in 0 = .ok (.lload_n 0, 1) := by decide +kernel
theorem dX12_in_1 : decode cX12_in 1 = .ok (.lload_n 2, 1) := by decide +kernel
theorem dX12_in_2 : decode cX12_in 2 = .ok (.lcmp, 1) := by decide +kernel
theorem dX12_in_3 : decode cX12_in 3 = .ok (.ifCond .lt 14, 3) := by decide +kernel
theorem dX12_in_6 : decode cX12_in 6 = .ok (.lload_n 0, 1) := by decide +kernel
theorem dX12_in_7 : decode cX12_in 7 = .ok (.lload 4, 2) := by decide +kernel
theorem dX12_in_9 : decode cX12_in 9 = .ok (.lcmp, 1) := by decide +kernel
theorem dX12_in_10 : decode cX12_in 10 = .ok (.ifCond .gt 7, 3) := by decide +kernel
theorem dX12_in_13 : decode cX12_in 13 = .ok (.iconst 1, 1) := by decide +kernel
theorem dX12_in_14 : decode cX12_in 14 = .ok (.goto 4, 3) := by decide +kernel
theorem dX12_in_17 : decode cX12_in 17 = .ok (.iconst 0, 1) := by decide +kernel
theorem dX12_in_18 : decode cX12_in 18 = .ok (.ireturn, 1) := by decide +kernel
theorem dX12_isVoter_0 : decode cX12_isVoter 0 = .ok (.iload_n 1, 1) := by decide +kernel
theorem dX12_isVoter_1 : decode cX12_isVoter 1 = .ok (.i2l, 1) := by decide +kernel
theorem dX12_isVoter_2 : decode cX12_isVoter 2 = .ok (.lconst 0, 1) := by decide +kernel
theorem dX12_isVoter_3 : decode cX12_isVoter 3 = .ok (.aload_n 0, 1) := by decide +kernel
theorem dX12_isVoter_4 : decode cX12_isVoter 4 = .ok (.getfield 9, 3) := by decide +kernel
theorem dX12_isVoter_7 : decode cX12_isVoter 7 = .ok (.iconst 0, 1) := by decide +kernel
theorem dX12_isVoter_8 : decode cX12_isVoter 8 = .ok (.iaload, 1) := by decide +kernel
theorem dX12_isVoter_9 : decode cX12_isVoter 9 = .ok (.iconst 1, 1) := by decide +kernel
theorem dX12_isVoter_10 : decode cX12_isVoter 10 = .ok (.isub, 1) := by decide +kernel
theorem dX12_isVoter_11 : decode cX12_isVoter 11 = .ok (.i2l, 1) := by decide +kernel
theorem dX12_isVoter_12 : decode cX12_isVoter 12 = .ok (.invokestatic 58, 3) := by decide +kernel
theorem dX12_isVoter_15 : decode cX12_isVoter 15 = .ok (.ireturn, 1) := by decide +kernel
theorem dX12_isHour_0 : decode cX12_isHour 0 = .ok (.iload_n 0, 1) := by decide +kernel
theorem dX12_isHour_1 : decode cX12_isHour 1 = .ok (.i2l, 1) := by decide +kernel
theorem dX12_isHour_2 : decode cX12_isHour 2 = .ok (.lconst 0, 1) := by decide +kernel
theorem dX12_isHour_3 : decode cX12_isHour 3 = .ok (.ldc2_w 62, 3) := by decide +kernel
theorem dX12_isHour_6 : decode cX12_isHour 6 = .ok (.invokestatic 58, 3) := by decide +kernel
theorem dX12_isHour_9 : decode cX12_isHour 9 = .ok (.ireturn, 1) := by decide +kernel
theorem dX12_isKind_0 : decode cX12_isKind 0 = .ok (.iload_n 0, 1) := by decide +kernel
theorem dX12_isKind_1 : decode cX12_isKind 1 = .ok (.i2l, 1) := by decide +kernel
theorem dX12_isKind_2 : decode cX12_isKind 2 = .ok (.lconst 1, 1) := by decide +kernel
theorem dX12_isKind_3 : decode cX12_isKind 3 = .ok (.ldc2_w 64, 3) := by decide +kernel
theorem dX12_isKind_6 : decode cX12_isKind 6 = .ok (.invokestatic 58, 3) := by decide +kernel
theorem dX12_isKind_9 : decode cX12_isKind 9 = .ok (.ireturn, 1) := by decide +kernel
theorem dX12_its_0 : decode cX12_its 0 = .ok (.aload_n 0, 1) := by decide +kernel
theorem dX12_its_1 : decode cX12_its 1 = .ok (.getfield 9, 3) := by decide +kernel
theorem dX12_its_4 : decode cX12_its 4 = .ok (.bipush 8, 2) := by decide +kernel
theorem dX12_its_6 : decode cX12_its 6 = .ok (.iconst 5, 1) := by decide +kernel
theorem dX12_its_7 : decode cX12_its 7 = .ok (.iload_n 1, 1) := by decide +kernel
theorem dX12_its_8 : decode cX12_its 8 = .ok (.imul, 1) := by decide +kernel
theorem dX12_its_9 : decode cX12_its 9 = .ok (.iadd, 1) := by decide +kernel
theorem dX12_its_10 : decode cX12_its 10 = .ok (.iload_n 2, 1) := by decide +kernel
theorem dX12_its_11 : decode cX12_its 11 = .ok (.iadd, 1) := by decide +kernel
theorem dX12_its_12 : decode cX12_its 12 = .ok (.iaload, 1) := by decide +kernel
theorem dX12_its_13 : decode cX12_its 13 = .ok (.ireturn, 1) := by decide +kernel
theorem dX12_sets_0 : decode cX12_sets 0 = .ok (.aload_n 0, 1) := by decide +kernel
theorem dX12_sets_1 : decode cX12_sets 1 = .ok (.getfield 9, 3) := by decide +kernel
theorem dX12_sets_4 : decode cX12_sets 4 = .ok (.bipush 8, 2) := by decide +kernel
theorem dX12_sets_6 : decode cX12_sets 6 = .ok (.iconst 5, 1) := by decide +kernel
theorem dX12_sets_7 : decode cX12_sets 7 = .ok (.iload_n 1, 1) := by decide +kernel
theorem dX12_sets_8 : decode cX12_sets 8 = .ok (.imul, 1) := by decide +kernel
theorem dX12_sets_9 : decode cX12_sets 9 = .ok (.iadd, 1) := by decide +kernel
theorem dX12_sets_10 : decode cX12_sets 10 = .ok (.iload_n 2, 1) := by decide +kernel
theorem dX12_sets_11 : decode cX12_sets 11 = .ok (.iadd, 1) := by decide +kernel
theorem dX12_sets_12 : decode cX12_sets 12 = .ok (.iload_n 3, 1) := by decide +kernel
theorem dX12_sets_13 : decode cX12_sets 13 = .ok (.iastore, 1) := by decide +kernel
theorem dX12_sets_14 : decode cX12_sets 14 = .ok (.return_, 1) := by decide +kernel
theorem dX12_around_0 : decode cX12_around 0 = .ok (.iload_n 0, 1) := by decide +kernel
theorem dX12_around_1 : decode cX12_around 1 = .ok (.bipush 24, 2) := by decide +kernel
theorem dX12_around_3 : decode cX12_around 3 = .ok (.irem, 1) := by decide +kernel
theorem dX12_around_4 : decode cX12_around 4 = .ok (.bipush 24, 2) := by decide +kernel
theorem dX12_around_6 : decode cX12_around 6 = .ok (.iadd, 1) := by decide +kernel
theorem dX12_around_7 : decode cX12_around 7 = .ok (.bipush 24, 2) := by decide +kernel
theorem dX12_around_9 : decode cX12_around 9 = .ok (.irem, 1) := by decide +kernel
theorem dX12_around_10 : decode cX12_around 10 = .ok (.ireturn, 1) := by decide +kernel
theorem dX12_mayBe_0 : decode cX12_mayBe 0 = .ok (.iload_n 0, 1) := by decide +kernel
theorem dX12_mayBe_1 : decode cX12_mayBe 1 = .ok (.iconst 1, 1) := by decide +kernel
theorem dX12_mayBe_2 : decode cX12_mayBe 2 = .ok (.if_icmp .ne 10, 3) := by decide +kernel
theorem dX12_mayBe_5 : decode cX12_mayBe 5 = .ok (.iload_n 1, 1) := by decide +kernel
theorem dX12_mayBe_6 : decode cX12_mayBe 6 = .ok (.invokestatic 66, 3) := by decide +kernel
theorem dX12_mayBe_9 : decode cX12_mayBe 9 = .ok (.goto 42, 3) := by decide +kernel
theorem dX12_mayBe_12 : decode cX12_mayBe 12 = .ok (.iload_n 0, 1) := by decide +kernel
theorem dX12_mayBe_13 : decode cX12_mayBe 13 = .ok (.iconst 2, 1) := by decide +kernel
theorem dX12_mayBe_14 : decode cX12_mayBe 14 = .ok (.if_icmp .ne 15, 3) := by decide +kernel
theorem dX12_mayBe_17 : decode cX12_mayBe 17 = .ok (.iload_n 1, 1) := by decide +kernel
theorem dX12_mayBe_18 : decode cX12_mayBe 18 = .ok (.i2l, 1) := by decide +kernel
theorem dX12_mayBe_19 : decode cX12_mayBe 19 = .ok (.lconst 1, 1) := by decide +kernel
theorem dX12_mayBe_20 : decode cX12_mayBe 20 = .ok (.ldc2_w 70, 3) := by decide +kernel
theorem dX12_mayBe_23 : decode cX12_mayBe 23 = .ok (.invokestatic 58, 3) := by decide +kernel
theorem dX12_mayBe_26 : decode cX12_mayBe 26 = .ok (.goto 25, 3) := by decide +kernel
theorem dX12_mayBe_29 : decode cX12_mayBe 29 = .ok (.iload_n 0, 1) := by decide +kernel
theorem dX12_mayBe_30 : decode cX12_mayBe 30 = .ok (.iconst 3, 1) := by decide +kernel
theorem dX12_mayBe_31 : decode cX12_mayBe 31 = .ok (.if_icmp .ne 19, 3) := by decide +kernel
theorem dX12_mayBe_34 : decode cX12_mayBe 34 = .ok (.iload_n 1, 1) := by decide +kernel
theorem dX12_mayBe_35 : decode cX12_mayBe 35 = .ok (.i2l, 1) := by decide +kernel
theorem dX12_mayBe_36 : decode cX12_mayBe 36 = .ok (.lconst 0, 1) := by decide +kernel
theorem dX12_mayBe_37 : decode cX12_mayBe 37 = .ok (.ldc2_w 72, 3) := by decide +kernel
theorem dX12_mayBe_40 : decode cX12_mayBe 40 = .ok (.invokestatic 58, 3) := by decide +kernel
theorem dX12_mayBe_43 : decode cX12_mayBe 43 = .ok (.ifCond .eq 7, 3) := by decide +kernel
theorem dX12_mayBe_46 : decode cX12_mayBe 46 = .ok (.iconst 1, 1) := by decide +kernel
theorem dX12_mayBe_47 : decode cX12_mayBe 47 = .ok (.goto 4, 3) := by decide +kernel
theorem dX12_mayBe_50 : decode cX12_mayBe 50 = .ok (.iconst 0, 1) := by decide +kernel
theorem dX12_mayBe_51 : decode cX12_mayBe 51 = .ok (.ireturn, 1) := by decide +kernel
theorem dX12_voter_0 : decode cX12_voter 0 = .ok (.iload_n 1, 1) := by decide +kernel
theorem dX12_voter_1 : decode cX12_voter 1 = .ok (.invokestatic 74, 3) := by decide +kernel
theorem dX12_voter_4 : decode cX12_voter 4 = .ok (.ifCond .eq 28, 3) := by decide +kernel
theorem dX12_voter_7 : decode cX12_voter 7 = .ok (.iconst 1, 1) := by decide +kernel
theorem dX12_voter_8 : decode cX12_voter 8 = .ok (.iload_n 2, 1) := by decide +kernel
theorem dX12_voter_9 : decode cX12_voter 9 = .ok (.invokestatic 77, 3) := by decide +kernel
theorem dX12_voter_12 : decode cX12_voter 12 = .ok (.ifCond .eq 20, 3) := by decide +kernel
theorem dX12_voter_15 : decode cX12_voter 15 = .ok (.iconst 2, 1) := by decide +kernel
theorem dX12_voter_16 : decode cX12_voter 16 = .ok (.iload_n 3, 1) := by decide +kernel
theorem dX12_voter_17 : decode cX12_voter 17 = .ok (.invokestatic 77, 3) := by decide +kernel
theorem dX12_voter_20 : decode cX12_voter 20 = .ok (.ifCond .eq 12, 3) := by decide +kernel
theorem dX12_voter_23 : decode cX12_voter 23 = .ok (.iconst 3, 1) := by decide +kernel
theorem dX12_voter_24 : decode cX12_voter 24 = .ok (.iload 4, 2) := by decide +kernel
theorem dX12_voter_26 : decode cX12_voter 26 = .ok (.invokestatic 77, 3) := by decide +kernel
theorem dX12_voter_29 : decode cX12_voter 29 = .ok (.ifCond .ne 5, 3) := by decide +kernel
theorem dX12_voter_32 : decode cX12_voter 32 = .ok (.iconst (-1), 1) := by decide +kernel
theorem dX12_voter_33 : decode cX12_voter 33 = .ok (.ireturn, 1) := by decide +kernel
theorem dX12_voter_34 : decode cX12_voter 34 = .ok (.aload_n 0, 1) := by decide +kernel
theorem dX12_voter_35 : decode cX12_voter 35 = .ok (.getfield 9, 3) := by decide +kernel
theorem dX12_voter_38 : decode cX12_voter 38 = .ok (.iconst 0, 1) := by decide +kernel
theorem dX12_voter_39 : decode cX12_voter 39 = .ok (.iaload, 1) := by decide +kernel
theorem dX12_voter_40 : decode cX12_voter 40 = .ok (.bipush 7, 2) := by decide +kernel
theorem dX12_voter_42 : decode cX12_voter 42 = .ok (.if_icmp .ne 6, 3) := by decide +kernel
theorem dX12_voter_45 : decode cX12_voter 45 = .ok (.bipush (-2), 2) := by decide +kernel
theorem dX12_voter_47 : decode cX12_voter 47 = .ok (.ireturn, 1) := by decide +kernel
theorem dX12_voter_48 : decode cX12_voter 48 = .ok (.aload_n 0, 1) := by decide +kernel
theorem dX12_voter_49 : decode cX12_voter 49 = .ok (.getfield 9, 3) := by decide +kernel
theorem dX12_voter_52 : decode cX12_voter 52 = .ok (.iconst 0, 1) := by decide +kernel
theorem dX12_voter_53 : decode cX12_voter 53 = .ok (.iaload, 1) := by decide +kernel
theorem dX12_voter_54 : decode cX12_voter 54 = .ok (.istore 5, 2) := by decide +kernel
theorem dX12_voter_56 : decode cX12_voter 56 = .ok (.aload_n 0, 1) := by decide +kernel
theorem dX12_voter_57 : decode cX12_voter 57 = .ok (.getfield 9, 3) := by decide +kernel
theorem dX12_voter_60 : decode cX12_voter 60 = .ok (.iconst 0, 1) := by decide +kernel
theorem dX12_voter_61 : decode cX12_voter 61 = .ok (.dup2, 1) := by decide +kernel
theorem dX12_voter_62 : decode cX12_voter 62 = .ok (.iaload, 1) := by decide +kernel
theorem dX12_voter_63 : decode cX12_voter 63 = .ok (.iconst 1, 1) := by decide +kernel
theorem dX12_voter_64 : decode cX12_voter 64 = .ok (.iadd, 1) := by decide +kernel
theorem dX12_voter_65 : decode cX12_voter 65 = .ok (.iastore, 1) := by decide +kernel
theorem dX12_voter_66 : decode cX12_voter 66 = .ok (.aload_n 0, 1) := by decide +kernel
theorem dX12_voter_67 : decode cX12_voter 67 = .ok (.iload 5, 2) := by decide +kernel
theorem dX12_voter_69 : decode cX12_voter 69 = .ok (.iconst 0, 1) := by decide +kernel
theorem dX12_voter_70 : decode cX12_voter 70 = .ok (.iload_n 1, 1) := by decide +kernel
theorem dX12_voter_71 : decode cX12_voter 71 = .ok (.invokevirtual 81, 3) := by decide +kernel
theorem dX12_voter_74 : decode cX12_voter 74 = .ok (.aload_n 0, 1) := by decide +kernel
theorem dX12_voter_75 : decode cX12_voter 75 = .ok (.iload 5, 2) := by decide +kernel
theorem dX12_voter_77 : decode cX12_voter 77 = .ok (.iconst 1, 1) := by decide +kernel
theorem dX12_voter_78 : decode cX12_voter 78 = .ok (.iload_n 2, 1) := by decide +kernel
theorem dX12_voter_79 : decode cX12_voter 79 = .ok (.invokevirtual 81, 3) := by decide +kernel
theorem dX12_voter_82 : decode cX12_voter 82 = .ok (.aload_n 0, 1) := by decide +kernel
theorem dX12_voter_83 : decode cX12_voter 83 = .ok (.iload 5, 2) := by decide +kernel
theorem dX12_voter_85 : decode cX12_voter 85 = .ok (.iconst 2, 1) := by decide +kernel
theorem dX12_voter_86 : decode cX12_voter 86 = .ok (.iload_n 3, 1) := by decide +kernel
theorem dX12_voter_87 : decode cX12_voter 87 = .ok (.invokevirtual 81, 3) := by decide +kernel
theorem dX12_voter_90 : decode cX12_voter 90 = .ok (.aload_n 0, 1) := by decide +kernel
theorem dX12_voter_91 : decode cX12_voter 91 = .ok (.iload 5, 2) := by decide +kernel
theorem dX12_voter_93 : decode cX12_voter 93 = .ok (.iconst 3, 1) := by decide +kernel
theorem dX12_voter_94 : decode cX12_voter 94 = .ok (.iload 4, 2) := by decide +kernel
theorem dX12_voter_96 : decode cX12_voter 96 = .ok (.invokevirtual 81, 3) := by decide +kernel
theorem dX12_voter_99 : decode cX12_voter 99 = .ok (.aload_n 0, 1) := by decide +kernel
theorem dX12_voter_100 : decode cX12_voter 100 = .ok (.iload 5, 2) := by decide +kernel
theorem dX12_voter_102 : decode cX12_voter 102 = .ok (.iconst 4, 1) := by decide +kernel
theorem dX12_voter_103 : decode cX12_voter 103 = .ok (.iconst 1, 1) := by decide +kernel
theorem dX12_voter_104 : decode cX12_voter 104 = .ok (.invokevirtual 81, 3) := by decide +kernel
theorem dX12_voter_107 : decode cX12_voter 107 = .ok (.iload 5, 2) := by decide +kernel
theorem dX12_voter_109 : decode cX12_voter 109 = .ok (.ireturn, 1) := by decide +kernel
theorem dX12_voteOf_0 : decode cX12_voteOf 0 = .ok (.aload_n 0, 1) := by decide +kernel
theorem dX12_voteOf_1 : decode cX12_voteOf 1 = .ok (.iload_n 1, 1) := by decide +kernel
theorem dX12_voteOf_2 : decode cX12_voteOf 2 = .ok (.iconst 1, 1) := by decide +kernel
theorem dX12_voteOf_3 : decode cX12_voteOf 3 = .ok (.invokevirtual 85, 3) := by decide +kernel
theorem dX12_voteOf_6 : decode cX12_voteOf 6 = .ok (.aload_n 0, 1) := by decide +kernel
theorem dX12_voteOf_7 : decode cX12_voteOf 7 = .ok (.getfield 9, 3) := by decide +kernel
theorem dX12_voteOf_10 : decode cX12_voteOf 10 = .ok (.iconst 1, 1) := by decide +kernel
theorem dX12_voteOf_11 : decode cX12_voteOf 11 = .ok (.iaload, 1) := by decide +kernel
theorem dX12_voteOf_12 : decode cX12_voteOf 12 = .ok (.isub, 1) := by decide +kernel
theorem dX12_voteOf_13 : decode cX12_voteOf 13 = .ok (.invokestatic 89, 3) := by decide +kernel
theorem dX12_voteOf_16 : decode cX12_voteOf 16 = .ok (.istore_n 2, 1) := by decide +kernel
theorem dX12_voteOf_17 : decode cX12_voteOf 17 = .ok (.iload_n 2, 1) := by decide +kernel
theorem dX12_voteOf_18 : decode cX12_voteOf 18 = .ok (.ifCond .ne 7, 3) := by decide +kernel
theorem dX12_voteOf_21 : decode cX12_voteOf 21 = .ok (.iconst 0, 1) := by decide +kernel
theorem dX12_voteOf_22 : decode cX12_voteOf 22 = .ok (.goto 14, 3) := by decide +kernel
theorem dX12_voteOf_25 : decode cX12_voteOf 25 = .ok (.iload_n 2, 1) := by decide +kernel
theorem dX12_voteOf_26 : decode cX12_voteOf 26 = .ok (.bipush 12, 2) := by decide +kernel
theorem dX12_voteOf_28 : decode cX12_voteOf 28 = .ok (.if_icmp .gt 7, 3) := by decide +kernel
theorem dX12_voteOf_31 : decode cX12_voteOf 31 = .ok (.iconst 1, 1) := by decide +kernel
theorem dX12_voteOf_32 : decode cX12_voteOf 32 = .ok (.goto 4, 3) := by decide +kernel
theorem dX12_voteOf_35 : decode cX12_voteOf 35 = .ok (.iconst (-1), 1) := by decide +kernel
theorem dX12_voteOf_36 : decode cX12_voteOf 36 = .ok (.ireturn, 1) := by decide +kernel
theorem dX12_awake_0 : decode cX12_awake 0 = .ok (.iconst 0, 1) := by decide +kernel
theorem dX12_awake_1 : decode cX12_awake 1 = .ok (.istore_n 1, 1) := by decide +kernel
theorem dX12_awake_2 : decode cX12_awake 2 = .ok (.iconst 0, 1) := by decide +kernel
theorem dX12_awake_3 : decode cX12_awake 3 = .ok (.istore_n 2, 1) := by decide +kernel
theorem dX12_awake_4 : decode cX12_awake 4 = .ok (.iload_n 2, 1) := by decide +kernel
theorem dX12_awake_5 : decode cX12_awake 5 = .ok (.aload_n 0, 1) := by decide +kernel
theorem dX12_awake_6 : decode cX12_awake 6 = .ok (.getfield 9, 3) := by decide +kernel
theorem dX12_awake_9 : decode cX12_awake 9 = .ok (.iconst 0, 1) := by decide +kernel
theorem dX12_awake_10 : decode cX12_awake 10 = .ok (.iaload, 1) := by decide +kernel
theorem dX12_awake_11 : decode cX12_awake 11 = .ok (.if_icmp .ge 18, 3) := by decide +kernel
theorem dX12_awake_14 : decode cX12_awake 14 = .ok (.iload_n 1, 1) := by decide +kernel
theorem dX12_awake_15 : decode cX12_awake 15 = .ok (.aload_n 0, 1) := by decide +kernel
theorem dX12_awake_16 : decode cX12_awake 16 = .ok (.iload_n 2, 1) := by decide +kernel
theorem dX12_awake_17 : decode cX12_awake 17 = .ok (.iconst 4, 1) := by decide +kernel
theorem dX12_awake_18 : decode cX12_awake 18 = .ok (.invokevirtual 85, 3) := by decide +kernel
theorem dX12_awake_21 : decode cX12_awake 21 = .ok (.iadd, 1) := by decide +kernel
theorem dX12_awake_22 : decode cX12_awake 22 = .ok (.istore_n 1, 1) := by decide +kernel
theorem dX12_awake_23 : decode cX12_awake 23 = .ok (.iinc 2 1, 3) := by decide +kernel
theorem dX12_awake_26 : decode cX12_awake 26 = .ok (.goto (-22), 3) := by decide +kernel
theorem dX12_awake_29 : decode cX12_awake 29 = .ok (.iload_n 1, 1) := by decide +kernel
theorem dX12_awake_30 : decode cX12_awake 30 = .ok (.ireturn, 1) := by decide +kernel
theorem dX12_isUnder_0 : decode cX12_isUnder 0 = .ok (.iload_n 1, 1) := by decide +kernel
theorem dX12_isUnder_1 : decode cX12_isUnder 1 = .ok (.ifCond .eq 28, 3) := by decide +kernel
theorem dX12_isUnder_4 : decode cX12_isUnder 4 = .ok (.iload_n 0, 1) := by decide +kernel
theorem dX12_isUnder_5 : decode cX12_isUnder 5 = .ok (.iload_n 1, 1) := by decide +kernel
theorem dX12_isUnder_6 : decode cX12_isUnder 6 = .ok (.if_icmp .eq 23, 3) := by decide +kernel
theorem dX12_isUnder_9 : decode cX12_isUnder 9 = .ok (.iload_n 0, 1) := by decide +kernel
theorem dX12_isUnder_10 : decode cX12_isUnder 10 = .ok (.iconst 3, 1) := by decide +kernel
theorem dX12_isUnder_11 : decode cX12_isUnder 11 = .ok (.if_icmp .ne 8, 3) := by decide +kernel
theorem dX12_isUnder_14 : decode cX12_isUnder 14 = .ok (.iload_n 1, 1) := by decide +kernel
theorem dX12_isUnder_15 : decode cX12_isUnder 15 = .ok (.iconst 2, 1) := by decide +kernel
theorem dX12_isUnder_16 : decode cX12_isUnder 16 = .ok (.if_icmp .eq 13, 3) := by decide +kernel
theorem dX12_isUnder_19 : decode cX12_isUnder 19 = .ok (.iload_n 0, 1) := by decide +kernel
theorem dX12_isUnder_20 : decode cX12_isUnder 20 = .ok (.iconst 5, 1) := by decide +kernel
theorem dX12_isUnder_21 : decode cX12_isUnder 21 = .ok (.if_icmp .ne 12, 3) := by decide +kernel
theorem dX12_isUnder_24 : decode cX12_isUnder 24 = .ok (.iload_n 1, 1) := by decide +kernel
theorem dX12_isUnder_25 : decode cX12_isUnder 25 = .ok (.iconst 4, 1) := by decide +kernel
theorem dX12_isUnder_26 : decode cX12_isUnder 26 = .ok (.if_icmp .ne 7, 3) := by decide +kernel
theorem dX12_isUnder_29 : decode cX12_isUnder 29 = .ok (.iconst 1, 1) := by decide +kernel
theorem dX12_isUnder_30 : decode cX12_isUnder 30 = .ok (.goto 4, 3) := by decide +kernel
theorem dX12_isUnder_33 : decode cX12_isUnder 33 = .ok (.iconst 0, 1) := by decide +kernel
theorem dX12_isUnder_34 : decode cX12_isUnder 34 = .ok (.ireturn, 1) := by decide +kernel
theorem dX12_fact_0 : decode cX12_fact 0 = .ok (.iload_n 1, 1) := by decide +kernel
theorem dX12_fact_1 : decode cX12_fact 1 = .ok (.tableswitch 57 0 3 #[31, 38, 45, 52], 31) := by decide +kernel
theorem dX12_fact_32 : decode cX12_fact 32 = .ok (.aload_n 0, 1) := by decide +kernel
theorem dX12_fact_33 : decode cX12_fact 33 = .ok (.getfield 9, 3) := by decide +kernel
theorem dX12_fact_36 : decode cX12_fact 36 = .ok (.iconst 1, 1) := by decide +kernel
theorem dX12_fact_37 : decode cX12_fact 37 = .ok (.iaload, 1) := by decide +kernel
theorem dX12_fact_38 : decode cX12_fact 38 = .ok (.ireturn, 1) := by decide +kernel
theorem dX12_fact_39 : decode cX12_fact 39 = .ok (.aload_n 0, 1) := by decide +kernel
theorem dX12_fact_40 : decode cX12_fact 40 = .ok (.iload_n 2, 1) := by decide +kernel
theorem dX12_fact_41 : decode cX12_fact 41 = .ok (.iconst 1, 1) := by decide +kernel
theorem dX12_fact_42 : decode cX12_fact 42 = .ok (.invokevirtual 85, 3) := by decide +kernel
theorem dX12_fact_45 : decode cX12_fact 45 = .ok (.ireturn, 1) := by decide +kernel
theorem dX12_fact_46 : decode cX12_fact 46 = .ok (.aload_n 0, 1) := by decide +kernel
theorem dX12_fact_47 : decode cX12_fact 47 = .ok (.iload_n 2, 1) := by decide +kernel
theorem dX12_fact_48 : decode cX12_fact 48 = .ok (.iconst 2, 1) := by decide +kernel
theorem dX12_fact_49 : decode cX12_fact 49 = .ok (.invokevirtual 85, 3) := by decide +kernel
theorem dX12_fact_52 : decode cX12_fact 52 = .ok (.ireturn, 1) := by decide +kernel
theorem dX12_fact_53 : decode cX12_fact 53 = .ok (.aload_n 0, 1) := by decide +kernel
theorem dX12_fact_54 : decode cX12_fact 54 = .ok (.invokevirtual 93, 3) := by decide +kernel
theorem dX12_fact_57 : decode cX12_fact 57 = .ok (.ireturn, 1) := by decide +kernel
theorem dX12_fact_58 : decode cX12_fact 58 = .ok (.iload_n 2, 1) := by decide +kernel
theorem dX12_fact_59 : decode cX12_fact 59 = .ok (.ireturn, 1) := by decide +kernel
theorem dX12_holds_0 : decode cX12_holds 0 = .ok (.iconst 0, 1) := by decide +kernel
theorem dX12_holds_1 : decode cX12_holds 1 = .ok (.istore 4, 2) := by decide +kernel
theorem dX12_holds_3 : decode cX12_holds 3 = .ok (.iload_n 1, 1) := by decide +kernel
theorem dX12_holds_4 : decode cX12_holds 4 = .ok (.istore 5, 2) := by decide +kernel
theorem dX12_holds_6 : decode cX12_holds 6 = .ok (.iload 5, 2) := by decide +kernel
theorem dX12_holds_8 : decode cX12_holds 8 = .ok (.iload_n 2, 1) := by decide +kernel
theorem dX12_holds_9 : decode cX12_holds 9 = .ok (.if_icmp .ge 131, 3) := by decide +kernel
theorem dX12_holds_12 : decode cX12_holds 12 = .ok (.aload_n 0, 1) := by decide +kernel
theorem dX12_holds_13 : decode cX12_holds 13 = .ok (.getfield 9, 3) := by decide +kernel
theorem dX12_holds_16 : decode cX12_holds 16 = .ok (.bipush 95, 2) := by decide +kernel
theorem dX12_holds_18 : decode cX12_holds 18 = .ok (.iload 5, 2) := by decide +kernel
theorem dX12_holds_20 : decode cX12_holds 20 = .ok (.iadd, 1) := by decide +kernel
theorem dX12_holds_21 : decode cX12_holds 21 = .ok (.iaload, 1) := by decide +kernel
theorem dX12_holds_22 : decode cX12_holds 22 = .ok (.istore 6, 2) := by decide +kernel
theorem dX12_holds_24 : decode cX12_holds 24 = .ok (.iload 6, 2) := by decide +kernel
theorem dX12_holds_26 : decode cX12_holds 26 = .ok (.bipush (-11), 2) := by decide +kernel
theorem dX12_holds_28 : decode cX12_holds 28 = .ok (.if_icmp .le 35, 3) := by decide +kernel
theorem dX12_holds_31 : decode cX12_holds 31 = .ok (.aload_n 0, 1) := by decide +kernel
theorem dX12_holds_32 : decode cX12_holds 32 = .ok (.getfield 16, 3) := by decide +kernel
theorem dX12_holds_35 : decode cX12_holds 35 = .ok (.iload 4, 2) := by decide +kernel
theorem dX12_holds_37 : decode cX12_holds 37 = .ok (.iload 6, 2) := by decide +kernel
theorem dX12_holds_39 : decode cX12_holds 39 = .ok (.ifCond .lt 8, 3) := by decide +kernel
theorem dX12_holds_42 : decode cX12_holds 42 = .ok (.iload 6, 2) := by decide +kernel
theorem dX12_holds_44 : decode cX12_holds 44 = .ok (.goto 12, 3) := by decide +kernel
theorem dX12_holds_47 : decode cX12_holds 47 = .ok (.aload_n 0, 1) := by decide +kernel
theorem dX12_holds_48 : decode cX12_holds 48 = .ok (.iconst (-1), 1) := by decide +kernel
theorem dX12_holds_49 : decode cX12_holds 49 = .ok (.iload 6, 2) := by decide +kernel
theorem dX12_holds_51 : decode cX12_holds 51 = .ok (.isub, 1) := by decide +kernel
theorem dX12_holds_52 : decode cX12_holds 52 = .ok (.iload_n 3, 1) := by decide +kernel
theorem dX12_holds_53 : decode cX12_holds 53 = .ok (.invokevirtual 97, 3) := by decide +kernel
theorem dX12_holds_56 : decode cX12_holds 56 = .ok (.iastore, 1) := by decide +kernel
theorem dX12_holds_57 : decode cX12_holds 57 = .ok (.iinc 4 1, 3) := by decide +kernel
theorem dX12_holds_60 : decode cX12_holds 60 = .ok (.goto 74, 3) := by decide +kernel
theorem dX12_holds_63 : decode cX12_holds 63 = .ok (.iload 6, 2) := by decide +kernel
theorem dX12_holds_65 : decode cX12_holds 65 = .ok (.bipush (-14), 2) := by decide +kernel
theorem dX12_holds_67 : decode cX12_holds 67 = .ok (.if_icmp .ne 26, 3) := by decide +kernel
theorem dX12_holds_70 : decode cX12_holds 70 = .ok (.aload_n 0, 1) := by decide +kernel
theorem dX12_holds_71 : decode cX12_holds 71 = .ok (.getfield 16, 3) := by decide +kernel
theorem dX12_holds_74 : decode cX12_holds 74 = .ok (.iload 4, 2) := by decide +kernel
theorem dX12_holds_76 : decode cX12_holds 76 = .ok (.iconst 1, 1) := by decide +kernel
theorem dX12_holds_77 : decode cX12_holds 77 = .ok (.isub, 1) := by decide +kernel
theorem dX12_holds_78 : decode cX12_holds 78 = .ok (.iconst 1, 1) := by decide +kernel
theorem dX12_holds_79 : decode cX12_holds 79 = .ok (.aload_n 0, 1) := by decide +kernel
theorem dX12_holds_80 : decode cX12_holds 80 = .ok (.getfield 16, 3) := by decide +kernel
theorem dX12_holds_83 : decode cX12_holds 83 = .ok (.iload 4, 2) := by decide +kernel
theorem dX12_holds_85 : decode cX12_holds 85 = .ok (.iconst 1, 1) := by decide +kernel
theorem dX12_holds_86 : decode cX12_holds 86 = .ok (.isub, 1) := by decide +kernel
theorem dX12_holds_87 : decode cX12_holds 87 = .ok (.iaload, 1) := by decide +kernel
theorem dX12_holds_88 : decode cX12_holds 88 = .ok (.isub, 1) := by decide +kernel
theorem dX12_holds_89 : decode cX12_holds 89 = .ok (.iastore, 1) := by decide +kernel
theorem dX12_holds_90 : decode cX12_holds 90 = .ok (.goto 44, 3) := by decide +kernel
theorem dX12_holds_93 : decode cX12_holds 93 = .ok (.iinc 4 (-1), 3) := by decide +kernel
theorem dX12_holds_96 : decode cX12_holds 96 = .ok (.aload_n 0, 1) := by decide +kernel
theorem dX12_holds_97 : decode cX12_holds 97 = .ok (.getfield 16, 3) := by decide +kernel
theorem dX12_holds_100 : decode cX12_holds 100 = .ok (.iload 4, 2) := by decide +kernel
theorem dX12_holds_102 : decode cX12_holds 102 = .ok (.iconst 1, 1) := by decide +kernel
theorem dX12_holds_103 : decode cX12_holds 103 = .ok (.isub, 1) := by decide +kernel
theorem dX12_holds_104 : decode cX12_holds 104 = .ok (.iload 6, 2) := by decide +kernel
theorem dX12_holds_106 : decode cX12_holds 106 = .ok (.aload_n 0, 1) := by decide +kernel
theorem dX12_holds_107 : decode cX12_holds 107 = .ok (.getfield 16, 3) := by decide +kernel
theorem dX12_holds_110 : decode cX12_holds 110 = .ok (.iload 4, 2) := by decide +kernel
theorem dX12_holds_112 : decode cX12_holds 112 = .ok (.iconst 1, 1) := by decide +kernel
theorem dX12_holds_113 : decode cX12_holds 113 = .ok (.isub, 1) := by decide +kernel
theorem dX12_holds_114 : decode cX12_holds 114 = .ok (.iaload, 1) := by decide +kernel
theorem dX12_holds_115 : decode cX12_holds 115 = .ok (.aload_n 0, 1) := by decide +kernel
theorem dX12_holds_116 : decode cX12_holds 116 = .ok (.getfield 16, 3) := by decide +kernel
theorem dX12_holds_119 : decode cX12_holds 119 = .ok (.iload 4, 2) := by decide +kernel
theorem dX12_holds_121 : decode cX12_holds 121 = .ok (.iaload, 1) := by decide +kernel
theorem dX12_holds_122 : decode cX12_holds 122 = .ok (.invokestatic 100, 3) := by decide +kernel
theorem dX12_holds_125 : decode cX12_holds 125 = .ok (.ifCond .eq 7, 3) := by decide +kernel
theorem dX12_holds_128 : decode cX12_holds 128 = .ok (.iconst 1, 1) := by decide +kernel
theorem dX12_holds_129 : decode cX12_holds 129 = .ok (.goto 4, 3) := by decide +kernel
theorem dX12_holds_132 : decode cX12_holds 132 = .ok (.iconst 0, 1) := by decide +kernel
theorem dX12_holds_133 : decode cX12_holds 133 = .ok (.iastore, 1) := by decide +kernel
theorem dX12_holds_134 : decode cX12_holds 134 = .ok (.iinc 5 1, 3) := by decide +kernel
theorem dX12_holds_137 : decode cX12_holds 137 = .ok (.goto (-131), 3) := by decide +kernel
theorem dX12_holds_140 : decode cX12_holds 140 = .ok (.iload 4, 2) := by decide +kernel
theorem dX12_holds_142 : decode cX12_holds 142 = .ok (.ifCond .eq 13, 3) := by decide +kernel
theorem dX12_holds_145 : decode cX12_holds 145 = .ok (.aload_n 0, 1) := by decide +kernel
theorem dX12_holds_146 : decode cX12_holds 146 = .ok (.getfield 16, 3) := by decide +kernel
theorem dX12_holds_149 : decode cX12_holds 149 = .ok (.iconst 0, 1) := by decide +kernel
theorem dX12_holds_150 : decode cX12_holds 150 = .ok (.iaload, 1) := by decide +kernel
theorem dX12_holds_151 : decode cX12_holds 151 = .ok (.iconst 1, 1) := by decide +kernel
theorem dX12_holds_152 : decode cX12_holds 152 = .ok (.if_icmp .ne 7, 3) := by decide +kernel
theorem dX12_holds_155 : decode cX12_holds 155 = .ok (.iconst 1, 1) := by decide +kernel
theorem dX12_holds_156 : decode cX12_holds 156 = .ok (.goto 4, 3) := by decide +kernel
theorem dX12_holds_159 : decode cX12_holds 159 = .ok (.iconst 0, 1) := by decide +kernel
theorem dX12_holds_160 : decode cX12_holds 160 = .ok (.ireturn, 1) := by decide +kernel
theorem dX12_isSo_0 : decode cX12_isSo 0 = .ok (.iload_n 0, 1) := by decide +kernel
theorem dX12_isSo_1 : decode cX12_isSo 1 = .ok (.tableswitch 81 (-15) (-11) #[68, 81, 57, 46, 35], 35) := by decide +kernel
theorem dX12_isSo_36 : decode cX12_isSo 36 = .ok (.iload_n 1, 1) := by decide +kernel
theorem dX12_isSo_37 : decode cX12_isSo 37 = .ok (.iload_n 2, 1) := by decide +kernel
theorem dX12_isSo_38 : decode cX12_isSo 38 = .ok (.if_icmp .ge 7, 3) := by decide +kernel
theorem dX12_isSo_41 : decode cX12_isSo 41 = .ok (.iconst 1, 1) := by decide +kernel
theorem dX12_isSo_42 : decode cX12_isSo 42 = .ok (.goto 4, 3) := by decide +kernel
theorem dX12_isSo_45 : decode cX12_isSo 45 = .ok (.iconst 0, 1) := by decide +kernel
theorem dX12_isSo_46 : decode cX12_isSo 46 = .ok (.ireturn, 1) := by decide +kernel
theorem dX12_isSo_47 : decode cX12_isSo 47 = .ok (.iload_n 1, 1) := by decide +kernel
theorem dX12_isSo_48 : decode cX12_isSo 48 = .ok (.iload_n 2, 1) := by decide +kernel
theorem dX12_isSo_49 : decode cX12_isSo 49 = .ok (.if_icmp .ne 7, 3) := by decide +kernel
theorem dX12_isSo_52 : decode cX12_isSo 52 = .ok (.iconst 1, 1) := by decide +kernel
theorem dX12_isSo_53 : decode cX12_isSo 53 = .ok (.goto 4, 3) := by decide +kernel
theorem dX12_isSo_56 : decode cX12_isSo 56 = .ok (.iconst 0, 1) := by decide +kernel
theorem dX12_isSo_57 : decode cX12_isSo 57 = .ok (.ireturn, 1) := by decide +kernel
theorem dX12_isSo_58 : decode cX12_isSo 58 = .ok (.iload_n 1, 1) := by decide +kernel
theorem dX12_isSo_59 : decode cX12_isSo 59 = .ok (.iload_n 2, 1) := by decide +kernel
theorem dX12_isSo_60 : decode cX12_isSo 60 = .ok (.if_icmp .le 7, 3) := by decide +kernel
theorem dX12_isSo_63 : decode cX12_isSo 63 = .ok (.iconst 1, 1) := by decide +kernel
theorem dX12_isSo_64 : decode cX12_isSo 64 = .ok (.goto 4, 3) := by decide +kernel
theorem dX12_isSo_67 : decode cX12_isSo 67 = .ok (.iconst 0, 1) := by decide +kernel
theorem dX12_isSo_68 : decode cX12_isSo 68 = .ok (.ireturn, 1) := by decide +kernel
theorem dX12_isSo_69 : decode cX12_isSo 69 = .ok (.iload_n 1, 1) := by decide +kernel
theorem dX12_isSo_70 : decode cX12_isSo 70 = .ok (.iload_n 2, 1) := by decide +kernel
theorem dX12_isSo_71 : decode cX12_isSo 71 = .ok (.iadd, 1) := by decide +kernel
theorem dX12_isSo_72 : decode cX12_isSo 72 = .ok (.iconst 2, 1) := by decide +kernel
theorem dX12_isSo_73 : decode cX12_isSo 73 = .ok (.if_icmp .ne 7, 3) := by decide +kernel
theorem dX12_isSo_76 : decode cX12_isSo 76 = .ok (.iconst 1, 1) := by decide +kernel
theorem dX12_isSo_77 : decode cX12_isSo 77 = .ok (.goto 4, 3) := by decide +kernel
theorem dX12_isSo_80 : decode cX12_isSo 80 = .ok (.iconst 0, 1) := by decide +kernel
theorem dX12_isSo_81 : decode cX12_isSo 81 = .ok (.ireturn, 1) := by decide +kernel
theorem dX12_isSo_82 : decode cX12_isSo 82 = .ok (.iload_n 1, 1) := by decide +kernel
theorem dX12_isSo_83 : decode cX12_isSo 83 = .ok (.iload_n 2, 1) := by decide +kernel
theorem dX12_isSo_84 : decode cX12_isSo 84 = .ok (.iadd, 1) := by decide +kernel
theorem dX12_isSo_85 : decode cX12_isSo 85 = .ok (.ifCond .le 7, 3) := by decide +kernel
theorem dX12_isSo_88 : decode cX12_isSo 88 = .ok (.iconst 1, 1) := by decide +kernel
theorem dX12_isSo_89 : decode cX12_isSo 89 = .ok (.goto 4, 3) := by decide +kernel
theorem dX12_isSo_92 : decode cX12_isSo 92 = .ok (.iconst 0, 1) := by decide +kernel
theorem dX12_isSo_93 : decode cX12_isSo 93 = .ok (.ireturn, 1) := by decide +kernel
theorem dX12_weighs_0 : decode cX12_weighs 0 = .ok (.aload_n 0, 1) := by decide +kernel
theorem dX12_weighs_1 : decode cX12_weighs 1 = .ok (.iload_n 1, 1) := by decide +kernel
theorem dX12_weighs_2 : decode cX12_weighs 2 = .ok (.iconst 2, 1) := by decide +kernel
theorem dX12_weighs_3 : decode cX12_weighs 3 = .ok (.invokevirtual 85, 3) := by decide +kernel
theorem dX12_weighs_6 : decode cX12_weighs 6 = .ok (.istore_n 2, 1) := by decide +kernel
theorem dX12_weighs_7 : decode cX12_weighs 7 = .ok (.iconst 0, 1) := by decide +kernel
theorem dX12_weighs_8 : decode cX12_weighs 8 = .ok (.istore_n 3, 1) := by decide +kernel
theorem dX12_weighs_9 : decode cX12_weighs 9 = .ok (.iload_n 3, 1) := by decide +kernel
theorem dX12_weighs_10 : decode cX12_weighs 10 = .ok (.aload_n 0, 1) := by decide +kernel
theorem dX12_weighs_11 : decode cX12_weighs 11 = .ok (.getfield 9, 3) := by decide +kernel
theorem dX12_weighs_14 : decode cX12_weighs 14 = .ok (.bipush 7, 2) := by decide +kernel
theorem dX12_weighs_16 : decode cX12_weighs 16 = .ok (.iaload, 1) := by decide +kernel
theorem dX12_weighs_17 : decode cX12_weighs 17 = .ok (.if_icmp .ge 121, 3) := by decide +kernel
theorem dX12_weighs_20 : decode cX12_weighs 20 = .ok (.bipush 55, 2) := by decide +kernel
theorem dX12_weighs_22 : decode cX12_weighs 22 = .ok (.iconst 5, 1) := by decide +kernel
theorem dX12_weighs_23 : decode cX12_weighs 23 = .ok (.iload_n 3, 1) := by decide +kernel
theorem dX12_weighs_24 : decode cX12_weighs 24 = .ok (.imul, 1) := by decide +kernel
theorem dX12_weighs_25 : decode cX12_weighs 25 = .ok (.iadd, 1) := by decide +kernel
theorem dX12_weighs_26 : decode cX12_weighs 26 = .ok (.istore 4, 2) := by decide +kernel
theorem dX12_weighs_28 : decode cX12_weighs 28 = .ok (.aload_n 0, 1) := by decide +kernel
theorem dX12_weighs_29 : decode cX12_weighs 29 = .ok (.iload_n 1, 1) := by decide +kernel
theorem dX12_weighs_30 : decode cX12_weighs 30 = .ok (.iconst 0, 1) := by decide +kernel
theorem dX12_weighs_31 : decode cX12_weighs 31 = .ok (.invokevirtual 85, 3) := by decide +kernel
theorem dX12_weighs_34 : decode cX12_weighs 34 = .ok (.aload_n 0, 1) := by decide +kernel
theorem dX12_weighs_35 : decode cX12_weighs 35 = .ok (.getfield 9, 3) := by decide +kernel
theorem dX12_weighs_38 : decode cX12_weighs 38 = .ok (.iload 4, 2) := by decide +kernel
theorem dX12_weighs_40 : decode cX12_weighs 40 = .ok (.iaload, 1) := by decide +kernel
theorem dX12_weighs_41 : decode cX12_weighs 41 = .ok (.invokestatic 104, 3) := by decide +kernel
theorem dX12_weighs_44 : decode cX12_weighs 44 = .ok (.ifCond .eq 88, 3) := by decide +kernel
theorem dX12_weighs_47 : decode cX12_weighs 47 = .ok (.aload_n 0, 1) := by decide +kernel
theorem dX12_weighs_48 : decode cX12_weighs 48 = .ok (.aload_n 0, 1) := by decide +kernel
theorem dX12_weighs_49 : decode cX12_weighs 49 = .ok (.getfield 9, 3) := by decide +kernel
theorem dX12_weighs_52 : decode cX12_weighs 52 = .ok (.iload 4, 2) := by decide +kernel
theorem dX12_weighs_54 : decode cX12_weighs 54 = .ok (.iconst 3, 1) := by decide +kernel
theorem dX12_weighs_55 : decode cX12_weighs 55 = .ok (.iadd, 1) := by decide +kernel
theorem dX12_weighs_56 : decode cX12_weighs 56 = .ok (.iaload, 1) := by decide +kernel
theorem dX12_weighs_57 : decode cX12_weighs 57 = .ok (.aload_n 0, 1) := by decide +kernel
theorem dX12_weighs_58 : decode cX12_weighs 58 = .ok (.getfield 9, 3) := by decide +kernel
theorem dX12_weighs_61 : decode cX12_weighs 61 = .ok (.iload 4, 2) := by decide +kernel
theorem dX12_weighs_63 : decode cX12_weighs 63 = .ok (.iconst 4, 1) := by decide +kernel
theorem dX12_weighs_64 : decode cX12_weighs 64 = .ok (.iadd, 1) := by decide +kernel
theorem dX12_weighs_65 : decode cX12_weighs 65 = .ok (.iaload, 1) := by decide +kernel
theorem dX12_weighs_66 : decode cX12_weighs 66 = .ok (.iload_n 1, 1) := by decide +kernel
theorem dX12_weighs_67 : decode cX12_weighs 67 = .ok (.invokevirtual 107, 3) := by decide +kernel
theorem dX12_weighs_70 : decode cX12_weighs 70 = .ok (.ifCond .eq 62, 3) := by decide +kernel
theorem dX12_weighs_73 : decode cX12_weighs 73 = .ok (.aload_n 0, 1) := by decide +kernel
theorem dX12_weighs_74 : decode cX12_weighs 74 = .ok (.getfield 9, 3) := by decide +kernel
theorem dX12_weighs_77 : decode cX12_weighs 77 = .ok (.iload 4, 2) := by decide +kernel
theorem dX12_weighs_79 : decode cX12_weighs 79 = .ok (.iconst 1, 1) := by decide +kernel
theorem dX12_weighs_80 : decode cX12_weighs 80 = .ok (.iadd, 1) := by decide +kernel
theorem dX12_weighs_81 : decode cX12_weighs 81 = .ok (.iaload, 1) := by decide +kernel
theorem dX12_weighs_82 : decode cX12_weighs 82 = .ok (.ifCond .ne 17, 3) := by decide +kernel
theorem dX12_weighs_85 : decode cX12_weighs 85 = .ok (.iload_n 2, 1) := by decide +kernel
theorem dX12_weighs_86 : decode cX12_weighs 86 = .ok (.aload_n 0, 1) := by decide +kernel
theorem dX12_weighs_87 : decode cX12_weighs 87 = .ok (.getfield 9, 3) := by decide +kernel
theorem dX12_weighs_90 : decode cX12_weighs 90 = .ok (.iload 4, 2) := by decide +kernel
theorem dX12_weighs_92 : decode cX12_weighs 92 = .ok (.iconst 2, 1) := by decide +kernel
theorem dX12_weighs_93 : decode cX12_weighs 93 = .ok (.iadd, 1) := by decide +kernel
theorem dX12_weighs_94 : decode cX12_weighs 94 = .ok (.iaload, 1) := by decide +kernel
theorem dX12_weighs_95 : decode cX12_weighs 95 = .ok (.iadd, 1) := by decide +kernel
theorem dX12_weighs_96 : decode cX12_weighs 96 = .ok (.goto 35, 3) := by decide +kernel
theorem dX12_weighs_99 : decode cX12_weighs 99 = .ok (.aload_n 0, 1) := by decide +kernel
theorem dX12_weighs_100 : decode cX12_weighs 100 = .ok (.getfield 9, 3) := by decide +kernel
theorem dX12_weighs_103 : decode cX12_weighs 103 = .ok (.iload 4, 2) := by decide +kernel
theorem dX12_weighs_105 : decode cX12_weighs 105 = .ok (.iconst 1, 1) := by decide +kernel
theorem dX12_weighs_106 : decode cX12_weighs 106 = .ok (.iadd, 1) := by decide +kernel
theorem dX12_weighs_107 : decode cX12_weighs 107 = .ok (.iaload, 1) := by decide +kernel
theorem dX12_weighs_108 : decode cX12_weighs 108 = .ok (.iconst 1, 1) := by decide +kernel
theorem dX12_weighs_109 : decode cX12_weighs 109 = .ok (.if_icmp .ne 21, 3) := by decide +kernel
theorem dX12_weighs_112 : decode cX12_weighs 112 = .ok (.iconst 0, 1) := by decide +kernel
theorem dX12_weighs_113 : decode cX12_weighs 113 = .ok (.iload_n 2, 1) := by decide +kernel
theorem dX12_weighs_114 : decode cX12_weighs 114 = .ok (.aload_n 0, 1) := by decide +kernel
theorem dX12_weighs_115 : decode cX12_weighs 115 = .ok (.getfield 9, 3) := by decide +kernel
theorem dX12_weighs_118 : decode cX12_weighs 118 = .ok (.iload 4, 2) := by decide +kernel
theorem dX12_weighs_120 : decode cX12_weighs 120 = .ok (.iconst 2, 1) := by decide +kernel
theorem dX12_weighs_121 : decode cX12_weighs 121 = .ok (.iadd, 1) := by decide +kernel
theorem dX12_weighs_122 : decode cX12_weighs 122 = .ok (.iaload, 1) := by decide +kernel
theorem dX12_weighs_123 : decode cX12_weighs 123 = .ok (.isub, 1) := by decide +kernel
theorem dX12_weighs_124 : decode cX12_weighs 124 = .ok (.invokestatic 110, 3) := by decide +kernel
theorem dX12_weighs_127 : decode cX12_weighs 127 = .ok (.goto 4, 3) := by decide +kernel
theorem dX12_weighs_130 : decode cX12_weighs 130 = .ok (.iconst 0, 1) := by decide +kernel
theorem dX12_weighs_131 : decode cX12_weighs 131 = .ok (.ireturn, 1) := by decide +kernel
theorem dX12_weighs_132 : decode cX12_weighs 132 = .ok (.iinc 3 1, 3) := by decide +kernel
theorem dX12_weighs_135 : decode cX12_weighs 135 = .ok (.goto (-126), 3) := by decide +kernel
theorem dX12_weighs_138 : decode cX12_weighs 138 = .ok (.iload_n 2, 1) := by decide +kernel
theorem dX12_weighs_139 : decode cX12_weighs 139 = .ok (.ireturn, 1) := by decide +kernel
theorem dX12_powerOf_0 : decode cX12_powerOf 0 = .ok (.aload_n 0, 1) := by decide +kernel
theorem dX12_powerOf_1 : decode cX12_powerOf 1 = .ok (.iload_n 1, 1) := by decide +kernel
theorem dX12_powerOf_2 : decode cX12_powerOf 2 = .ok (.invokevirtual 115, 3) := by decide +kernel
theorem dX12_powerOf_5 : decode cX12_powerOf 5 = .ok (.istore_n 2, 1) := by decide +kernel
theorem dX12_powerOf_6 : decode cX12_powerOf 6 = .ok (.aload_n 0, 1) := by decide +kernel
theorem dX12_powerOf_7 : decode cX12_powerOf 7 = .ok (.getfield 9, 3) := by decide +kernel
theorem dX12_powerOf_10 : decode cX12_powerOf 10 = .ok (.iconst 1, 1) := by decide +kernel
theorem dX12_powerOf_11 : decode cX12_powerOf 11 = .ok (.iaload, 1) := by decide +kernel
theorem dX12_powerOf_12 : decode cX12_powerOf 12 = .ok (.bipush 12, 2) := by decide +kernel
theorem dX12_powerOf_14 : decode cX12_powerOf 14 = .ok (.if_icmp .ge 7, 3) := by decide +kernel
theorem dX12_powerOf_17 : decode cX12_powerOf 17 = .ok (.iload_n 2, 1) := by decide +kernel
theorem dX12_powerOf_18 : decode cX12_powerOf 18 = .ok (.goto 6, 3) := by decide +kernel
theorem dX12_powerOf_21 : decode cX12_powerOf 21 = .ok (.iload_n 2, 1) := by decide +kernel
theorem dX12_powerOf_22 : decode cX12_powerOf 22 = .ok (.iconst 2, 1) := by decide +kernel
theorem dX12_powerOf_23 : decode cX12_powerOf 23 = .ok (.iadd, 1) := by decide +kernel
theorem dX12_powerOf_24 : decode cX12_powerOf 24 = .ok (.istore_n 3, 1) := by decide +kernel
theorem dX12_powerOf_25 : decode cX12_powerOf 25 = .ok (.aload_n 0, 1) := by decide +kernel
theorem dX12_powerOf_26 : decode cX12_powerOf 26 = .ok (.iload_n 1, 1) := by decide +kernel
theorem dX12_powerOf_27 : decode cX12_powerOf 27 = .ok (.iconst 0, 1) := by decide +kernel
theorem dX12_powerOf_28 : decode cX12_powerOf 28 = .ok (.invokevirtual 85, 3) := by decide +kernel
theorem dX12_powerOf_31 : decode cX12_powerOf 31 = .ok (.tableswitch 58 2 5 #[29, 31, 35, 39], 29) := by decide +kernel
theorem dX12_powerOf_60 : decode cX12_powerOf 60 = .ok (.iload_n 3, 1) := by decide +kernel
theorem dX12_powerOf_61 : decode cX12_powerOf 61 = .ok (.ireturn, 1) := by decide +kernel
theorem dX12_powerOf_62 : decode cX12_powerOf 62 = .ok (.iconst 3, 1) := by decide +kernel
theorem dX12_powerOf_63 : decode cX12_powerOf 63 = .ok (.iload_n 3, 1) := by decide +kernel
theorem dX12_powerOf_64 : decode cX12_powerOf 64 = .ok (.imul, 1) := by decide +kernel
theorem dX12_powerOf_65 : decode cX12_powerOf 65 = .ok (.ireturn, 1) := by decide +kernel
theorem dX12_powerOf_66 : decode cX12_powerOf 66 = .ok (.iload_n 2, 1) := by decide +kernel
theorem dX12_powerOf_67 : decode cX12_powerOf 67 = .ok (.iconst 2, 1) := by decide +kernel
theorem dX12_powerOf_68 : decode cX12_powerOf 68 = .ok (.idiv, 1) := by decide +kernel
theorem dX12_powerOf_69 : decode cX12_powerOf 69 = .ok (.ireturn, 1) := by decide +kernel
theorem dX12_powerOf_70 : decode cX12_powerOf 70 = .ok (.aload_n 0, 1) := by decide +kernel
theorem dX12_powerOf_71 : decode cX12_powerOf 71 = .ok (.getfield 9, 3) := by decide +kernel
theorem dX12_powerOf_74 : decode cX12_powerOf 74 = .ok (.iconst 1, 1) := by decide +kernel
theorem dX12_powerOf_75 : decode cX12_powerOf 75 = .ok (.iaload, 1) := by decide +kernel
theorem dX12_powerOf_76 : decode cX12_powerOf 76 = .ok (.bipush 6, 2) := by decide +kernel
theorem dX12_powerOf_78 : decode cX12_powerOf 78 = .ok (.if_icmp .ge 7, 3) := by decide +kernel
theorem dX12_powerOf_81 : decode cX12_powerOf 81 = .ok (.iconst 0, 1) := by decide +kernel
theorem dX12_powerOf_82 : decode cX12_powerOf 82 = .ok (.goto 6, 3) := by decide +kernel
theorem dX12_powerOf_85 : decode cX12_powerOf 85 = .ok (.iload_n 2, 1) := by decide +kernel
theorem dX12_powerOf_86 : decode cX12_powerOf 86 = .ok (.iconst 2, 1) := by decide +kernel
theorem dX12_powerOf_87 : decode cX12_powerOf 87 = .ok (.idiv, 1) := by decide +kernel
theorem dX12_powerOf_88 : decode cX12_powerOf 88 = .ok (.ireturn, 1) := by decide +kernel
theorem dX12_powerOf_89 : decode cX12_powerOf 89 = .ok (.iload_n 2, 1) := by decide +kernel
theorem dX12_powerOf_90 : decode cX12_powerOf 90 = .ok (.ireturn, 1) := by decide +kernel
theorem dX12_voterOf_0 : decode cX12_voterOf 0 = .ok (.aload_n 0, 1) := by decide +kernel
theorem dX12_voterOf_1 : decode cX12_voterOf 1 = .ok (.iload_n 1, 1) := by decide +kernel
theorem dX12_voterOf_2 : decode cX12_voterOf 2 = .ok (.invokevirtual 118, 3) := by decide +kernel
theorem dX12_voterOf_5 : decode cX12_voterOf 5 = .ok (.ifCond .eq 15, 3) := by decide +kernel
theorem dX12_voterOf_8 : decode cX12_voterOf 8 = .ok (.iload_n 2, 1) := by decide +kernel
theorem dX12_voterOf_9 : decode cX12_voterOf 9 = .ok (.i2l, 1) := by decide +kernel
theorem dX12_voterOf_10 : decode cX12_voterOf 10 = .ok (.lconst 0, 1) := by decide +kernel
theorem dX12_voterOf_11 : decode cX12_voterOf 11 = .ok (.ldc2_w 121, 3) := by decide +kernel
theorem dX12_voterOf_14 : decode cX12_voterOf 14 = .ok (.invokestatic 58, 3) := by decide +kernel
theorem dX12_voterOf_17 : decode cX12_voterOf 17 = .ok (.ifCond .ne 5, 3) := by decide +kernel
theorem dX12_voterOf_20 : decode cX12_voterOf 20 = .ok (.iconst (-1), 1) := by decide +kernel
theorem dX12_voterOf_21 : decode cX12_voterOf 21 = .ok (.ireturn, 1) := by decide +kernel
theorem dX12_voterOf_22 : decode cX12_voterOf 22 = .ok (.iload_n 2, 1) := by decide +kernel
theorem dX12_voterOf_23 : decode cX12_voterOf 23 = .ok (.iconst 5, 1) := by decide +kernel
theorem dX12_voterOf_24 : decode cX12_voterOf 24 = .ok (.if_icmp .ge 12, 3) := by decide +kernel
theorem dX12_voterOf_27 : decode cX12_voterOf 27 = .ok (.aload_n 0, 1) := by decide +kernel
theorem dX12_voterOf_28 : decode cX12_voterOf 28 = .ok (.iload_n 1, 1) := by decide +kernel
theorem dX12_voterOf_29 : decode cX12_voterOf 29 = .ok (.iload_n 2, 1) := by decide +kernel
theorem dX12_voterOf_30 : decode cX12_voterOf 30 = .ok (.invokevirtual 85, 3) := by decide +kernel
theorem dX12_voterOf_33 : decode cX12_voterOf 33 = .ok (.goto 23, 3) := by decide +kernel
theorem dX12_voterOf_36 : decode cX12_voterOf 36 = .ok (.iload_n 2, 1) := by decide +kernel
theorem dX12_voterOf_37 : decode cX12_voterOf 37 = .ok (.iconst 5, 1) := by decide +kernel
theorem dX12_voterOf_38 : decode cX12_voterOf 38 = .ok (.if_icmp .ne 13, 3) := by decide +kernel
theorem dX12_voterOf_41 : decode cX12_voterOf 41 = .ok (.aload_n 0, 1) := by decide +kernel
theorem dX12_voterOf_42 : decode cX12_voterOf 42 = .ok (.iload_n 1, 1) := by decide +kernel
theorem dX12_voterOf_43 : decode cX12_voterOf 43 = .ok (.invokevirtual 123, 3) := by decide +kernel
theorem dX12_voterOf_46 : decode cX12_voterOf 46 = .ok (.iconst 1, 1) := by decide +kernel
theorem dX12_voterOf_47 : decode cX12_voterOf 47 = .ok (.iadd, 1) := by decide +kernel
theorem dX12_voterOf_48 : decode cX12_voterOf 48 = .ok (.goto 8, 3) := by decide +kernel
theorem dX12_voterOf_51 : decode cX12_voterOf 51 = .ok (.aload_n 0, 1) := by decide +kernel
theorem dX12_voterOf_52 : decode cX12_voterOf 52 = .ok (.iload_n 1, 1) := by decide +kernel
theorem dX12_voterOf_53 : decode cX12_voterOf 53 = .ok (.invokevirtual 126, 3) := by decide +kernel
theorem dX12_voterOf_56 : decode cX12_voterOf 56 = .ok (.ireturn, 1) := by decide +kernel
theorem dX12_becomes_0 : decode cX12_becomes 0 = .ok (.aload_n 0, 1) := by decide +kernel
theorem dX12_becomes_1 : decode cX12_becomes 1 = .ok (.getfield 9, 3) := by decide +kernel
theorem dX12_becomes_4 : decode cX12_becomes 4 = .ok (.iload_n 1, 1) := by decide +kernel
theorem dX12_becomes_5 : decode cX12_becomes 5 = .ok (.iaload, 1) := by decide +kernel
theorem dX12_becomes_6 : decode cX12_becomes 6 = .ok (.istore_n 3, 1) := by decide +kernel
theorem dX12_becomes_7 : decode cX12_becomes 7 = .ok (.aload_n 0, 1) := by decide +kernel
theorem dX12_becomes_8 : decode cX12_becomes 8 = .ok (.getfield 9, 3) := by decide +kernel
theorem dX12_becomes_11 : decode cX12_becomes 11 = .ok (.iload_n 1, 1) := by decide +kernel
theorem dX12_becomes_12 : decode cX12_becomes 12 = .ok (.iload_n 2, 1) := by decide +kernel
theorem dX12_becomes_13 : decode cX12_becomes 13 = .ok (.iastore, 1) := by decide +kernel
theorem dX12_becomes_14 : decode cX12_becomes 14 = .ok (.iload_n 3, 1) := by decide +kernel
theorem dX12_becomes_15 : decode cX12_becomes 15 = .ok (.ireturn, 1) := by decide +kernel
theorem dX12_change_0 : decode cX12_change 0 = .ok (.aload_n 0, 1) := by decide +kernel
theorem dX12_change_1 : decode cX12_change 1 = .ok (.iload_n 1, 1) := by decide +kernel
theorem dX12_change_2 : decode cX12_change 2 = .ok (.invokevirtual 118, 3) := by decide +kernel
theorem dX12_change_5 : decode cX12_change 5 = .ok (.ifCond .eq 27, 3) := by decide +kernel
theorem dX12_change_8 : decode cX12_change 8 = .ok (.iload_n 2, 1) := by decide +kernel
theorem dX12_change_9 : decode cX12_change 9 = .ok (.iload_n 3, 1) := by decide +kernel
theorem dX12_change_10 : decode cX12_change 10 = .ok (.invokestatic 77, 3) := by decide +kernel
theorem dX12_change_13 : decode cX12_change 13 = .ok (.ifCond .eq 19, 3) := by decide +kernel
theorem dX12_change_16 : decode cX12_change 16 = .ok (.aload_n 0, 1) := by decide +kernel
theorem dX12_change_17 : decode cX12_change 17 = .ok (.bipush 8, 2) := by decide +kernel
theorem dX12_change_19 : decode cX12_change 19 = .ok (.iconst 5, 1) := by decide +kernel
theorem dX12_change_20 : decode cX12_change 20 = .ok (.iload_n 1, 1) := by decide +kernel
theorem dX12_change_21 : decode cX12_change 21 = .ok (.imul, 1) := by decide +kernel
theorem dX12_change_22 : decode cX12_change 22 = .ok (.iadd, 1) := by decide +kernel
theorem dX12_change_23 : decode cX12_change 23 = .ok (.iload_n 2, 1) := by decide +kernel
theorem dX12_change_24 : decode cX12_change 24 = .ok (.iadd, 1) := by decide +kernel
theorem dX12_change_25 : decode cX12_change 25 = .ok (.iload_n 3, 1) := by decide +kernel
theorem dX12_change_26 : decode cX12_change 26 = .ok (.invokevirtual 129, 3) := by decide +kernel
theorem dX12_change_29 : decode cX12_change 29 = .ok (.goto 4, 3) := by decide +kernel
theorem dX12_change_32 : decode cX12_change 32 = .ok (.iconst (-1), 1) := by decide +kernel
theorem dX12_change_33 : decode cX12_change 33 = .ok (.ireturn, 1) := by decide +kernel
theorem dX12_remake_0 : decode cX12_remake 0 = .ok (.aload_n 0, 1) := by decide +kernel
theorem dX12_remake_1 : decode cX12_remake 1 = .ok (.iload_n 1, 1) := by decide +kernel
theorem dX12_remake_2 : decode cX12_remake 2 = .ok (.invokevirtual 118, 3) := by decide +kernel
theorem dX12_remake_5 : decode cX12_remake 5 = .ok (.ifCond .eq 24, 3) := by decide +kernel
theorem dX12_remake_8 : decode cX12_remake 8 = .ok (.iload_n 2, 1) := by decide +kernel
theorem dX12_remake_9 : decode cX12_remake 9 = .ok (.invokestatic 74, 3) := by decide +kernel
theorem dX12_remake_12 : decode cX12_remake 12 = .ok (.ifCond .eq 17, 3) := by decide +kernel
theorem dX12_remake_15 : decode cX12_remake 15 = .ok (.aload_n 0, 1) := by decide +kernel
theorem dX12_remake_16 : decode cX12_remake 16 = .ok (.bipush 8, 2) := by decide +kernel
theorem dX12_remake_18 : decode cX12_remake 18 = .ok (.iconst 5, 1) := by decide +kernel
theorem dX12_remake_19 : decode cX12_remake 19 = .ok (.iload_n 1, 1) := by decide +kernel
theorem dX12_remake_20 : decode cX12_remake 20 = .ok (.imul, 1) := by decide +kernel
theorem dX12_remake_21 : decode cX12_remake 21 = .ok (.iadd, 1) := by decide +kernel
theorem dX12_remake_22 : decode cX12_remake 22 = .ok (.iload_n 2, 1) := by decide +kernel
theorem dX12_remake_23 : decode cX12_remake 23 = .ok (.invokevirtual 129, 3) := by decide +kernel
theorem dX12_remake_26 : decode cX12_remake 26 = .ok (.goto 4, 3) := by decide +kernel
theorem dX12_remake_29 : decode cX12_remake 29 = .ok (.iconst (-1), 1) := by decide +kernel
theorem dX12_remake_30 : decode cX12_remake 30 = .ok (.ireturn, 1) := by decide +kernel
theorem dX12_wakes_0 : decode cX12_wakes 0 = .ok (.aload_n 0, 1) := by decide +kernel
theorem dX12_wakes_1 : decode cX12_wakes 1 = .ok (.iload_n 1, 1) := by decide +kernel
theorem dX12_wakes_2 : decode cX12_wakes 2 = .ok (.invokevirtual 118, 3) := by decide +kernel
theorem dX12_wakes_5 : decode cX12_wakes 5 = .ok (.ifCond .eq 27, 3) := by decide +kernel
theorem dX12_wakes_8 : decode cX12_wakes 8 = .ok (.aload_n 0, 1) := by decide +kernel
theorem dX12_wakes_9 : decode cX12_wakes 9 = .ok (.bipush 8, 2) := by decide +kernel
theorem dX12_wakes_11 : decode cX12_wakes 11 = .ok (.iconst 5, 1) := by decide +kernel
theorem dX12_wakes_12 : decode cX12_wakes 12 = .ok (.iload_n 1, 1) := by decide +kernel
theorem dX12_wakes_13 : decode cX12_wakes 13 = .ok (.imul, 1) := by decide +kernel
theorem dX12_wakes_14 : decode cX12_wakes 14 = .ok (.iadd, 1) := by decide +kernel
theorem dX12_wakes_15 : decode cX12_wakes 15 = .ok (.iconst 4, 1) := by decide +kernel
theorem dX12_wakes_16 : decode cX12_wakes 16 = .ok (.iadd, 1) := by decide +kernel
theorem dX12_wakes_17 : decode cX12_wakes 17 = .ok (.iload_n 2, 1) := by decide +kernel
theorem dX12_wakes_18 : decode cX12_wakes 18 = .ok (.ifCond .eq 7, 3) := by decide +kernel
theorem dX12_wakes_21 : decode cX12_wakes 21 = .ok (.iconst 1, 1) := by decide +kernel
theorem dX12_wakes_22 : decode cX12_wakes 22 = .ok (.goto 4, 3) := by decide +kernel
theorem dX12_wakes_25 : decode cX12_wakes 25 = .ok (.iconst 0, 1) := by decide +kernel
theorem dX12_wakes_26 : decode cX12_wakes 26 = .ok (.invokevirtual 129, 3) := by decide +kernel
theorem dX12_wakes_29 : decode cX12_wakes 29 = .ok (.goto 4, 3) := by decide +kernel
theorem dX12_wakes_32 : decode cX12_wakes 32 = .ok (.iconst (-1), 1) := by decide +kernel
theorem dX12_wakes_33 : decode cX12_wakes 33 = .ok (.ireturn, 1) := by decide +kernel
theorem dX12_clock_0 : decode cX12_clock 0 = .ok (.iload_n 1, 1) := by decide +kernel
theorem dX12_clock_1 : decode cX12_clock 1 = .ok (.invokestatic 66, 3) := by decide +kernel
theorem dX12_clock_4 : decode cX12_clock 4 = .ok (.ifCond .eq 12, 3) := by decide +kernel
theorem dX12_clock_7 : decode cX12_clock 7 = .ok (.aload_n 0, 1) := by decide +kernel
theorem dX12_clock_8 : decode cX12_clock 8 = .ok (.iconst 1, 1) := by decide +kernel
theorem dX12_clock_9 : decode cX12_clock 9 = .ok (.iload_n 1, 1) := by decide +kernel
theorem dX12_clock_10 : decode cX12_clock 10 = .ok (.invokevirtual 129, 3) := by decide +kernel
theorem dX12_clock_13 : decode cX12_clock 13 = .ok (.goto 4, 3) := by decide +kernel
theorem dX12_clock_16 : decode cX12_clock 16 = .ok (.iconst (-1), 1) := by decide +kernel
theorem dX12_clock_17 : decode cX12_clock 17 = .ok (.ireturn, 1) := by decide +kernel
theorem dX12_limit_0 : decode cX12_limit 0 = .ok (.iload_n 1, 1) := by decide +kernel
theorem dX12_limit_1 : decode cX12_limit 1 = .ok (.i2l, 1) := by decide +kernel
theorem dX12_limit_2 : decode cX12_limit 2 = .ok (.lconst 0, 1) := by decide +kernel
theorem dX12_limit_3 : decode cX12_limit 3 = .ok (.ldc2_w 72, 3) := by decide +kernel
theorem dX12_limit_6 : decode cX12_limit 6 = .ok (.invokestatic 58, 3) := by decide +kernel
theorem dX12_limit_9 : decode cX12_limit 9 = .ok (.ifCond .eq 12, 3) := by decide +kernel
theorem dX12_limit_12 : decode cX12_limit 12 = .ok (.aload_n 0, 1) := by decide +kernel
theorem dX12_limit_13 : decode cX12_limit 13 = .ok (.iconst 3, 1) := by decide +kernel
theorem dX12_limit_14 : decode cX12_limit 14 = .ok (.iload_n 1, 1) := by decide +kernel
theorem dX12_limit_15 : decode cX12_limit 15 = .ok (.invokevirtual 129, 3) := by decide +kernel
theorem dX12_limit_18 : decode cX12_limit 18 = .ok (.goto 4, 3) := by decide +kernel
theorem dX12_limit_21 : decode cX12_limit 21 = .ok (.iconst (-1), 1) := by decide +kernel
theorem dX12_limit_22 : decode cX12_limit 22 = .ok (.ireturn, 1) := by decide +kernel
theorem dX12_awakeSet_0 : decode cX12_awakeSet 0 = .ok (.iconst 0, 1) := by decide +kernel
theorem dX12_awakeSet_1 : decode cX12_awakeSet 1 = .ok (.istore_n 1, 1) := by decide +kernel
theorem dX12_awakeSet_2 : decode cX12_awakeSet 2 = .ok (.iconst 0, 1) := by decide +kernel
theorem dX12_awakeSet_3 : decode cX12_awakeSet 3 = .ok (.istore_n 2, 1) := by decide +kernel
theorem dX12_awakeSet_4 : decode cX12_awakeSet 4 = .ok (.iload_n 2, 1) := by decide +kernel
theorem dX12_awakeSet_5 : decode cX12_awakeSet 5 = .ok (.aload_n 0, 1) := by decide +kernel
theorem dX12_awakeSet_6 : decode cX12_awakeSet 6 = .ok (.getfield 9, 3) := by decide +kernel
theorem dX12_awakeSet_9 : decode cX12_awakeSet 9 = .ok (.iconst 0, 1) := by decide +kernel
theorem dX12_awakeSet_10 : decode cX12_awakeSet 10 = .ok (.iaload, 1) := by decide +kernel
theorem dX12_awakeSet_11 : decode cX12_awakeSet 11 = .ok (.if_icmp .ge 20, 3) := by decide +kernel
theorem dX12_awakeSet_14 : decode cX12_awakeSet 14 = .ok (.iload_n 1, 1) := by decide +kernel
theorem dX12_awakeSet_15 : decode cX12_awakeSet 15 = .ok (.aload_n 0, 1) := by decide +kernel
theorem dX12_awakeSet_16 : decode cX12_awakeSet 16 = .ok (.iload_n 2, 1) := by decide +kernel
theorem dX12_awakeSet_17 : decode cX12_awakeSet 17 = .ok (.iconst 4, 1) := by decide +kernel
theorem dX12_awakeSet_18 : decode cX12_awakeSet 18 = .ok (.invokevirtual 85, 3) := by decide +kernel
theorem dX12_awakeSet_21 : decode cX12_awakeSet 21 = .ok (.iload_n 2, 1) := by decide +kernel
theorem dX12_awakeSet_22 : decode cX12_awakeSet 22 = .ok (.ishl, 1) := by decide +kernel
theorem dX12_awakeSet_23 : decode cX12_awakeSet 23 = .ok (.ior, 1) := by decide +kernel
theorem dX12_awakeSet_24 : decode cX12_awakeSet 24 = .ok (.istore_n 1, 1) := by decide +kernel
theorem dX12_awakeSet_25 : decode cX12_awakeSet 25 = .ok (.iinc 2 1, 3) := by decide +kernel
theorem dX12_awakeSet_28 : decode cX12_awakeSet 28 = .ok (.goto (-24), 3) := by decide +kernel
theorem dX12_awakeSet_31 : decode cX12_awakeSet 31 = .ok (.iload_n 1, 1) := by decide +kernel
theorem dX12_awakeSet_32 : decode cX12_awakeSet 32 = .ok (.ireturn, 1) := by decide +kernel
theorem dX12_state_0 : decode cX12_state 0 = .ok (.iload_n 1, 1) := by decide +kernel
theorem dX12_state_1 : decode cX12_state 1 = .ok (.tableswitch 68 0 4 #[35, 42, 49, 56, 61], 35) := by decide +kernel
theorem dX12_state_36 : decode cX12_state 36 = .ok (.aload_n 0, 1) := by decide +kernel
theorem dX12_state_37 : decode cX12_state 37 = .ok (.getfield 9, 3) := by decide +kernel
theorem dX12_state_40 : decode cX12_state 40 = .ok (.iconst 1, 1) := by decide +kernel
theorem dX12_state_41 : decode cX12_state 41 = .ok (.iaload, 1) := by decide +kernel
theorem dX12_state_42 : decode cX12_state 42 = .ok (.ireturn, 1) := by decide +kernel
theorem dX12_state_43 : decode cX12_state 43 = .ok (.aload_n 0, 1) := by decide +kernel
theorem dX12_state_44 : decode cX12_state 44 = .ok (.getfield 9, 3) := by decide +kernel
theorem dX12_state_47 : decode cX12_state 47 = .ok (.iconst 2, 1) := by decide +kernel
theorem dX12_state_48 : decode cX12_state 48 = .ok (.iaload, 1) := by decide +kernel
theorem dX12_state_49 : decode cX12_state 49 = .ok (.ireturn, 1) := by decide +kernel
theorem dX12_state_50 : decode cX12_state 50 = .ok (.aload_n 0, 1) := by decide +kernel
theorem dX12_state_51 : decode cX12_state 51 = .ok (.getfield 9, 3) := by decide +kernel
theorem dX12_state_54 : decode cX12_state 54 = .ok (.iconst 3, 1) := by decide +kernel
theorem dX12_state_55 : decode cX12_state 55 = .ok (.iaload, 1) := by decide +kernel
theorem dX12_state_56 : decode cX12_state 56 = .ok (.ireturn, 1) := by decide +kernel
theorem dX12_state_57 : decode cX12_state 57 = .ok (.aload_n 0, 1) := by decide +kernel
theorem dX12_state_58 : decode cX12_state 58 = .ok (.invokevirtual 132, 3) := by decide +kernel
theorem dX12_state_61 : decode cX12_state 61 = .ok (.ireturn, 1) := by decide +kernel
theorem dX12_state_62 : decode cX12_state 62 = .ok (.aload_n 0, 1) := by decide +kernel
theorem dX12_state_63 : decode cX12_state 63 = .ok (.getfield 9, 3) := by decide +kernel
theorem dX12_state_66 : decode cX12_state 66 = .ok (.iconst 4, 1) := by decide +kernel
theorem dX12_state_67 : decode cX12_state 67 = .ok (.iaload, 1) := by decide +kernel
theorem dX12_state_68 : decode cX12_state 68 = .ok (.ireturn, 1) := by decide +kernel
theorem dX12_state_69 : decode cX12_state 69 = .ok (.iconst (-1), 1) := by decide +kernel
theorem dX12_state_70 : decode cX12_state 70 = .ok (.ireturn, 1) := by decide +kernel
theorem dX12_feed_0 : decode cX12_feed 0 = .ok (.iload_n 3, 1) := by decide +kernel
theorem dX12_feed_1 : decode cX12_feed 1 = .ok (.i2l, 1) := by decide +kernel
theorem dX12_feed_2 : decode cX12_feed 2 = .ok (.lconst 1, 1) := by decide +kernel
theorem dX12_feed_3 : decode cX12_feed 3 = .ok (.ldc2_w 135, 3) := by decide +kernel
theorem dX12_feed_6 : decode cX12_feed 6 = .ok (.invokestatic 58, 3) := by decide +kernel
theorem dX12_feed_9 : decode cX12_feed 9 = .ok (.ifCond .ne 5, 3) := by decide +kernel
theorem dX12_feed_12 : decode cX12_feed 12 = .ok (.iconst (-1), 1) := by decide +kernel
theorem dX12_feed_13 : decode cX12_feed 13 = .ok (.ireturn, 1) := by decide +kernel
theorem dX12_feed_14 : decode cX12_feed 14 = .ok (.aload_n 0, 1) := by decide +kernel
theorem dX12_feed_15 : decode cX12_feed 15 = .ok (.getfield 137, 3) := by decide +kernel
theorem dX12_feed_18 : decode cX12_feed 18 = .ok (.iload_n 3, 1) := by decide +kernel
theorem dX12_feed_19 : decode cX12_feed 19 = .ok (.iadd, 1) := by decide +kernel
theorem dX12_feed_20 : decode cX12_feed 20 = .ok (.sipush 200, 3) := by decide +kernel
theorem dX12_feed_23 : decode cX12_feed 23 = .ok (.if_icmp .le 6, 3) := by decide +kernel
theorem dX12_feed_26 : decode cX12_feed 26 = .ok (.bipush (-2), 2) := by decide +kernel
theorem dX12_feed_28 : decode cX12_feed 28 = .ok (.ireturn, 1) := by decide +kernel
theorem dX12_feed_29 : decode cX12_feed 29 = .ok (.iconst 0, 1) := by decide +kernel
theorem dX12_feed_30 : decode cX12_feed 30 = .ok (.istore 4, 2) := by decide +kernel
theorem dX12_feed_32 : decode cX12_feed 32 = .ok (.iload 4, 2) := by decide +kernel
theorem dX12_feed_34 : decode cX12_feed 34 = .ok (.iload_n 3, 1) := by decide +kernel
theorem dX12_feed_35 : decode cX12_feed 35 = .ok (.if_icmp .ge 40, 3) := by decide +kernel
theorem dX12_feed_38 : decode cX12_feed 38 = .ok (.aload_n 0, 1) := by decide +kernel
theorem dX12_feed_39 : decode cX12_feed 39 = .ok (.getfield 19, 3) := by decide +kernel
theorem dX12_feed_42 : decode cX12_feed 42 = .ok (.aload_n 0, 1) := by decide +kernel
theorem dX12_feed_43 : decode cX12_feed 43 = .ok (.getfield 137, 3) := by decide +kernel
theorem dX12_feed_46 : decode cX12_feed 46 = .ok (.lload_n 1, 1) := by decide +kernel
theorem dX12_feed_47 : decode cX12_feed 47 = .ok (.bipush 8, 2) := by decide +kernel
theorem dX12_feed_49 : decode cX12_feed 49 = .ok (.iload 4, 2) := by decide +kernel
theorem dX12_feed_51 : decode cX12_feed 51 = .ok (.imul, 1) := by decide +kernel
theorem dX12_feed_52 : decode cX12_feed 52 = .ok (.lshr, 1) := by decide +kernel
theorem dX12_feed_53 : decode cX12_feed 53 = .ok (.ldc2_w 141, 3) := by decide +kernel
theorem dX12_feed_56 : decode cX12_feed 56 = .ok (.land, 1) := by decide +kernel
theorem dX12_feed_57 : decode cX12_feed 57 = .ok (.l2i, 1) := by decide +kernel
theorem dX12_feed_58 : decode cX12_feed 58 = .ok (.iastore, 1) := by decide +kernel
theorem dX12_feed_59 : decode cX12_feed 59 = .ok (.aload_n 0, 1) := by decide +kernel
theorem dX12_feed_60 : decode cX12_feed 60 = .ok (.dup, 1) := by decide +kernel
theorem dX12_feed_61 : decode cX12_feed 61 = .ok (.getfield 137, 3) := by decide +kernel
theorem dX12_feed_64 : decode cX12_feed 64 = .ok (.iconst 1, 1) := by decide +kernel
theorem dX12_feed_65 : decode cX12_feed 65 = .ok (.iadd, 1) := by decide +kernel
theorem dX12_feed_66 : decode cX12_feed 66 = .ok (.putfield 137, 3) := by decide +kernel
theorem dX12_feed_69 : decode cX12_feed 69 = .ok (.iinc 4 1, 3) := by decide +kernel
theorem dX12_feed_72 : decode cX12_feed 72 = .ok (.goto (-40), 3) := by decide +kernel
theorem dX12_feed_75 : decode cX12_feed 75 = .ok (.aload_n 0, 1) := by decide +kernel
theorem dX12_feed_76 : decode cX12_feed 76 = .ok (.getfield 137, 3) := by decide +kernel
theorem dX12_feed_79 : decode cX12_feed 79 = .ok (.ireturn, 1) := by decide +kernel
theorem dX12_isByte_0 : decode cX12_isByte 0 = .ok (.iload_n 1, 1) := by decide +kernel
theorem dX12_isByte_1 : decode cX12_isByte 1 = .ok (.aload_n 0, 1) := by decide +kernel
theorem dX12_isByte_2 : decode cX12_isByte 2 = .ok (.getfield 137, 3) := by decide +kernel
theorem dX12_isByte_5 : decode cX12_isByte 5 = .ok (.if_icmp .ge 24, 3) := by decide +kernel
theorem dX12_isByte_8 : decode cX12_isByte 8 = .ok (.aload_n 0, 1) := by decide +kernel
theorem dX12_isByte_9 : decode cX12_isByte 9 = .ok (.getfield 19, 3) := by decide +kernel
theorem dX12_isByte_12 : decode cX12_isByte 12 = .ok (.iload_n 1, 1) := by decide +kernel
theorem dX12_isByte_13 : decode cX12_isByte 13 = .ok (.iaload, 1) := by decide +kernel
theorem dX12_isByte_14 : decode cX12_isByte 14 = .ok (.i2l, 1) := by decide +kernel
theorem dX12_isByte_15 : decode cX12_isByte 15 = .ok (.iload_n 2, 1) := by decide +kernel
theorem dX12_isByte_16 : decode cX12_isByte 16 = .ok (.i2l, 1) := by decide +kernel
theorem dX12_isByte_17 : decode cX12_isByte 17 = .ok (.iload_n 3, 1) := by decide +kernel
theorem dX12_isByte_18 : decode cX12_isByte 18 = .ok (.i2l, 1) := by decide +kernel
theorem dX12_isByte_19 : decode cX12_isByte 19 = .ok (.invokestatic 58, 3) := by decide +kernel
theorem dX12_isByte_22 : decode cX12_isByte 22 = .ok (.ifCond .eq 7, 3) := by decide +kernel
theorem dX12_isByte_25 : decode cX12_isByte 25 = .ok (.iconst 1, 1) := by decide +kernel
theorem dX12_isByte_26 : decode cX12_isByte 26 = .ok (.goto 4, 3) := by decide +kernel
theorem dX12_isByte_29 : decode cX12_isByte 29 = .ok (.iconst 0, 1) := by decide +kernel
theorem dX12_isByte_30 : decode cX12_isByte 30 = .ok (.ireturn, 1) := by decide +kernel
theorem dX12_next_0 : decode cX12_next 0 = .ok (.aload_n 0, 1) := by decide +kernel
theorem dX12_next_1 : decode cX12_next 1 = .ok (.aload_n 0, 1) := by decide +kernel
theorem dX12_next_2 : decode cX12_next 2 = .ok (.getfield 143, 3) := by decide +kernel
theorem dX12_next_5 : decode cX12_next 5 = .ok (.putfield 146, 3) := by decide +kernel
theorem dX12_next_8 : decode cX12_next 8 = .ok (.aload_n 0, 1) := by decide +kernel
theorem dX12_next_9 : decode cX12_next 9 = .ok (.aload_n 0, 1) := by decide +kernel
theorem dX12_next_10 : decode cX12_next 10 = .ok (.getfield 146, 3) := by decide +kernel
theorem dX12_next_13 : decode cX12_next 13 = .ok (.bipush 32, 2) := by decide +kernel
theorem dX12_next_15 : decode cX12_next 15 = .ok (.bipush 32, 2) := by decide +kernel
theorem dX12_next_17 : decode cX12_next 17 = .ok (.invokevirtual 149, 3) := by decide +kernel
theorem dX12_next_20 : decode cX12_next 20 = .ok (.ifCond .eq 16, 3) := by decide +kernel
theorem dX12_next_23 : decode cX12_next 23 = .ok (.aload_n 0, 1) := by decide +kernel
theorem dX12_next_24 : decode cX12_next 24 = .ok (.dup, 1) := by decide +kernel
theorem dX12_next_25 : decode cX12_next 25 = .ok (.getfield 146, 3) := by decide +kernel
theorem dX12_next_28 : decode cX12_next 28 = .ok (.iconst 1, 1) := by decide +kernel
theorem dX12_next_29 : decode cX12_next 29 = .ok (.iadd, 1) := by decide +kernel
theorem dX12_next_30 : decode cX12_next 30 = .ok (.putfield 146, 3) := by decide +kernel
theorem dX12_next_33 : decode cX12_next 33 = .ok (.goto (-25), 3) := by decide +kernel
theorem dX12_next_36 : decode cX12_next 36 = .ok (.aload_n 0, 1) := by decide +kernel
theorem dX12_next_37 : decode cX12_next 37 = .ok (.aload_n 0, 1) := by decide +kernel
theorem dX12_next_38 : decode cX12_next 38 = .ok (.getfield 146, 3) := by decide +kernel
theorem dX12_next_41 : decode cX12_next 41 = .ok (.putfield 143, 3) := by decide +kernel
theorem dX12_next_44 : decode cX12_next 44 = .ok (.aload_n 0, 1) := by decide +kernel
theorem dX12_next_45 : decode cX12_next 45 = .ok (.aload_n 0, 1) := by decide +kernel
theorem dX12_next_46 : decode cX12_next 46 = .ok (.getfield 146, 3) := by decide +kernel
theorem dX12_next_49 : decode cX12_next 49 = .ok (.bipush 97, 2) := by decide +kernel
theorem dX12_next_51 : decode cX12_next 51 = .ok (.bipush 122, 2) := by decide +kernel
theorem dX12_next_53 : decode cX12_next 53 = .ok (.invokevirtual 149, 3) := by decide +kernel
theorem dX12_next_56 : decode cX12_next 56 = .ok (.istore_n 1, 1) := by decide +kernel
theorem dX12_next_57 : decode cX12_next 57 = .ok (.aload_n 0, 1) := by decide +kernel
theorem dX12_next_58 : decode cX12_next 58 = .ok (.aload_n 0, 1) := by decide +kernel
theorem dX12_next_59 : decode cX12_next 59 = .ok (.getfield 146, 3) := by decide +kernel
theorem dX12_next_62 : decode cX12_next 62 = .ok (.bipush 48, 2) := by decide +kernel
theorem dX12_next_64 : decode cX12_next 64 = .ok (.bipush 57, 2) := by decide +kernel
theorem dX12_next_66 : decode cX12_next 66 = .ok (.invokevirtual 149, 3) := by decide +kernel
theorem dX12_next_69 : decode cX12_next 69 = .ok (.istore_n 2, 1) := by decide +kernel
theorem dX12_next_70 : decode cX12_next 70 = .ok (.iload_n 1, 1) := by decide +kernel
theorem dX12_next_71 : decode cX12_next 71 = .ok (.ifCond .eq 18, 3) := by decide +kernel
theorem dX12_next_74 : decode cX12_next 74 = .ok (.aload_n 0, 1) := by decide +kernel
theorem dX12_next_75 : decode cX12_next 75 = .ok (.aload_n 0, 1) := by decide +kernel
theorem dX12_next_76 : decode cX12_next 76 = .ok (.getfield 143, 3) := by decide +kernel
theorem dX12_next_79 : decode cX12_next 79 = .ok (.bipush 97, 2) := by decide +kernel
theorem dX12_next_81 : decode cX12_next 81 = .ok (.bipush 122, 2) := by decide +kernel
theorem dX12_next_83 : decode cX12_next 83 = .ok (.invokevirtual 149, 3) := by decide +kernel
theorem dX12_next_86 : decode cX12_next 86 = .ok (.ifCond .ne 22, 3) := by decide +kernel
theorem dX12_next_89 : decode cX12_next 89 = .ok (.iload_n 2, 1) := by decide +kernel
theorem dX12_next_90 : decode cX12_next 90 = .ok (.ifCond .eq 31, 3) := by decide +kernel
theorem dX12_next_93 : decode cX12_next 93 = .ok (.aload_n 0, 1) := by decide +kernel
theorem dX12_next_94 : decode cX12_next 94 = .ok (.aload_n 0, 1) := by decide +kernel
theorem dX12_next_95 : decode cX12_next 95 = .ok (.getfield 143, 3) := by decide +kernel
theorem dX12_next_98 : decode cX12_next 98 = .ok (.bipush 48, 2) := by decide +kernel
theorem dX12_next_100 : decode cX12_next 100 = .ok (.bipush 57, 2) := by decide +kernel
theorem dX12_next_102 : decode cX12_next 102 = .ok (.invokevirtual 149, 3) := by decide +kernel
theorem dX12_next_105 : decode cX12_next 105 = .ok (.ifCond .eq 16, 3) := by decide +kernel
theorem dX12_next_108 : decode cX12_next 108 = .ok (.aload_n 0, 1) := by decide +kernel
theorem dX12_next_109 : decode cX12_next 109 = .ok (.dup, 1) := by decide +kernel
theorem dX12_next_110 : decode cX12_next 110 = .ok (.getfield 143, 3) := by decide +kernel
theorem dX12_next_113 : decode cX12_next 113 = .ok (.iconst 1, 1) := by decide +kernel
theorem dX12_next_114 : decode cX12_next 114 = .ok (.iadd, 1) := by decide +kernel
theorem dX12_next_115 : decode cX12_next 115 = .ok (.putfield 143, 3) := by decide +kernel
theorem dX12_next_118 : decode cX12_next 118 = .ok (.goto (-48), 3) := by decide +kernel
theorem dX12_next_121 : decode cX12_next 121 = .ok (.aload_n 0, 1) := by decide +kernel
theorem dX12_next_122 : decode cX12_next 122 = .ok (.dup, 1) := by decide +kernel
theorem dX12_next_123 : decode cX12_next 123 = .ok (.getfield 143, 3) := by decide +kernel
theorem dX12_next_126 : decode cX12_next 126 = .ok (.iload_n 1, 1) := by decide +kernel
theorem dX12_next_127 : decode cX12_next 127 = .ok (.ifCond .ne 22, 3) := by decide +kernel
theorem dX12_next_130 : decode cX12_next 130 = .ok (.iload_n 2, 1) := by decide +kernel
theorem dX12_next_131 : decode cX12_next 131 = .ok (.ifCond .ne 18, 3) := by decide +kernel
theorem dX12_next_134 : decode cX12_next 134 = .ok (.aload_n 0, 1) := by decide +kernel
theorem dX12_next_135 : decode cX12_next 135 = .ok (.getfield 146, 3) := by decide +kernel
theorem dX12_next_138 : decode cX12_next 138 = .ok (.aload_n 0, 1) := by decide +kernel
theorem dX12_next_139 : decode cX12_next 139 = .ok (.getfield 137, 3) := by decide +kernel
theorem dX12_next_142 : decode cX12_next 142 = .ok (.if_icmp .ge 7, 3) := by decide +kernel
theorem dX12_next_145 : decode cX12_next 145 = .ok (.iconst 1, 1) := by decide +kernel
theorem dX12_next_146 : decode cX12_next 146 = .ok (.goto 4, 3) := by decide +kernel
theorem dX12_next_149 : decode cX12_next 149 = .ok (.iconst 0, 1) := by decide +kernel
theorem dX12_next_150 : decode cX12_next 150 = .ok (.iadd, 1) := by decide +kernel
theorem dX12_next_151 : decode cX12_next 151 = .ok (.putfield 143, 3) := by decide +kernel
theorem dX12_next_154 : decode cX12_next 154 = .ok (.return_, 1) := by decide +kernel
theorem dX12_isWord_0 : decode cX12_isWord 0 = .ok (.aload_n 0, 1) := by decide +kernel
theorem dX12_isWord_1 : decode cX12_isWord 1 = .ok (.getfield 152, 3) := by decide +kernel
theorem dX12_isWord_4 : decode cX12_isWord 4 = .ok (.ifCond .ne 23, 3) := by decide +kernel
theorem dX12_isWord_7 : decode cX12_isWord 7 = .ok (.aload_n 0, 1) := by decide +kernel
theorem dX12_isWord_8 : decode cX12_isWord 8 = .ok (.getfield 143, 3) := by decide +kernel
theorem dX12_isWord_11 : decode cX12_isWord 11 = .ok (.aload_n 0, 1) := by decide +kernel
theorem dX12_isWord_12 : decode cX12_isWord 12 = .ok (.getfield 146, 3) := by decide +kernel
theorem dX12_isWord_15 : decode cX12_isWord 15 = .ok (.isub, 1) := by decide +kernel
theorem dX12_isWord_16 : decode cX12_isWord 16 = .ok (.aload_n 1, 1) := by decide +kernel
theorem dX12_isWord_17 : decode cX12_isWord 17 = .ok (.invokevirtual 156, 3) := by decide +kernel
theorem dX12_isWord_20 : decode cX12_isWord 20 = .ok (.if_icmp .ne 7, 3) := by decide +kernel
theorem dX12_isWord_23 : decode cX12_isWord 23 = .ok (.iconst 1, 1) := by decide +kernel
theorem dX12_isWord_24 : decode cX12_isWord 24 = .ok (.goto 4, 3) := by decide +kernel
theorem dX12_isWord_27 : decode cX12_isWord 27 = .ok (.iconst 0, 1) := by decide +kernel
theorem dX12_isWord_28 : decode cX12_isWord 28 = .ok (.istore_n 2, 1) := by decide +kernel
theorem dX12_isWord_29 : decode cX12_isWord 29 = .ok (.iconst 0, 1) := by decide +kernel
theorem dX12_isWord_30 : decode cX12_isWord 30 = .ok (.istore_n 3, 1) := by decide +kernel
theorem dX12_isWord_31 : decode cX12_isWord 31 = .ok (.iload_n 2, 1) := by decide +kernel
theorem dX12_isWord_32 : decode cX12_isWord 32 = .ok (.ifCond .eq 42, 3) := by decide +kernel
theorem dX12_isWord_35 : decode cX12_isWord 35 = .ok (.iload_n 3, 1) := by decide +kernel
theorem dX12_isWord_36 : decode cX12_isWord 36 = .ok (.aload_n 1, 1) := by decide +kernel
theorem dX12_isWord_37 : decode cX12_isWord 37 = .ok (.invokevirtual 156, 3) := by decide +kernel
theorem dX12_isWord_40 : decode cX12_isWord 40 = .ok (.if_icmp .ge 34, 3) := by decide +kernel
theorem dX12_isWord_43 : decode cX12_isWord 43 = .ok (.aload_n 0, 1) := by decide +kernel
theorem dX12_isWord_44 : decode cX12_isWord 44 = .ok (.getfield 19, 3) := by decide +kernel
theorem dX12_isWord_47 : decode cX12_isWord 47 = .ok (.aload_n 0, 1) := by decide +kernel
theorem dX12_isWord_48 : decode cX12_isWord 48 = .ok (.getfield 146, 3) := by decide +kernel
theorem dX12_isWord_51 : decode cX12_isWord 51 = .ok (.iload_n 3, 1) := by decide +kernel
theorem dX12_isWord_52 : decode cX12_isWord 52 = .ok (.iadd, 1) := by decide +kernel
theorem dX12_isWord_53 : decode cX12_isWord 53 = .ok (.iaload, 1) := by decide +kernel
theorem dX12_isWord_54 : decode cX12_isWord 54 = .ok (.aload_n 1, 1) := by decide +kernel
theorem dX12_isWord_55 : decode cX12_isWord 55 = .ok (.iload_n 3, 1) := by decide +kernel
theorem dX12_isWord_56 : decode cX12_isWord 56 = .ok (.invokevirtual 161, 3) := by decide +kernel
theorem dX12_isWord_59 : decode cX12_isWord 59 = .ok (.if_icmp .ne 7, 3) := by decide +kernel
theorem dX12_isWord_62 : decode cX12_isWord 62 = .ok (.iconst 1, 1) := by decide +kernel
theorem dX12_isWord_63 : decode cX12_isWord 63 = .ok (.goto 4, 3) := by decide +kernel
theorem dX12_isWord_66 : decode cX12_isWord 66 = .ok (.iconst 0, 1) := by decide +kernel
theorem dX12_isWord_67 : decode cX12_isWord 67 = .ok (.istore_n 2, 1) := by decide +kernel
theorem dX12_isWord_68 : decode cX12_isWord 68 = .ok (.iinc 3 1, 3) := by decide +kernel
theorem dX12_isWord_71 : decode cX12_isWord 71 = .ok (.goto (-40), 3) := by decide +kernel
theorem dX12_isWord_74 : decode cX12_isWord 74 = .ok (.iload_n 2, 1) := by decide +kernel
theorem dX12_isWord_75 : decode cX12_isWord 75 = .ok (.ireturn, 1) := by decide +kernel
theorem dX12_takes_0 : decode cX12_takes 0 = .ok (.aload_n 0, 1) := by decide +kernel
theorem dX12_takes_1 : decode cX12_takes 1 = .ok (.aload_n 1, 1) := by decide +kernel
theorem dX12_takes_2 : decode cX12_takes 2 = .ok (.invokevirtual 165, 3) := by decide +kernel
theorem dX12_takes_5 : decode cX12_takes 5 = .ok (.istore_n 2, 1) := by decide +kernel
theorem dX12_takes_6 : decode cX12_takes 6 = .ok (.iload_n 2, 1) := by decide +kernel
theorem dX12_takes_7 : decode cX12_takes 7 = .ok (.ifCond .eq 7, 3) := by decide +kernel
theorem dX12_takes_10 : decode cX12_takes 10 = .ok (.aload_n 0, 1) := by decide +kernel
theorem dX12_takes_11 : decode cX12_takes 11 = .ok (.invokevirtual 169, 3) := by decide +kernel
theorem dX12_takes_14 : decode cX12_takes 14 = .ok (.iload_n 2, 1) := by decide +kernel
theorem dX12_takes_15 : decode cX12_takes 15 = .ok (.ireturn, 1) := by decide +kernel
theorem dX12_wants_0 : decode cX12_wants 0 = .ok (.aload_n 0, 1) := by decide +kernel
theorem dX12_wants_1 : decode cX12_wants 1 = .ok (.aload_n 0, 1) := by decide +kernel
theorem dX12_wants_2 : decode cX12_wants 2 = .ok (.getfield 152, 3) := by decide +kernel
theorem dX12_wants_5 : decode cX12_wants 5 = .ok (.ifCond .ne 11, 3) := by decide +kernel
theorem dX12_wants_8 : decode cX12_wants 8 = .ok (.aload_n 0, 1) := by decide +kernel
theorem dX12_wants_9 : decode cX12_wants 9 = .ok (.aload_n 1, 1) := by decide +kernel
theorem dX12_wants_10 : decode cX12_wants 10 = .ok (.invokevirtual 165, 3) := by decide +kernel
theorem dX12_wants_13 : decode cX12_wants 13 = .ok (.ifCond .ne 7, 3) := by decide +kernel
theorem dX12_wants_16 : decode cX12_wants 16 = .ok (.iconst 1, 1) := by decide +kernel
theorem dX12_wants_17 : decode cX12_wants 17 = .ok (.goto 4, 3) := by decide +kernel
theorem dX12_wants_20 : decode cX12_wants 20 = .ok (.iconst 0, 1) := by decide +kernel
theorem dX12_wants_21 : decode cX12_wants 21 = .ok (.putfield 152, 3) := by decide +kernel
theorem dX12_wants_24 : decode cX12_wants 24 = .ok (.aload_n 0, 1) := by decide +kernel
theorem dX12_wants_25 : decode cX12_wants 25 = .ok (.getfield 152, 3) := by decide +kernel
theorem dX12_wants_28 : decode cX12_wants 28 = .ok (.ifCond .ne 7, 3) := by decide +kernel
theorem dX12_wants_31 : decode cX12_wants 31 = .ok (.aload_n 0, 1) := by decide +kernel
theorem dX12_wants_32 : decode cX12_wants 32 = .ok (.invokevirtual 169, 3) := by decide +kernel
theorem dX12_wants_35 : decode cX12_wants 35 = .ok (.return_, 1) := by decide +kernel
theorem dX12_numberHere_0 : decode cX12_numberHere 0 = .ok (.aload_n 0, 1) := by decide +kernel
theorem dX12_numberHere_1 : decode cX12_numberHere 1 = .ok (.aload_n 0, 1) := by decide +kernel
theorem dX12_numberHere_2 : decode cX12_numberHere 2 = .ok (.getfield 146, 3) := by decide +kernel
theorem dX12_numberHere_5 : decode cX12_numberHere 5 = .ok (.bipush 48, 2) := by decide +kernel
theorem dX12_numberHere_7 : decode cX12_numberHere 7 = .ok (.bipush 57, 2) := by decide +kernel
theorem dX12_numberHere_9 : decode cX12_numberHere 9 = .ok (.invokevirtual 149, 3) := by decide +kernel
theorem dX12_numberHere_12 : decode cX12_numberHere 12 = .ok (.ifCond .eq 20, 3) := by decide +kernel
theorem dX12_numberHere_15 : decode cX12_numberHere 15 = .ok (.aload_n 0, 1) := by decide +kernel
theorem dX12_numberHere_16 : decode cX12_numberHere 16 = .ok (.getfield 143, 3) := by decide +kernel
theorem dX12_numberHere_19 : decode cX12_numberHere 19 = .ok (.aload_n 0, 1) := by decide +kernel
theorem dX12_numberHere_20 : decode cX12_numberHere 20 = .ok (.getfield 146, 3) := by decide +kernel
theorem dX12_numberHere_23 : decode cX12_numberHere 23 = .ok (.isub, 1) := by decide +kernel
theorem dX12_numberHere_24 : decode cX12_numberHere 24 = .ok (.iconst 4, 1) := by decide +kernel
theorem dX12_numberHere_25 : decode cX12_numberHere 25 = .ok (.if_icmp .gt 7, 3) := by decide +kernel
theorem dX12_numberHere_28 : decode cX12_numberHere 28 = .ok (.iconst 0, 1) := by decide +kernel
theorem dX12_numberHere_29 : decode cX12_numberHere 29 = .ok (.goto 4, 3) := by decide +kernel
theorem dX12_numberHere_32 : decode cX12_numberHere 32 = .ok (.iconst (-1), 1) := by decide +kernel
theorem dX12_numberHere_33 : decode cX12_numberHere 33 = .ok (.istore_n 1, 1) := by decide +kernel
theorem dX12_numberHere_34 : decode cX12_numberHere 34 = .ok (.aload_n 0, 1) := by decide +kernel
theorem dX12_numberHere_35 : decode cX12_numberHere 35 = .ok (.getfield 146, 3) := by decide +kernel
theorem dX12_numberHere_38 : decode cX12_numberHere 38 = .ok (.istore_n 2, 1) := by decide +kernel
theorem dX12_numberHere_39 : decode cX12_numberHere 39 = .ok (.iload_n 2, 1) := by decide +kernel
theorem dX12_numberHere_40 : decode cX12_numberHere 40 = .ok (.aload_n 0, 1) := by decide +kernel
theorem dX12_numberHere_41 : decode cX12_numberHere 41 = .ok (.getfield 143, 3) := by decide +kernel
theorem dX12_numberHere_44 : decode cX12_numberHere 44 = .ok (.if_icmp .ge 28, 3) := by decide +kernel
theorem dX12_numberHere_47 : decode cX12_numberHere 47 = .ok (.iload_n 1, 1) := by decide +kernel
theorem dX12_numberHere_48 : decode cX12_numberHere 48 = .ok (.ifCond .lt 24, 3) := by decide +kernel
theorem dX12_numberHere_51 : decode cX12_numberHere 51 = .ok (.bipush 10, 2) := by decide +kernel
theorem dX12_numberHere_53 : decode cX12_numberHere 53 = .ok (.iload_n 1, 1) := by decide +kernel
theorem dX12_numberHere_54 : decode cX12_numberHere 54 = .ok (.imul, 1) := by decide +kernel
theorem dX12_numberHere_55 : decode cX12_numberHere 55 = .ok (.aload_n 0, 1) := by decide +kernel
theorem dX12_numberHere_56 : decode cX12_numberHere 56 = .ok (.getfield 19, 3) := by decide +kernel
theorem dX12_numberHere_59 : decode cX12_numberHere 59 = .ok (.iload_n 2, 1) := by decide +kernel
theorem dX12_numberHere_60 : decode cX12_numberHere 60 = .ok (.iaload, 1) := by decide +kernel
theorem dX12_numberHere_61 : decode cX12_numberHere 61 = .ok (.iadd, 1) := by decide +kernel
theorem dX12_numberHere_62 : decode cX12_numberHere 62 = .ok (.bipush 48, 2) := by decide +kernel
theorem dX12_numberHere_64 : decode cX12_numberHere 64 = .ok (.isub, 1) := by decide +kernel
theorem dX12_numberHere_65 : decode cX12_numberHere 65 = .ok (.istore_n 1, 1) := by decide +kernel
theorem dX12_numberHere_66 : decode cX12_numberHere 66 = .ok (.iinc 2 1, 3) := by decide +kernel
theorem dX12_numberHere_69 : decode cX12_numberHere 69 = .ok (.goto (-30), 3) := by decide +kernel
theorem dX12_numberHere_72 : decode cX12_numberHere 72 = .ok (.iload_n 1, 1) := by decide +kernel
theorem dX12_numberHere_73 : decode cX12_numberHere 73 = .ok (.ireturn, 1) := by decide +kernel
theorem dX12_number_0 : decode cX12_number 0 = .ok (.aload_n 0, 1) := by decide +kernel
theorem dX12_number_1 : decode cX12_number 1 = .ok (.invokevirtual 172, 3) := by decide +kernel
theorem dX12_number_4 : decode cX12_number 4 = .ok (.istore_n 2, 1) := by decide +kernel
theorem dX12_number_5 : decode cX12_number 5 = .ok (.aload_n 0, 1) := by decide +kernel
theorem dX12_number_6 : decode cX12_number 6 = .ok (.aload_n 0, 1) := by decide +kernel
theorem dX12_number_7 : decode cX12_number 7 = .ok (.getfield 152, 3) := by decide +kernel
theorem dX12_number_10 : decode cX12_number 10 = .ok (.ifCond .ne 14, 3) := by decide +kernel
theorem dX12_number_13 : decode cX12_number 13 = .ok (.iload_n 2, 1) := by decide +kernel
theorem dX12_number_14 : decode cX12_number 14 = .ok (.i2l, 1) := by decide +kernel
theorem dX12_number_15 : decode cX12_number 15 = .ok (.lconst 0, 1) := by decide +kernel
theorem dX12_number_16 : decode cX12_number 16 = .ok (.iload_n 1, 1) := by decide +kernel
theorem dX12_number_17 : decode cX12_number 17 = .ok (.i2l, 1) := by decide +kernel
theorem dX12_number_18 : decode cX12_number 18 = .ok (.invokestatic 58, 3) := by decide +kernel
theorem dX12_number_21 : decode cX12_number 21 = .ok (.ifCond .ne 7, 3) := by decide +kernel
theorem dX12_number_24 : decode cX12_number 24 = .ok (.iconst 1, 1) := by decide +kernel
theorem dX12_number_25 : decode cX12_number 25 = .ok (.goto 4, 3) := by decide +kernel
theorem dX12_number_28 : decode cX12_number 28 = .ok (.iconst 0, 1) := by decide +kernel
theorem dX12_number_29 : decode cX12_number 29 = .ok (.putfield 152, 3) := by decide +kernel
theorem dX12_number_32 : decode cX12_number 32 = .ok (.aload_n 0, 1) := by decide +kernel
theorem dX12_number_33 : decode cX12_number 33 = .ok (.getfield 152, 3) := by decide +kernel
theorem dX12_number_36 : decode cX12_number 36 = .ok (.ifCond .ne 7, 3) := by decide +kernel
theorem dX12_number_39 : decode cX12_number 39 = .ok (.aload_n 0, 1) := by decide +kernel
theorem dX12_number_40 : decode cX12_number 40 = .ok (.invokevirtual 169, 3) := by decide +kernel
theorem dX12_number_43 : decode cX12_number 43 = .ok (.iload_n 2, 1) := by decide +kernel
theorem dX12_number_44 : decode cX12_number 44 = .ok (.ireturn, 1) := by decide +kernel
theorem dX12_puts_0 : decode cX12_puts 0 = .ok (.aload_n 0, 1) := by decide +kernel
theorem dX12_puts_1 : decode cX12_puts 1 = .ok (.getfield 152, 3) := by decide +kernel
theorem dX12_puts_4 : decode cX12_puts 4 = .ok (.ifCond .ne 26, 3) := by decide +kernel
theorem dX12_puts_7 : decode cX12_puts 7 = .ok (.aload_n 0, 1) := by decide +kernel
theorem dX12_puts_8 : decode cX12_puts 8 = .ok (.getfield 22, 3) := by decide +kernel
theorem dX12_puts_11 : decode cX12_puts 11 = .ok (.bipush 95, 2) := by decide +kernel
theorem dX12_puts_13 : decode cX12_puts 13 = .ok (.aload_n 0, 1) := by decide +kernel
theorem dX12_puts_14 : decode cX12_puts 14 = .ok (.getfield 175, 3) := by decide +kernel
theorem dX12_puts_17 : decode cX12_puts 17 = .ok (.iadd, 1) := by decide +kernel
theorem dX12_puts_18 : decode cX12_puts 18 = .ok (.iload_n 1, 1) := by decide +kernel
theorem dX12_puts_19 : decode cX12_puts 19 = .ok (.iastore, 1) := by decide +kernel
theorem dX12_puts_20 : decode cX12_puts 20 = .ok (.aload_n 0, 1) := by decide +kernel
theorem dX12_puts_21 : decode cX12_puts 21 = .ok (.dup, 1) := by decide +kernel
theorem dX12_puts_22 : decode cX12_puts 22 = .ok (.getfield 175, 3) := by decide +kernel
theorem dX12_puts_25 : decode cX12_puts 25 = .ok (.iconst 1, 1) := by decide +kernel
theorem dX12_puts_26 : decode cX12_puts 26 = .ok (.iadd, 1) := by decide +kernel
theorem dX12_puts_27 : decode cX12_puts 27 = .ok (.putfield 175, 3) := by decide +kernel
theorem dX12_puts_30 : decode cX12_puts 30 = .ok (.return_, 1) := by decide +kernel
theorem dX12_factHere_0 : decode cX12_factHere 0 = .ok (.aload_n 0, 1) := by decide +kernel
theorem dX12_factHere_1 : decode cX12_factHere 1 = .ok (.ldc 178, 2) := by decide +kernel
theorem dX12_factHere_3 : decode cX12_factHere 3 = .ok (.invokevirtual 165, 3) := by decide +kernel
theorem dX12_factHere_6 : decode cX12_factHere 6 = .ok (.ifCond .eq 7, 3) := by decide +kernel
theorem dX12_factHere_9 : decode cX12_factHere 9 = .ok (.iconst 0, 1) := by decide +kernel
theorem dX12_factHere_10 : decode cX12_factHere 10 = .ok (.goto 30, 3) := by decide +kernel
theorem dX12_factHere_13 : decode cX12_factHere 13 = .ok (.aload_n 0, 1) := by decide +kernel
theorem dX12_factHere_14 : decode cX12_factHere 14 = .ok (.ldc 180, 2) := by decide +kernel
theorem dX12_factHere_16 : decode cX12_factHere 16 = .ok (.invokevirtual 165, 3) := by decide +kernel
theorem dX12_factHere_19 : decode cX12_factHere 19 = .ok (.ifCond .eq 7, 3) := by decide +kernel
theorem dX12_factHere_22 : decode cX12_factHere 22 = .ok (.iconst 1, 1) := by decide +kernel
theorem dX12_factHere_23 : decode cX12_factHere 23 = .ok (.goto 17, 3) := by decide +kernel
theorem dX12_factHere_26 : decode cX12_factHere 26 = .ok (.aload_n 0, 1) := by decide +kernel
theorem dX12_factHere_27 : decode cX12_factHere 27 = .ok (.ldc 182, 2) := by decide +kernel
theorem dX12_factHere_29 : decode cX12_factHere 29 = .ok (.invokevirtual 165, 3) := by decide +kernel
theorem dX12_factHere_32 : decode cX12_factHere 32 = .ok (.ifCond .eq 7, 3) := by decide +kernel
theorem dX12_factHere_35 : decode cX12_factHere 35 = .ok (.iconst 2, 1) := by decide +kernel
theorem dX12_factHere_36 : decode cX12_factHere 36 = .ok (.goto 4, 3) := by decide +kernel
theorem dX12_factHere_39 : decode cX12_factHere 39 = .ok (.iconst (-1), 1) := by decide +kernel
theorem dX12_factHere_40 : decode cX12_factHere 40 = .ok (.istore_n 1, 1) := by decide +kernel
theorem dX12_factHere_41 : decode cX12_factHere 41 = .ok (.iload_n 1, 1) := by decide +kernel
theorem dX12_factHere_42 : decode cX12_factHere 42 = .ok (.ifCond .lt 7, 3) := by decide +kernel
theorem dX12_factHere_45 : decode cX12_factHere 45 = .ok (.iload_n 1, 1) := by decide +kernel
theorem dX12_factHere_46 : decode cX12_factHere 46 = .ok (.goto 30, 3) := by decide +kernel
theorem dX12_factHere_49 : decode cX12_factHere 49 = .ok (.aload_n 0, 1) := by decide +kernel
theorem dX12_factHere_50 : decode cX12_factHere 50 = .ok (.ldc 184, 2) := by decide +kernel
theorem dX12_factHere_52 : decode cX12_factHere 52 = .ok (.invokevirtual 165, 3) := by decide +kernel
theorem dX12_factHere_55 : decode cX12_factHere 55 = .ok (.ifCond .eq 7, 3) := by decide +kernel
theorem dX12_factHere_58 : decode cX12_factHere 58 = .ok (.iconst 3, 1) := by decide +kernel
theorem dX12_factHere_59 : decode cX12_factHere 59 = .ok (.goto 17, 3) := by decide +kernel
theorem dX12_factHere_62 : decode cX12_factHere 62 = .ok (.aload_n 0, 1) := by decide +kernel
theorem dX12_factHere_63 : decode cX12_factHere 63 = .ok (.ldc 185, 2) := by decide +kernel
theorem dX12_factHere_65 : decode cX12_factHere 65 = .ok (.invokevirtual 165, 3) := by decide +kernel
theorem dX12_factHere_68 : decode cX12_factHere 68 = .ok (.ifCond .eq 7, 3) := by decide +kernel
theorem dX12_factHere_71 : decode cX12_factHere 71 = .ok (.iconst 4, 1) := by decide +kernel
theorem dX12_factHere_72 : decode cX12_factHere 72 = .ok (.goto 4, 3) := by decide +kernel
theorem dX12_factHere_75 : decode cX12_factHere 75 = .ok (.iconst (-1), 1) := by decide +kernel
theorem dX12_factHere_76 : decode cX12_factHere 76 = .ok (.ireturn, 1) := by decide +kernel
theorem dX12_value_0 : decode cX12_value 0 = .ok (.aload_n 0, 1) := by decide +kernel
theorem dX12_value_1 : decode cX12_value 1 = .ok (.invokevirtual 187, 3) := by decide +kernel
theorem dX12_value_4 : decode cX12_value 4 = .ok (.istore_n 1, 1) := by decide +kernel
theorem dX12_value_5 : decode cX12_value 5 = .ok (.iload_n 1, 1) := by decide +kernel
theorem dX12_value_6 : decode cX12_value 6 = .ok (.ifCond .lt 17, 3) := by decide +kernel
theorem dX12_value_9 : decode cX12_value 9 = .ok (.aload_n 0, 1) := by decide +kernel
theorem dX12_value_10 : decode cX12_value 10 = .ok (.invokevirtual 169, 3) := by decide +kernel
theorem dX12_value_13 : decode cX12_value 13 = .ok (.aload_n 0, 1) := by decide +kernel
theorem dX12_value_14 : decode cX12_value 14 = .ok (.iconst (-1), 1) := by decide +kernel
theorem dX12_value_15 : decode cX12_value 15 = .ok (.iload_n 1, 1) := by decide +kernel
theorem dX12_value_16 : decode cX12_value 16 = .ok (.isub, 1) := by decide +kernel
theorem dX12_value_17 : decode cX12_value 17 = .ok (.invokevirtual 190, 3) := by decide +kernel
theorem dX12_value_20 : decode cX12_value 20 = .ok (.goto 14, 3) := by decide +kernel
theorem dX12_value_23 : decode cX12_value 23 = .ok (.aload_n 0, 1) := by decide +kernel
theorem dX12_value_24 : decode cX12_value 24 = .ok (.aload_n 0, 1) := by decide +kernel
theorem dX12_value_25 : decode cX12_value 25 = .ok (.sipush 9999, 3) := by decide +kernel
theorem dX12_value_28 : decode cX12_value 28 = .ok (.invokevirtual 194, 3) := by decide +kernel
theorem dX12_value_31 : decode cX12_value 31 = .ok (.invokevirtual 190, 3) := by decide +kernel
theorem dX12_value_34 : decode cX12_value 34 = .ok (.return_, 1) := by decide +kernel
theorem dX12_test_0 : decode cX12_test 0 = .ok (.aload_n 0, 1) := by decide +kernel
theorem dX12_test_1 : decode cX12_test 1 = .ok (.invokevirtual 196, 3) := by decide +kernel
theorem dX12_test_4 : decode cX12_test 4 = .ok (.aload_n 0, 1) := by decide +kernel
theorem dX12_test_5 : decode cX12_test 5 = .ok (.ldc 199, 2) := by decide +kernel
theorem dX12_test_7 : decode cX12_test 7 = .ok (.invokevirtual 165, 3) := by decide +kernel
theorem dX12_test_10 : decode cX12_test 10 = .ok (.ifCond .eq 8, 3) := by decide +kernel
theorem dX12_test_13 : decode cX12_test 13 = .ok (.bipush (-11), 2) := by decide +kernel
theorem dX12_test_15 : decode cX12_test 15 = .ok (.goto 19, 3) := by decide +kernel
theorem dX12_test_18 : decode cX12_test 18 = .ok (.aload_n 0, 1) := by decide +kernel
theorem dX12_test_19 : decode cX12_test 19 = .ok (.ldc 201, 2) := by decide +kernel
theorem dX12_test_21 : decode cX12_test 21 = .ok (.invokevirtual 165, 3) := by decide +kernel
theorem dX12_test_24 : decode cX12_test 24 = .ok (.ifCond .eq 8, 3) := by decide +kernel
theorem dX12_test_27 : decode cX12_test 27 = .ok (.bipush (-12), 2) := by decide +kernel
theorem dX12_test_29 : decode cX12_test 29 = .ok (.goto 5, 3) := by decide +kernel
theorem dX12_test_32 : decode cX12_test 32 = .ok (.bipush (-13), 2) := by decide +kernel
theorem dX12_test_34 : decode cX12_test 34 = .ok (.istore_n 1, 1) := by decide +kernel
theorem dX12_test_35 : decode cX12_test 35 = .ok (.aload_n 0, 1) := by decide +kernel
theorem dX12_test_36 : decode cX12_test 36 = .ok (.aload_n 0, 1) := by decide +kernel
theorem dX12_test_37 : decode cX12_test 37 = .ok (.getfield 152, 3) := by decide +kernel
theorem dX12_test_40 : decode cX12_test 40 = .ok (.ifCond .ne 18, 3) := by decide +kernel
theorem dX12_test_43 : decode cX12_test 43 = .ok (.iload_n 1, 1) := by decide +kernel
theorem dX12_test_44 : decode cX12_test 44 = .ok (.bipush (-13), 2) := by decide +kernel
theorem dX12_test_46 : decode cX12_test 46 = .ok (.if_icmp .ne 16, 3) := by decide +kernel
theorem dX12_test_49 : decode cX12_test 49 = .ok (.aload_n 0, 1) := by decide +kernel
theorem dX12_test_50 : decode cX12_test 50 = .ok (.ldc 203, 2) := by decide +kernel
theorem dX12_test_52 : decode cX12_test 52 = .ok (.invokevirtual 165, 3) := by decide +kernel
theorem dX12_test_55 : decode cX12_test 55 = .ok (.ifCond .ne 7, 3) := by decide +kernel
theorem dX12_test_58 : decode cX12_test 58 = .ok (.iconst 1, 1) := by decide +kernel
theorem dX12_test_59 : decode cX12_test 59 = .ok (.goto 4, 3) := by decide +kernel
theorem dX12_test_62 : decode cX12_test 62 = .ok (.iconst 0, 1) := by decide +kernel
theorem dX12_test_63 : decode cX12_test 63 = .ok (.putfield 152, 3) := by decide +kernel
theorem dX12_test_66 : decode cX12_test 66 = .ok (.aload_n 0, 1) := by decide +kernel
theorem dX12_test_67 : decode cX12_test 67 = .ok (.getfield 152, 3) := by decide +kernel
theorem dX12_test_70 : decode cX12_test 70 = .ok (.ifCond .ne 7, 3) := by decide +kernel
theorem dX12_test_73 : decode cX12_test 73 = .ok (.aload_n 0, 1) := by decide +kernel
theorem dX12_test_74 : decode cX12_test 74 = .ok (.invokevirtual 169, 3) := by decide +kernel
theorem dX12_test_77 : decode cX12_test 77 = .ok (.aload_n 0, 1) := by decide +kernel
theorem dX12_test_78 : decode cX12_test 78 = .ok (.invokevirtual 196, 3) := by decide +kernel
theorem dX12_test_81 : decode cX12_test 81 = .ok (.aload_n 0, 1) := by decide +kernel
theorem dX12_test_82 : decode cX12_test 82 = .ok (.iload_n 1, 1) := by decide +kernel
theorem dX12_test_83 : decode cX12_test 83 = .ok (.invokevirtual 190, 3) := by decide +kernel
theorem dX12_test_86 : decode cX12_test 86 = .ok (.return_, 1) := by decide +kernel
theorem dX12_within_0 : decode cX12_within 0 = .ok (.aload_n 0, 1) := by decide +kernel
theorem dX12_within_1 : decode cX12_within 1 = .ok (.aload_n 0, 1) := by decide +kernel
theorem dX12_within_2 : decode cX12_within 2 = .ok (.getfield 152, 3) := by decide +kernel
theorem dX12_within_5 : decode cX12_within 5 = .ok (.ifCond .ne 11, 3) := by decide +kernel
theorem dX12_within_8 : decode cX12_within 8 = .ok (.aload_n 0, 1) := by decide +kernel
theorem dX12_within_9 : decode cX12_within 9 = .ok (.getfield 205, 3) := by decide +kernel
theorem dX12_within_12 : decode cX12_within 12 = .ok (.iconst 3, 1) := by decide +kernel
theorem dX12_within_13 : decode cX12_within 13 = .ok (.if_icmp .ne 7, 3) := by decide +kernel
theorem dX12_within_16 : decode cX12_within 16 = .ok (.iconst 1, 1) := by decide +kernel
theorem dX12_within_17 : decode cX12_within 17 = .ok (.goto 4, 3) := by decide +kernel
theorem dX12_within_20 : decode cX12_within 20 = .ok (.iconst 0, 1) := by decide +kernel
theorem dX12_within_21 : decode cX12_within 21 = .ok (.putfield 152, 3) := by decide +kernel
theorem dX12_within_24 : decode cX12_within 24 = .ok (.aload_n 0, 1) := by decide +kernel
theorem dX12_within_25 : decode cX12_within 25 = .ok (.getfield 152, 3) := by decide +kernel
theorem dX12_within_28 : decode cX12_within 28 = .ok (.ifCond .ne 7, 3) := by decide +kernel
theorem dX12_within_31 : decode cX12_within 31 = .ok (.aload_n 0, 1) := by decide +kernel
theorem dX12_within_32 : decode cX12_within 32 = .ok (.invokevirtual 169, 3) := by decide +kernel
theorem dX12_within_35 : decode cX12_within 35 = .ok (.aload_n 0, 1) := by decide +kernel
theorem dX12_within_36 : decode cX12_within 36 = .ok (.dup, 1) := by decide +kernel
theorem dX12_within_37 : decode cX12_within 37 = .ok (.getfield 205, 3) := by decide +kernel
theorem dX12_within_40 : decode cX12_within 40 = .ok (.iconst 1, 1) := by decide +kernel
theorem dX12_within_41 : decode cX12_within 41 = .ok (.iadd, 1) := by decide +kernel
theorem dX12_within_42 : decode cX12_within 42 = .ok (.putfield 205, 3) := by decide +kernel
theorem dX12_within_45 : decode cX12_within 45 = .ok (.aload_n 0, 1) := by decide +kernel
theorem dX12_within_46 : decode cX12_within 46 = .ok (.invokevirtual 208, 3) := by decide +kernel
theorem dX12_within_49 : decode cX12_within 49 = .ok (.aload_n 0, 1) := by decide +kernel
theorem dX12_within_50 : decode cX12_within 50 = .ok (.dup, 1) := by decide +kernel
theorem dX12_within_51 : decode cX12_within 51 = .ok (.getfield 205, 3) := by decide +kernel
theorem dX12_within_54 : decode cX12_within 54 = .ok (.iconst 1, 1) := by decide +kernel
theorem dX12_within_55 : decode cX12_within 55 = .ok (.isub, 1) := by decide +kernel
theorem dX12_within_56 : decode cX12_within 56 = .ok (.putfield 205, 3) := by decide +kernel
theorem dX12_within_59 : decode cX12_within 59 = .ok (.aload_n 0, 1) := by decide +kernel
theorem dX12_within_60 : decode cX12_within 60 = .ok (.ldc 211, 2) := by decide +kernel
theorem dX12_within_62 : decode cX12_within 62 = .ok (.invokevirtual 213, 3) := by decide +kernel
theorem dX12_within_65 : decode cX12_within 65 = .ok (.return_, 1) := by decide +kernel
theorem dX12_one_0 : decode cX12_one 0 = .ok (.iconst 0, 1) := by decide +kernel
theorem dX12_one_1 : decode cX12_one 1 = .ok (.istore_n 1, 1) := by decide +kernel
theorem dX12_one_2 : decode cX12_one 2 = .ok (.aload_n 0, 1) := by decide +kernel
theorem dX12_one_3 : decode cX12_one 3 = .ok (.ldc 217, 2) := by decide +kernel
theorem dX12_one_5 : decode cX12_one 5 = .ok (.invokevirtual 219, 3) := by decide +kernel
theorem dX12_one_8 : decode cX12_one 8 = .ok (.ifCond .eq 9, 3) := by decide +kernel
theorem dX12_one_11 : decode cX12_one 11 = .ok (.iinc 1 1, 3) := by decide +kernel
theorem dX12_one_14 : decode cX12_one 14 = .ok (.goto (-12), 3) := by decide +kernel
theorem dX12_one_17 : decode cX12_one 17 = .ok (.aload_n 0, 1) := by decide +kernel
theorem dX12_one_18 : decode cX12_one 18 = .ok (.ldc 222, 2) := by decide +kernel
theorem dX12_one_20 : decode cX12_one 20 = .ok (.invokevirtual 165, 3) := by decide +kernel
theorem dX12_one_23 : decode cX12_one 23 = .ok (.ifCond .eq 10, 3) := by decide +kernel
theorem dX12_one_26 : decode cX12_one 26 = .ok (.aload_n 0, 1) := by decide +kernel
theorem dX12_one_27 : decode cX12_one 27 = .ok (.invokevirtual 224, 3) := by decide +kernel
theorem dX12_one_30 : decode cX12_one 30 = .ok (.goto 7, 3) := by decide +kernel
theorem dX12_one_33 : decode cX12_one 33 = .ok (.aload_n 0, 1) := by decide +kernel
theorem dX12_one_34 : decode cX12_one 34 = .ok (.invokevirtual 227, 3) := by decide +kernel
theorem dX12_one_37 : decode cX12_one 37 = .ok (.iload_n 1, 1) := by decide +kernel
theorem dX12_one_38 : decode cX12_one 38 = .ok (.iconst 2, 1) := by decide +kernel
theorem dX12_one_39 : decode cX12_one 39 = .ok (.irem, 1) := by decide +kernel
theorem dX12_one_40 : decode cX12_one 40 = .ok (.iconst 1, 1) := by decide +kernel
theorem dX12_one_41 : decode cX12_one 41 = .ok (.if_icmp .ne 9, 3) := by decide +kernel
theorem dX12_one_44 : decode cX12_one 44 = .ok (.aload_n 0, 1) := by decide +kernel
theorem dX12_one_45 : decode cX12_one 45 = .ok (.bipush (-14), 2) := by decide +kernel
theorem dX12_one_47 : decode cX12_one 47 = .ok (.invokevirtual 190, 3) := by decide +kernel
theorem dX12_one_50 : decode cX12_one 50 = .ok (.return_, 1) := by decide +kernel
theorem dX12_all_0 : decode cX12_all 0 = .ok (.aload_n 0, 1) := by decide +kernel
theorem dX12_all_1 : decode cX12_all 1 = .ok (.invokevirtual 230, 3) := by decide +kernel
theorem dX12_all_4 : decode cX12_all 4 = .ok (.aload_n 0, 1) := by decide +kernel
theorem dX12_all_5 : decode cX12_all 5 = .ok (.ldc 233, 2) := by decide +kernel
theorem dX12_all_7 : decode cX12_all 7 = .ok (.invokevirtual 219, 3) := by decide +kernel
theorem dX12_all_10 : decode cX12_all 10 = .ok (.ifCond .eq 16, 3) := by decide +kernel
theorem dX12_all_13 : decode cX12_all 13 = .ok (.aload_n 0, 1) := by decide +kernel
theorem dX12_all_14 : decode cX12_all 14 = .ok (.invokevirtual 230, 3) := by decide +kernel
theorem dX12_all_17 : decode cX12_all 17 = .ok (.aload_n 0, 1) := by decide +kernel
theorem dX12_all_18 : decode cX12_all 18 = .ok (.bipush (-15), 2) := by decide +kernel
theorem dX12_all_20 : decode cX12_all 20 = .ok (.invokevirtual 190, 3) := by decide +kernel
theorem dX12_all_23 : decode cX12_all 23 = .ok (.goto (-19), 3) := by decide +kernel
theorem dX12_all_26 : decode cX12_all 26 = .ok (.return_, 1) := by decide +kernel
theorem dX12_any_0 : decode cX12_any 0 = .ok (.aload_n 0, 1) := by decide +kernel
theorem dX12_any_1 : decode cX12_any 1 = .ok (.invokevirtual 235, 3) := by decide +kernel
theorem dX12_any_4 : decode cX12_any 4 = .ok (.aload_n 0, 1) := by decide +kernel
theorem dX12_any_5 : decode cX12_any 5 = .ok (.ldc 238, 2) := by decide +kernel
theorem dX12_any_7 : decode cX12_any 7 = .ok (.invokevirtual 219, 3) := by decide +kernel
theorem dX12_any_10 : decode cX12_any 10 = .ok (.ifCond .eq 16, 3) := by decide +kernel
theorem dX12_any_13 : decode cX12_any 13 = .ok (.aload_n 0, 1) := by decide +kernel
theorem dX12_any_14 : decode cX12_any 14 = .ok (.invokevirtual 235, 3) := by decide +kernel
theorem dX12_any_17 : decode cX12_any 17 = .ok (.aload_n 0, 1) := by decide +kernel
theorem dX12_any_18 : decode cX12_any 18 = .ok (.bipush (-16), 2) := by decide +kernel
theorem dX12_any_20 : decode cX12_any 20 = .ok (.invokevirtual 190, 3) := by decide +kernel
theorem dX12_any_23 : decode cX12_any 23 = .ok (.goto (-19), 3) := by decide +kernel
theorem dX12_any_26 : decode cX12_any 26 = .ok (.return_, 1) := by decide +kernel
theorem dX12_kindHere_0 : decode cX12_kindHere 0 = .ok (.aload_n 0, 1) := by decide +kernel
theorem dX12_kindHere_1 : decode cX12_kindHere 1 = .ok (.ldc 240, 2) := by decide +kernel
theorem dX12_kindHere_3 : decode cX12_kindHere 3 = .ok (.invokevirtual 165, 3) := by decide +kernel
theorem dX12_kindHere_6 : decode cX12_kindHere 6 = .ok (.ifCond .eq 7, 3) := by decide +kernel
theorem dX12_kindHere_9 : decode cX12_kindHere 9 = .ok (.iconst 0, 1) := by decide +kernel
theorem dX12_kindHere_10 : decode cX12_kindHere 10 = .ok (.goto 30, 3) := by decide +kernel
theorem dX12_kindHere_13 : decode cX12_kindHere 13 = .ok (.aload_n 0, 1) := by decide +kernel
theorem dX12_kindHere_14 : decode cX12_kindHere 14 = .ok (.ldc 242, 2) := by decide +kernel
theorem dX12_kindHere_16 : decode cX12_kindHere 16 = .ok (.invokevirtual 165, 3) := by decide +kernel
theorem dX12_kindHere_19 : decode cX12_kindHere 19 = .ok (.ifCond .eq 7, 3) := by decide +kernel
theorem dX12_kindHere_22 : decode cX12_kindHere 22 = .ok (.iconst 1, 1) := by decide +kernel
theorem dX12_kindHere_23 : decode cX12_kindHere 23 = .ok (.goto 17, 3) := by decide +kernel
theorem dX12_kindHere_26 : decode cX12_kindHere 26 = .ok (.aload_n 0, 1) := by decide +kernel
theorem dX12_kindHere_27 : decode cX12_kindHere 27 = .ok (.ldc 244, 2) := by decide +kernel
theorem dX12_kindHere_29 : decode cX12_kindHere 29 = .ok (.invokevirtual 165, 3) := by decide +kernel
theorem dX12_kindHere_32 : decode cX12_kindHere 32 = .ok (.ifCond .eq 7, 3) := by decide +kernel
theorem dX12_kindHere_35 : decode cX12_kindHere 35 = .ok (.iconst 2, 1) := by decide +kernel
theorem dX12_kindHere_36 : decode cX12_kindHere 36 = .ok (.goto 4, 3) := by decide +kernel
theorem dX12_kindHere_39 : decode cX12_kindHere 39 = .ok (.iconst (-1), 1) := by decide +kernel
theorem dX12_kindHere_40 : decode cX12_kindHere 40 = .ok (.istore_n 1, 1) := by decide +kernel
theorem dX12_kindHere_41 : decode cX12_kindHere 41 = .ok (.iload_n 1, 1) := by decide +kernel
theorem dX12_kindHere_42 : decode cX12_kindHere 42 = .ok (.ifCond .lt 7, 3) := by decide +kernel
theorem dX12_kindHere_45 : decode cX12_kindHere 45 = .ok (.iload_n 1, 1) := by decide +kernel
theorem dX12_kindHere_46 : decode cX12_kindHere 46 = .ok (.goto 43, 3) := by decide +kernel
theorem dX12_kindHere_49 : decode cX12_kindHere 49 = .ok (.aload_n 0, 1) := by decide +kernel
theorem dX12_kindHere_50 : decode cX12_kindHere 50 = .ok (.ldc 246, 2) := by decide +kernel
theorem dX12_kindHere_52 : decode cX12_kindHere 52 = .ok (.invokevirtual 165, 3) := by decide +kernel
theorem dX12_kindHere_55 : decode cX12_kindHere 55 = .ok (.ifCond .eq 7, 3) := by decide +kernel
theorem dX12_kindHere_58 : decode cX12_kindHere 58 = .ok (.iconst 3, 1) := by decide +kernel
theorem dX12_kindHere_59 : decode cX12_kindHere 59 = .ok (.goto 30, 3) := by decide +kernel
theorem dX12_kindHere_62 : decode cX12_kindHere 62 = .ok (.aload_n 0, 1) := by decide +kernel
theorem dX12_kindHere_63 : decode cX12_kindHere 63 = .ok (.ldc 248, 2) := by decide +kernel
theorem dX12_kindHere_65 : decode cX12_kindHere 65 = .ok (.invokevirtual 165, 3) := by decide +kernel
theorem dX12_kindHere_68 : decode cX12_kindHere 68 = .ok (.ifCond .eq 7, 3) := by decide +kernel
theorem dX12_kindHere_71 : decode cX12_kindHere 71 = .ok (.iconst 4, 1) := by decide +kernel
theorem dX12_kindHere_72 : decode cX12_kindHere 72 = .ok (.goto 17, 3) := by decide +kernel
theorem dX12_kindHere_75 : decode cX12_kindHere 75 = .ok (.aload_n 0, 1) := by decide +kernel
theorem dX12_kindHere_76 : decode cX12_kindHere 76 = .ok (.ldc 250, 2) := by decide +kernel
theorem dX12_kindHere_78 : decode cX12_kindHere 78 = .ok (.invokevirtual 165, 3) := by decide +kernel
theorem dX12_kindHere_81 : decode cX12_kindHere 81 = .ok (.ifCond .eq 7, 3) := by decide +kernel
theorem dX12_kindHere_84 : decode cX12_kindHere 84 = .ok (.iconst 5, 1) := by decide +kernel
theorem dX12_kindHere_85 : decode cX12_kindHere 85 = .ok (.goto 4, 3) := by decide +kernel
theorem dX12_kindHere_88 : decode cX12_kindHere 88 = .ok (.iconst (-1), 1) := by decide +kernel
theorem dX12_kindHere_89 : decode cX12_kindHere 89 = .ok (.ireturn, 1) := by decide +kernel
theorem dX12_rule_0 : decode cX12_rule 0 = .ok (.aload_n 0, 1) := by decide +kernel
theorem dX12_rule_1 : decode cX12_rule 1 = .ok (.invokevirtual 252, 3) := by decide +kernel
theorem dX12_rule_4 : decode cX12_rule 4 = .ok (.istore_n 1, 1) := by decide +kernel
theorem dX12_rule_5 : decode cX12_rule 5 = .ok (.aload_n 0, 1) := by decide +kernel
theorem dX12_rule_6 : decode cX12_rule 6 = .ok (.iload_n 1, 1) := by decide +kernel
theorem dX12_rule_7 : decode cX12_rule 7 = .ok (.ifCond .lt 15, 3) := by decide +kernel
theorem dX12_rule_10 : decode cX12_rule 10 = .ok (.aload_n 0, 1) := by decide +kernel
theorem dX12_rule_11 : decode cX12_rule 11 = .ok (.getfield 22, 3) := by decide +kernel
theorem dX12_rule_14 : decode cX12_rule 14 = .ok (.bipush 7, 2) := by decide +kernel
theorem dX12_rule_16 : decode cX12_rule 16 = .ok (.iaload, 1) := by decide +kernel
theorem dX12_rule_17 : decode cX12_rule 17 = .ok (.bipush 8, 2) := by decide +kernel
theorem dX12_rule_19 : decode cX12_rule 19 = .ok (.if_icmp .ne 7, 3) := by decide +kernel
theorem dX12_rule_22 : decode cX12_rule 22 = .ok (.iconst 1, 1) := by decide +kernel
theorem dX12_rule_23 : decode cX12_rule 23 = .ok (.goto 4, 3) := by decide +kernel
theorem dX12_rule_26 : decode cX12_rule 26 = .ok (.iconst 0, 1) := by decide +kernel
theorem dX12_rule_27 : decode cX12_rule 27 = .ok (.putfield 152, 3) := by decide +kernel
theorem dX12_rule_30 : decode cX12_rule 30 = .ok (.aload_n 0, 1) := by decide +kernel
theorem dX12_rule_31 : decode cX12_rule 31 = .ok (.getfield 152, 3) := by decide +kernel
theorem dX12_rule_34 : decode cX12_rule 34 = .ok (.ifCond .eq 4, 3) := by decide +kernel
theorem dX12_rule_37 : decode cX12_rule 37 = .ok (.return_, 1) := by decide +kernel
theorem dX12_rule_38 : decode cX12_rule 38 = .ok (.aload_n 0, 1) := by decide +kernel
theorem dX12_rule_39 : decode cX12_rule 39 = .ok (.invokevirtual 169, 3) := by decide +kernel
theorem dX12_rule_42 : decode cX12_rule 42 = .ok (.bipush 55, 2) := by decide +kernel
theorem dX12_rule_44 : decode cX12_rule 44 = .ok (.iconst 5, 1) := by decide +kernel
theorem dX12_rule_45 : decode cX12_rule 45 = .ok (.aload_n 0, 1) := by decide +kernel
theorem dX12_rule_46 : decode cX12_rule 46 = .ok (.getfield 22, 3) := by decide +kernel
theorem dX12_rule_49 : decode cX12_rule 49 = .ok (.bipush 7, 2) := by decide +kernel
theorem dX12_rule_51 : decode cX12_rule 51 = .ok (.iaload, 1) := by decide +kernel
theorem dX12_rule_52 : decode cX12_rule 52 = .ok (.imul, 1) := by decide +kernel
theorem dX12_rule_53 : decode cX12_rule 53 = .ok (.iadd, 1) := by decide +kernel
theorem dX12_rule_54 : decode cX12_rule 54 = .ok (.istore_n 2, 1) := by decide +kernel
theorem dX12_rule_55 : decode cX12_rule 55 = .ok (.aload_n 0, 1) := by decide +kernel
theorem dX12_rule_56 : decode cX12_rule 56 = .ok (.getfield 22, 3) := by decide +kernel
theorem dX12_rule_59 : decode cX12_rule 59 = .ok (.iload_n 2, 1) := by decide +kernel
theorem dX12_rule_60 : decode cX12_rule 60 = .ok (.iload_n 1, 1) := by decide +kernel
theorem dX12_rule_61 : decode cX12_rule 61 = .ok (.iastore, 1) := by decide +kernel
theorem dX12_rule_62 : decode cX12_rule 62 = .ok (.aload_n 0, 1) := by decide +kernel
theorem dX12_rule_63 : decode cX12_rule 63 = .ok (.getfield 22, 3) := by decide +kernel
theorem dX12_rule_66 : decode cX12_rule 66 = .ok (.iload_n 2, 1) := by decide +kernel
theorem dX12_rule_67 : decode cX12_rule 67 = .ok (.iconst 3, 1) := by decide +kernel
theorem dX12_rule_68 : decode cX12_rule 68 = .ok (.iadd, 1) := by decide +kernel
theorem dX12_rule_69 : decode cX12_rule 69 = .ok (.aload_n 0, 1) := by decide +kernel
theorem dX12_rule_70 : decode cX12_rule 70 = .ok (.getfield 175, 3) := by decide +kernel
theorem dX12_rule_73 : decode cX12_rule 73 = .ok (.iastore, 1) := by decide +kernel
theorem dX12_rule_74 : decode cX12_rule 74 = .ok (.aload_n 0, 1) := by decide +kernel
theorem dX12_rule_75 : decode cX12_rule 75 = .ok (.ldc 255, 2) := by decide +kernel
theorem dX12_rule_77 : decode cX12_rule 77 = .ok (.invokevirtual 219, 3) := by decide +kernel
theorem dX12_rule_80 : decode cX12_rule 80 = .ok (.ifCond .eq 7, 3) := by decide +kernel
theorem dX12_rule_83 : decode cX12_rule 83 = .ok (.aload_n 0, 1) := by decide +kernel
theorem dX12_rule_84 : decode cX12_rule 84 = .ok (.invokevirtual 208, 3) := by decide +kernel
theorem dX12_rule_87 : decode cX12_rule 87 = .ok (.aload_n 0, 1) := by decide +kernel
theorem dX12_rule_88 : decode cX12_rule 88 = .ok (.getfield 22, 3) := by decide +kernel
theorem dX12_rule_91 : decode cX12_rule 91 = .ok (.iload_n 2, 1) := by decide +kernel
theorem dX12_rule_92 : decode cX12_rule 92 = .ok (.iconst 4, 1) := by decide +kernel
theorem dX12_rule_93 : decode cX12_rule 93 = .ok (.iadd, 1) := by decide +kernel
theorem dX12_rule_94 : decode cX12_rule 94 = .ok (.aload_n 0, 1) := by decide +kernel
theorem dX12_rule_95 : decode cX12_rule 95 = .ok (.getfield 175, 3) := by decide +kernel
theorem dX12_rule_98 : decode cX12_rule 98 = .ok (.iastore, 1) := by decide +kernel
theorem dX12_rule_99 : decode cX12_rule 99 = .ok (.aload_n 0, 1) := by decide +kernel
theorem dX12_rule_100 : decode cX12_rule 100 = .ok (.ldc_w 257, 3) := by decide +kernel
theorem dX12_rule_103 : decode cX12_rule 103 = .ok (.invokevirtual 165, 3) := by decide +kernel
theorem dX12_rule_106 : decode cX12_rule 106 = .ok (.ifCond .eq 7, 3) := by decide +kernel
theorem dX12_rule_109 : decode cX12_rule 109 = .ok (.iconst 0, 1) := by decide +kernel
theorem dX12_rule_110 : decode cX12_rule 110 = .ok (.goto 18, 3) := by decide +kernel
theorem dX12_rule_113 : decode cX12_rule 113 = .ok (.aload_n 0, 1) := by decide +kernel
theorem dX12_rule_114 : decode cX12_rule 114 = .ok (.ldc_w 259, 3) := by decide +kernel
theorem dX12_rule_117 : decode cX12_rule 117 = .ok (.invokevirtual 165, 3) := by decide +kernel
theorem dX12_rule_120 : decode cX12_rule 120 = .ok (.ifCond .eq 7, 3) := by decide +kernel
theorem dX12_rule_123 : decode cX12_rule 123 = .ok (.iconst 1, 1) := by decide +kernel
theorem dX12_rule_124 : decode cX12_rule 124 = .ok (.goto 4, 3) := by decide +kernel
theorem dX12_rule_127 : decode cX12_rule 127 = .ok (.iconst 2, 1) := by decide +kernel
theorem dX12_rule_128 : decode cX12_rule 128 = .ok (.istore_n 3, 1) := by decide +kernel
theorem dX12_rule_129 : decode cX12_rule 129 = .ok (.aload_n 0, 1) := by decide +kernel
theorem dX12_rule_130 : decode cX12_rule 130 = .ok (.iload_n 3, 1) := by decide +kernel
theorem dX12_rule_131 : decode cX12_rule 131 = .ok (.ifCond .ne 9, 3) := by decide +kernel
theorem dX12_rule_134 : decode cX12_rule 134 = .ok (.ldc_w 257, 3) := by decide +kernel
theorem dX12_rule_137 : decode cX12_rule 137 = .ok (.goto 17, 3) := by decide +kernel
theorem dX12_rule_140 : decode cX12_rule 140 = .ok (.iload_n 3, 1) := by decide +kernel
theorem dX12_rule_141 : decode cX12_rule 141 = .ok (.iconst 1, 1) := by decide +kernel
theorem dX12_rule_142 : decode cX12_rule 142 = .ok (.if_icmp .ne 9, 3) := by decide +kernel
theorem dX12_rule_145 : decode cX12_rule 145 = .ok (.ldc_w 259, 3) := by decide +kernel
theorem dX12_rule_148 : decode cX12_rule 148 = .ok (.goto 6, 3) := by decide +kernel
theorem dX12_rule_151 : decode cX12_rule 151 = .ok (.ldc_w 261, 3) := by decide +kernel
theorem dX12_rule_154 : decode cX12_rule 154 = .ok (.invokevirtual 213, 3) := by decide +kernel
theorem dX12_rule_157 : decode cX12_rule 157 = .ok (.aload_n 0, 1) := by decide +kernel
theorem dX12_rule_158 : decode cX12_rule 158 = .ok (.getfield 22, 3) := by decide +kernel
theorem dX12_rule_161 : decode cX12_rule 161 = .ok (.iload_n 2, 1) := by decide +kernel
theorem dX12_rule_162 : decode cX12_rule 162 = .ok (.iconst 1, 1) := by decide +kernel
theorem dX12_rule_163 : decode cX12_rule 163 = .ok (.iadd, 1) := by decide +kernel
theorem dX12_rule_164 : decode cX12_rule 164 = .ok (.iload_n 3, 1) := by decide +kernel
theorem dX12_rule_165 : decode cX12_rule 165 = .ok (.iastore, 1) := by decide +kernel
theorem dX12_rule_166 : decode cX12_rule 166 = .ok (.aload_n 0, 1) := by decide +kernel
theorem dX12_rule_167 : decode cX12_rule 167 = .ok (.getfield 22, 3) := by decide +kernel
theorem dX12_rule_170 : decode cX12_rule 170 = .ok (.iload_n 2, 1) := by decide +kernel
theorem dX12_rule_171 : decode cX12_rule 171 = .ok (.iconst 2, 1) := by decide +kernel
theorem dX12_rule_172 : decode cX12_rule 172 = .ok (.iadd, 1) := by decide +kernel
theorem dX12_rule_173 : decode cX12_rule 173 = .ok (.iload_n 3, 1) := by decide +kernel
theorem dX12_rule_174 : decode cX12_rule 174 = .ok (.iconst 2, 1) := by decide +kernel
theorem dX12_rule_175 : decode cX12_rule 175 = .ok (.if_icmp .ge 12, 3) := by decide +kernel
theorem dX12_rule_178 : decode cX12_rule 178 = .ok (.aload_n 0, 1) := by decide +kernel
theorem dX12_rule_179 : decode cX12_rule 179 = .ok (.bipush 99, 2) := by decide +kernel
theorem dX12_rule_181 : decode cX12_rule 181 = .ok (.invokevirtual 194, 3) := by decide +kernel
theorem dX12_rule_184 : decode cX12_rule 184 = .ok (.goto 4, 3) := by decide +kernel
theorem dX12_rule_187 : decode cX12_rule 187 = .ok (.iconst 0, 1) := by decide +kernel
theorem dX12_rule_188 : decode cX12_rule 188 = .ok (.iastore, 1) := by decide +kernel
theorem dX12_rule_189 : decode cX12_rule 189 = .ok (.aload_n 0, 1) := by decide +kernel
theorem dX12_rule_190 : decode cX12_rule 190 = .ok (.ldc_w 263, 3) := by decide +kernel
theorem dX12_rule_193 : decode cX12_rule 193 = .ok (.invokevirtual 213, 3) := by decide +kernel
theorem dX12_rule_196 : decode cX12_rule 196 = .ok (.aload_n 0, 1) := by decide +kernel
theorem dX12_rule_197 : decode cX12_rule 197 = .ok (.getfield 22, 3) := by decide +kernel
theorem dX12_rule_200 : decode cX12_rule 200 = .ok (.bipush 7, 2) := by decide +kernel
theorem dX12_rule_202 : decode cX12_rule 202 = .ok (.dup2, 1) := by decide +kernel
theorem dX12_rule_203 : decode cX12_rule 203 = .ok (.iaload, 1) := by decide +kernel
theorem dX12_rule_204 : decode cX12_rule 204 = .ok (.iconst 1, 1) := by decide +kernel
theorem dX12_rule_205 : decode cX12_rule 205 = .ok (.iadd, 1) := by decide +kernel
theorem dX12_rule_206 : decode cX12_rule 206 = .ok (.iastore, 1) := by decide +kernel
theorem dX12_rule_207 : decode cX12_rule 207 = .ok (.return_, 1) := by decide +kernel
theorem dX12_rules_0 : decode cX12_rules 0 = .ok (.aload_n 0, 1) := by decide +kernel
theorem dX12_rules_1 : decode cX12_rules 1 = .ok (.iconst 0, 1) := by decide +kernel
theorem dX12_rules_2 : decode cX12_rules 2 = .ok (.putfield 152, 3) := by decide +kernel
theorem dX12_rules_5 : decode cX12_rules 5 = .ok (.aload_n 0, 1) := by decide +kernel
theorem dX12_rules_6 : decode cX12_rules 6 = .ok (.iconst 0, 1) := by decide +kernel
theorem dX12_rules_7 : decode cX12_rules 7 = .ok (.putfield 205, 3) := by decide +kernel
theorem dX12_rules_10 : decode cX12_rules 10 = .ok (.aload_n 0, 1) := by decide +kernel
theorem dX12_rules_11 : decode cX12_rules 11 = .ok (.iconst 0, 1) := by decide +kernel
theorem dX12_rules_12 : decode cX12_rules 12 = .ok (.putfield 175, 3) := by decide +kernel
theorem dX12_rules_15 : decode cX12_rules 15 = .ok (.aload_n 0, 1) := by decide +kernel
theorem dX12_rules_16 : decode cX12_rules 16 = .ok (.iconst 0, 1) := by decide +kernel
theorem dX12_rules_17 : decode cX12_rules 17 = .ok (.putfield 143, 3) := by decide +kernel
theorem dX12_rules_20 : decode cX12_rules 20 = .ok (.aload_n 0, 1) := by decide +kernel
theorem dX12_rules_21 : decode cX12_rules 21 = .ok (.getfield 22, 3) := by decide +kernel
theorem dX12_rules_24 : decode cX12_rules 24 = .ok (.bipush 7, 2) := by decide +kernel
theorem dX12_rules_26 : decode cX12_rules 26 = .ok (.iconst 0, 1) := by decide +kernel
theorem dX12_rules_27 : decode cX12_rules 27 = .ok (.iastore, 1) := by decide +kernel
theorem dX12_rules_28 : decode cX12_rules 28 = .ok (.aload_n 0, 1) := by decide +kernel
theorem dX12_rules_29 : decode cX12_rules 29 = .ok (.invokevirtual 169, 3) := by decide +kernel
theorem dX12_rules_32 : decode cX12_rules 32 = .ok (.aload_n 0, 1) := by decide +kernel
theorem dX12_rules_33 : decode cX12_rules 33 = .ok (.getfield 152, 3) := by decide +kernel
theorem dX12_rules_36 : decode cX12_rules 36 = .ok (.ifCond .ne 21, 3) := by decide +kernel
theorem dX12_rules_39 : decode cX12_rules 39 = .ok (.aload_n 0, 1) := by decide +kernel
theorem dX12_rules_40 : decode cX12_rules 40 = .ok (.getfield 146, 3) := by decide +kernel
theorem dX12_rules_43 : decode cX12_rules 43 = .ok (.aload_n 0, 1) := by decide +kernel
theorem dX12_rules_44 : decode cX12_rules 44 = .ok (.getfield 137, 3) := by decide +kernel
theorem dX12_rules_47 : decode cX12_rules 47 = .ok (.if_icmp .ge 10, 3) := by decide +kernel
theorem dX12_rules_50 : decode cX12_rules 50 = .ok (.aload_n 0, 1) := by decide +kernel
theorem dX12_rules_51 : decode cX12_rules 51 = .ok (.invokevirtual 265, 3) := by decide +kernel
theorem dX12_rules_54 : decode cX12_rules 54 = .ok (.goto (-22), 3) := by decide +kernel
theorem dX12_rules_57 : decode cX12_rules 57 = .ok (.aload_n 0, 1) := by decide +kernel
theorem dX12_rules_58 : decode cX12_rules 58 = .ok (.iconst 0, 1) := by decide +kernel
theorem dX12_rules_59 : decode cX12_rules 59 = .ok (.putfield 137, 3) := by decide +kernel
theorem dX12_rules_62 : decode cX12_rules 62 = .ok (.aload_n 0, 1) := by decide +kernel
theorem dX12_rules_63 : decode cX12_rules 63 = .ok (.getfield 152, 3) := by decide +kernel
theorem dX12_rules_66 : decode cX12_rules 66 = .ok (.ifCond .eq 11, 3) := by decide +kernel
theorem dX12_rules_69 : decode cX12_rules 69 = .ok (.bipush (-100), 2) := by decide +kernel
theorem dX12_rules_71 : decode cX12_rules 71 = .ok (.aload_n 0, 1) := by decide +kernel
theorem dX12_rules_72 : decode cX12_rules 72 = .ok (.getfield 146, 3) := by decide +kernel
theorem dX12_rules_75 : decode cX12_rules 75 = .ok (.isub, 1) := by decide +kernel
theorem dX12_rules_76 : decode cX12_rules 76 = .ok (.ireturn, 1) := by decide +kernel
theorem dX12_rules_77 : decode cX12_rules 77 = .ok (.aload_n 0, 1) := by decide +kernel
theorem dX12_rules_78 : decode cX12_rules 78 = .ok (.getfield 9, 3) := by decide +kernel
theorem dX12_rules_81 : decode cX12_rules 81 = .ok (.bipush 7, 2) := by decide +kernel
theorem dX12_rules_83 : decode cX12_rules 83 = .ok (.aload_n 0, 1) := by decide +kernel
theorem dX12_rules_84 : decode cX12_rules 84 = .ok (.getfield 22, 3) := by decide +kernel
theorem dX12_rules_87 : decode cX12_rules 87 = .ok (.bipush 7, 2) := by decide +kernel
theorem dX12_rules_89 : decode cX12_rules 89 = .ok (.iaload, 1) := by decide +kernel
theorem dX12_rules_90 : decode cX12_rules 90 = .ok (.iastore, 1) := by decide +kernel
theorem dX12_rules_91 : decode cX12_rules 91 = .ok (.bipush 55, 2) := by decide +kernel
theorem dX12_rules_93 : decode cX12_rules 93 = .ok (.istore_n 1, 1) := by decide +kernel
theorem dX12_rules_94 : decode cX12_rules 94 = .ok (.iload_n 1, 1) := by decide +kernel
theorem dX12_rules_95 : decode cX12_rules 95 = .ok (.sipush 295, 3) := by decide +kernel
theorem dX12_rules_98 : decode cX12_rules 98 = .ok (.if_icmp .ge 21, 3) := by decide +kernel
theorem dX12_rules_101 : decode cX12_rules 101 = .ok (.aload_n 0, 1) := by decide +kernel
theorem dX12_rules_102 : decode cX12_rules 102 = .ok (.getfield 9, 3) := by decide +kernel
theorem dX12_rules_105 : decode cX12_rules 105 = .ok (.iload_n 1, 1) := by decide +kernel
theorem dX12_rules_106 : decode cX12_rules 106 = .ok (.aload_n 0, 1) := by decide +kernel
theorem dX12_rules_107 : decode cX12_rules 107 = .ok (.getfield 22, 3) := by decide +kernel
theorem dX12_rules_110 : decode cX12_rules 110 = .ok (.iload_n 1, 1) := by decide +kernel
theorem dX12_rules_111 : decode cX12_rules 111 = .ok (.iaload, 1) := by decide +kernel
theorem dX12_rules_112 : decode cX12_rules 112 = .ok (.iastore, 1) := by decide +kernel
theorem dX12_rules_113 : decode cX12_rules 113 = .ok (.iinc 1 1, 3) := by decide +kernel
theorem dX12_rules_116 : decode cX12_rules 116 = .ok (.goto (-22), 3) := by decide +kernel
theorem dX12_rules_119 : decode cX12_rules 119 = .ok (.aload_n 0, 1) := by decide +kernel
theorem dX12_rules_120 : decode cX12_rules 120 = .ok (.getfield 9, 3) := by decide +kernel
theorem dX12_rules_123 : decode cX12_rules 123 = .ok (.bipush 7, 2) := by decide +kernel
theorem dX12_rules_125 : decode cX12_rules 125 = .ok (.iaload, 1) := by decide +kernel
theorem dX12_rules_126 : decode cX12_rules 126 = .ok (.ireturn, 1) := by decide +kernel
theorem dX12_sumNow_0 : decode cX12_sumNow 0 = .ok (.iconst 0, 1) := by decide +kernel
theorem dX12_sumNow_1 : decode cX12_sumNow 1 = .ok (.istore_n 1, 1) := by decide +kernel
theorem dX12_sumNow_2 : decode cX12_sumNow 2 = .ok (.iconst 0, 1) := by decide +kernel
theorem dX12_sumNow_3 : decode cX12_sumNow 3 = .ok (.istore_n 2, 1) := by decide +kernel
theorem dX12_sumNow_4 : decode cX12_sumNow 4 = .ok (.iload_n 2, 1) := by decide +kernel
theorem dX12_sumNow_5 : decode cX12_sumNow 5 = .ok (.aload_n 0, 1) := by decide +kernel
theorem dX12_sumNow_6 : decode cX12_sumNow 6 = .ok (.getfield 9, 3) := by decide +kernel
theorem dX12_sumNow_9 : decode cX12_sumNow 9 = .ok (.iconst 0, 1) := by decide +kernel
theorem dX12_sumNow_10 : decode cX12_sumNow 10 = .ok (.iaload, 1) := by decide +kernel
theorem dX12_sumNow_11 : decode cX12_sumNow 11 = .ok (.if_icmp .ge 37, 3) := by decide +kernel
theorem dX12_sumNow_14 : decode cX12_sumNow 14 = .ok (.iload_n 1, 1) := by decide +kernel
theorem dX12_sumNow_15 : decode cX12_sumNow 15 = .ok (.aload_n 0, 1) := by decide +kernel
theorem dX12_sumNow_16 : decode cX12_sumNow 16 = .ok (.iload_n 2, 1) := by decide +kernel
theorem dX12_sumNow_17 : decode cX12_sumNow 17 = .ok (.iconst 4, 1) := by decide +kernel
theorem dX12_sumNow_18 : decode cX12_sumNow 18 = .ok (.invokevirtual 85, 3) := by decide +kernel
theorem dX12_sumNow_21 : decode cX12_sumNow 21 = .ok (.iconst 1, 1) := by decide +kernel
theorem dX12_sumNow_22 : decode cX12_sumNow 22 = .ok (.if_icmp .ne 17, 3) := by decide +kernel
theorem dX12_sumNow_25 : decode cX12_sumNow 25 = .ok (.aload_n 0, 1) := by decide +kernel
theorem dX12_sumNow_26 : decode cX12_sumNow 26 = .ok (.iload_n 2, 1) := by decide +kernel
theorem dX12_sumNow_27 : decode cX12_sumNow 27 = .ok (.invokevirtual 123, 3) := by decide +kernel
theorem dX12_sumNow_30 : decode cX12_sumNow 30 = .ok (.aload_n 0, 1) := by decide +kernel
theorem dX12_sumNow_31 : decode cX12_sumNow 31 = .ok (.iload_n 2, 1) := by decide +kernel
theorem dX12_sumNow_32 : decode cX12_sumNow 32 = .ok (.invokevirtual 126, 3) := by decide +kernel
theorem dX12_sumNow_35 : decode cX12_sumNow 35 = .ok (.imul, 1) := by decide +kernel
theorem dX12_sumNow_36 : decode cX12_sumNow 36 = .ok (.goto 4, 3) := by decide +kernel
theorem dX12_sumNow_39 : decode cX12_sumNow 39 = .ok (.iconst 0, 1) := by decide +kernel
theorem dX12_sumNow_40 : decode cX12_sumNow 40 = .ok (.iadd, 1) := by decide +kernel
theorem dX12_sumNow_41 : decode cX12_sumNow 41 = .ok (.istore_n 1, 1) := by decide +kernel
theorem dX12_sumNow_42 : decode cX12_sumNow 42 = .ok (.iinc 2 1, 3) := by decide +kernel
theorem dX12_sumNow_45 : decode cX12_sumNow 45 = .ok (.goto (-41), 3) := by decide +kernel
theorem dX12_sumNow_48 : decode cX12_sumNow 48 = .ok (.iload_n 1, 1) := by decide +kernel
theorem dX12_sumNow_49 : decode cX12_sumNow 49 = .ok (.ireturn, 1) := by decide +kernel
theorem dX12_moveBy_0 : decode cX12_moveBy 0 = .ok (.iload_n 1, 1) := by decide +kernel
theorem dX12_moveBy_1 : decode cX12_moveBy 1 = .ok (.aload_n 0, 1) := by decide +kernel
theorem dX12_moveBy_2 : decode cX12_moveBy 2 = .ok (.getfield 9, 3) := by decide +kernel
theorem dX12_moveBy_5 : decode cX12_moveBy 5 = .ok (.iconst 3, 1) := by decide +kernel
theorem dX12_moveBy_6 : decode cX12_moveBy 6 = .ok (.iaload, 1) := by decide +kernel
theorem dX12_moveBy_7 : decode cX12_moveBy 7 = .ok (.if_icmp .le 7, 3) := by decide +kernel
theorem dX12_moveBy_10 : decode cX12_moveBy 10 = .ok (.iconst 1, 1) := by decide +kernel
theorem dX12_moveBy_11 : decode cX12_moveBy 11 = .ok (.goto 19, 3) := by decide +kernel
theorem dX12_moveBy_14 : decode cX12_moveBy 14 = .ok (.iload_n 1, 1) := by decide +kernel
theorem dX12_moveBy_15 : decode cX12_moveBy 15 = .ok (.aload_n 0, 1) := by decide +kernel
theorem dX12_moveBy_16 : decode cX12_moveBy 16 = .ok (.getfield 9, 3) := by decide +kernel
theorem dX12_moveBy_19 : decode cX12_moveBy 19 = .ok (.iconst 3, 1) := by decide +kernel
theorem dX12_moveBy_20 : decode cX12_moveBy 20 = .ok (.iaload, 1) := by decide +kernel
theorem dX12_moveBy_21 : decode cX12_moveBy 21 = .ok (.ineg, 1) := by decide +kernel
theorem dX12_moveBy_22 : decode cX12_moveBy 22 = .ok (.if_icmp .ge 7, 3) := by decide +kernel
theorem dX12_moveBy_25 : decode cX12_moveBy 25 = .ok (.iconst (-1), 1) := by decide +kernel
theorem dX12_moveBy_26 : decode cX12_moveBy 26 = .ok (.goto 4, 3) := by decide +kernel
theorem dX12_moveBy_29 : decode cX12_moveBy 29 = .ok (.iconst 0, 1) := by decide +kernel
theorem dX12_moveBy_30 : decode cX12_moveBy 30 = .ok (.ireturn, 1) := by decide +kernel
theorem dX12_turns_0 : decode cX12_turns 0 = .ok (.aload_n 0, 1) := by decide +kernel
theorem dX12_turns_1 : decode cX12_turns 1 = .ok (.getfield 9, 3) := by decide +kernel
theorem dX12_turns_4 : decode cX12_turns 4 = .ok (.iconst 1, 1) := by decide +kernel
theorem dX12_turns_5 : decode cX12_turns 5 = .ok (.aload_n 0, 1) := by decide +kernel
theorem dX12_turns_6 : decode cX12_turns 6 = .ok (.getfield 9, 3) := by decide +kernel
theorem dX12_turns_9 : decode cX12_turns 9 = .ok (.iconst 1, 1) := by decide +kernel
theorem dX12_turns_10 : decode cX12_turns 10 = .ok (.iaload, 1) := by decide +kernel
theorem dX12_turns_11 : decode cX12_turns 11 = .ok (.iload_n 1, 1) := by decide +kernel
theorem dX12_turns_12 : decode cX12_turns 12 = .ok (.iadd, 1) := by decide +kernel
theorem dX12_turns_13 : decode cX12_turns 13 = .ok (.invokestatic 89, 3) := by decide +kernel
theorem dX12_turns_16 : decode cX12_turns 16 = .ok (.iastore, 1) := by decide +kernel
theorem dX12_turns_17 : decode cX12_turns 17 = .ok (.return_, 1) := by decide +kernel
theorem dX12_noonBy_0 : decode cX12_noonBy 0 = .ok (.aload_n 0, 1) := by decide +kernel
theorem dX12_noonBy_1 : decode cX12_noonBy 1 = .ok (.iload_n 1, 1) := by decide +kernel
theorem dX12_noonBy_2 : decode cX12_noonBy 2 = .ok (.invokevirtual 268, 3) := by decide +kernel
theorem dX12_noonBy_5 : decode cX12_noonBy 5 = .ok (.istore_n 2, 1) := by decide +kernel
theorem dX12_noonBy_6 : decode cX12_noonBy 6 = .ok (.aload_n 0, 1) := by decide +kernel
theorem dX12_noonBy_7 : decode cX12_noonBy 7 = .ok (.iload_n 2, 1) := by decide +kernel
theorem dX12_noonBy_8 : decode cX12_noonBy 8 = .ok (.invokevirtual 271, 3) := by decide +kernel
theorem dX12_noonBy_11 : decode cX12_noonBy 11 = .ok (.aload_n 0, 1) := by decide +kernel
theorem dX12_noonBy_12 : decode cX12_noonBy 12 = .ok (.getfield 9, 3) := by decide +kernel
theorem dX12_noonBy_15 : decode cX12_noonBy 15 = .ok (.iconst 4, 1) := by decide +kernel
theorem dX12_noonBy_16 : decode cX12_noonBy 16 = .ok (.aload_n 0, 1) := by decide +kernel
theorem dX12_noonBy_17 : decode cX12_noonBy 17 = .ok (.getfield 9, 3) := by decide +kernel
theorem dX12_noonBy_20 : decode cX12_noonBy 20 = .ok (.iconst 4, 1) := by decide +kernel
theorem dX12_noonBy_21 : decode cX12_noonBy 21 = .ok (.iaload, 1) := by decide +kernel
theorem dX12_noonBy_22 : decode cX12_noonBy 22 = .ok (.iload_n 2, 1) := by decide +kernel
theorem dX12_noonBy_23 : decode cX12_noonBy 23 = .ok (.iadd, 1) := by decide +kernel
theorem dX12_noonBy_24 : decode cX12_noonBy 24 = .ok (.invokestatic 89, 3) := by decide +kernel
theorem dX12_noonBy_27 : decode cX12_noonBy 27 = .ok (.iastore, 1) := by decide +kernel
theorem dX12_noonBy_28 : decode cX12_noonBy 28 = .ok (.aload_n 0, 1) := by decide +kernel
theorem dX12_noonBy_29 : decode cX12_noonBy 29 = .ok (.getfield 9, 3) := by decide +kernel
theorem dX12_noonBy_32 : decode cX12_noonBy 32 = .ok (.iconst 2, 1) := by decide +kernel
theorem dX12_noonBy_33 : decode cX12_noonBy 33 = .ok (.dup2, 1) := by decide +kernel
theorem dX12_noonBy_34 : decode cX12_noonBy 34 = .ok (.iaload, 1) := by decide +kernel
theorem dX12_noonBy_35 : decode cX12_noonBy 35 = .ok (.iconst 1, 1) := by decide +kernel
theorem dX12_noonBy_36 : decode cX12_noonBy 36 = .ok (.iadd, 1) := by decide +kernel
theorem dX12_noonBy_37 : decode cX12_noonBy 37 = .ok (.iastore, 1) := by decide +kernel
theorem dX12_noonBy_38 : decode cX12_noonBy 38 = .ok (.aload_n 0, 1) := by decide +kernel
theorem dX12_noonBy_39 : decode cX12_noonBy 39 = .ok (.getfield 9, 3) := by decide +kernel
theorem dX12_noonBy_42 : decode cX12_noonBy 42 = .ok (.iconst 1, 1) := by decide +kernel
theorem dX12_noonBy_43 : decode cX12_noonBy 43 = .ok (.iaload, 1) := by decide +kernel
theorem dX12_noonBy_44 : decode cX12_noonBy 44 = .ok (.ireturn, 1) := by decide +kernel
theorem dX12_sum_0 : decode cX12_sum 0 = .ok (.aload_n 0, 1) := by decide +kernel
theorem dX12_sum_1 : decode cX12_sum 1 = .ok (.invokevirtual 274, 3) := by decide +kernel
theorem dX12_sum_4 : decode cX12_sum 4 = .ok (.ireturn, 1) := by decide +kernel
theorem dX12_noon_0 : decode cX12_noon 0 = .ok (.aload_n 0, 1) := by decide +kernel
theorem dX12_noon_1 : decode cX12_noon 1 = .ok (.getfield 9, 3) := by decide +kernel
theorem dX12_noon_4 : decode cX12_noon 4 = .ok (.iconst 2, 1) := by decide +kernel
theorem dX12_noon_5 : decode cX12_noon 5 = .ok (.iaload, 1) := by decide +kernel
theorem dX12_noon_6 : decode cX12_noon 6 = .ok (.sipush 9999, 3) := by decide +kernel
theorem dX12_noon_9 : decode cX12_noon 9 = .ok (.if_icmp .ne 8, 3) := by decide +kernel
theorem dX12_noon_12 : decode cX12_noon 12 = .ok (.bipush (-4), 2) := by decide +kernel
theorem dX12_noon_14 : decode cX12_noon 14 = .ok (.goto 11, 3) := by decide +kernel
theorem dX12_noon_17 : decode cX12_noon 17 = .ok (.aload_n 0, 1) := by decide +kernel
theorem dX12_noon_18 : decode cX12_noon 18 = .ok (.aload_n 0, 1) := by decide +kernel
theorem dX12_noon_19 : decode cX12_noon 19 = .ok (.invokevirtual 274, 3) := by decide +kernel
theorem dX12_noon_22 : decode cX12_noon 22 = .ok (.invokevirtual 277, 3) := by decide +kernel
theorem dX12_noon_25 : decode cX12_noon 25 = .ok (.ireturn, 1) := by decide +kernel
theorem dX12_thinks_0 : decode cX12_thinks 0 = .ok (.aload_n 0, 1) := by decide +kernel
theorem dX12_thinks_1 : decode cX12_thinks 1 = .ok (.aload_n 0, 1) := by decide +kernel
theorem dX12_thinks_2 : decode cX12_thinks 2 = .ok (.getfield 9, 3) := by decide +kernel
theorem dX12_thinks_5 : decode cX12_thinks 5 = .ok (.iconst 1, 1) := by decide +kernel
theorem dX12_thinks_6 : decode cX12_thinks 6 = .ok (.iaload, 1) := by decide +kernel
theorem dX12_thinks_7 : decode cX12_thinks 7 = .ok (.putfield 280, 3) := by decide +kernel
theorem dX12_thinks_10 : decode cX12_thinks 10 = .ok (.return_, 1) := by decide +kernel
theorem dX12_laysBack_0 : decode cX12_laysBack 0 = .ok (.aload_n 0, 1) := by decide +kernel
theorem dX12_laysBack_1 : decode cX12_laysBack 1 = .ok (.getfield 9, 3) := by decide +kernel
theorem dX12_laysBack_4 : decode cX12_laysBack 4 = .ok (.iconst 1, 1) := by decide +kernel
theorem dX12_laysBack_5 : decode cX12_laysBack 5 = .ok (.aload_n 0, 1) := by decide +kernel
theorem dX12_laysBack_6 : decode cX12_laysBack 6 = .ok (.getfield 280, 3) := by decide +kernel
theorem dX12_laysBack_9 : decode cX12_laysBack 9 = .ok (.iastore, 1) := by decide +kernel
theorem dX12_laysBack_10 : decode cX12_laysBack 10 = .ok (.return_, 1) := by decide +kernel
theorem dX12_on_0 : decode cX12_on 0 = .ok (.iload_n 1, 1) := by decide +kernel
theorem dX12_on_1 : decode cX12_on 1 = .ok (.i2l, 1) := by decide +kernel
theorem dX12_on_2 : decode cX12_on 2 = .ok (.lconst 0, 1) := by decide +kernel
theorem dX12_on_3 : decode cX12_on 3 = .ok (.ldc2_w 283, 3) := by decide +kernel
theorem dX12_on_6 : decode cX12_on 6 = .ok (.invokestatic 58, 3) := by decide +kernel
theorem dX12_on_9 : decode cX12_on 9 = .ok (.ifCond .ne 5, 3) := by decide +kernel
theorem dX12_on_12 : decode cX12_on 12 = .ok (.iconst (-1), 1) := by decide +kernel
theorem dX12_on_13 : decode cX12_on 13 = .ok (.ireturn, 1) := by decide +kernel
theorem dX12_on_14 : decode cX12_on 14 = .ok (.aload_n 0, 1) := by decide +kernel
theorem dX12_on_15 : decode cX12_on 15 = .ok (.invokevirtual 285, 3) := by decide +kernel
theorem dX12_on_18 : decode cX12_on 18 = .ok (.iconst 0, 1) := by decide +kernel
theorem dX12_on_19 : decode cX12_on 19 = .ok (.istore_n 2, 1) := by decide +kernel
theorem dX12_on_20 : decode cX12_on 20 = .ok (.iload_n 2, 1) := by decide +kernel
theorem dX12_on_21 : decode cX12_on 21 = .ok (.iload_n 1, 1) := by decide +kernel
theorem dX12_on_22 : decode cX12_on 22 = .ok (.if_icmp .ge 21, 3) := by decide +kernel
theorem dX12_on_25 : decode cX12_on 25 = .ok (.aload_n 0, 1) := by decide +kernel
theorem dX12_on_26 : decode cX12_on 26 = .ok (.aload_n 0, 1) := by decide +kernel
theorem dX12_on_27 : decode cX12_on 27 = .ok (.aload_n 0, 1) := by decide +kernel
theorem dX12_on_28 : decode cX12_on 28 = .ok (.invokevirtual 274, 3) := by decide +kernel
theorem dX12_on_31 : decode cX12_on 31 = .ok (.invokevirtual 268, 3) := by decide +kernel
theorem dX12_on_34 : decode cX12_on 34 = .ok (.invokevirtual 271, 3) := by decide +kernel
theorem dX12_on_37 : decode cX12_on 37 = .ok (.iinc 2 1, 3) := by decide +kernel
theorem dX12_on_40 : decode cX12_on 40 = .ok (.goto (-20), 3) := by decide +kernel
theorem dX12_on_43 : decode cX12_on 43 = .ok (.aload_n 0, 1) := by decide +kernel
theorem dX12_on_44 : decode cX12_on 44 = .ok (.getfield 9, 3) := by decide +kernel
theorem dX12_on_47 : decode cX12_on 47 = .ok (.iconst 1, 1) := by decide +kernel
theorem dX12_on_48 : decode cX12_on 48 = .ok (.iaload, 1) := by decide +kernel
theorem dX12_on_49 : decode cX12_on 49 = .ok (.istore_n 2, 1) := by decide +kernel
theorem dX12_on_50 : decode cX12_on 50 = .ok (.aload_n 0, 1) := by decide +kernel
theorem dX12_on_51 : decode cX12_on 51 = .ok (.invokevirtual 288, 3) := by decide +kernel
theorem dX12_on_54 : decode cX12_on 54 = .ok (.iload_n 2, 1) := by decide +kernel
theorem dX12_on_55 : decode cX12_on 55 = .ok (.ireturn, 1) := by decide +kernel
theorem dX12_when_0 : decode cX12_when 0 = .ok (.iload_n 1, 1) := by decide +kernel
theorem dX12_when_1 : decode cX12_when 1 = .ok (.invokestatic 66, 3) := by decide +kernel
theorem dX12_when_4 : decode cX12_when 4 = .ok (.ifCond .ne 5, 3) := by decide +kernel
theorem dX12_when_7 : decode cX12_when 7 = .ok (.iconst (-1), 1) := by decide +kernel
theorem dX12_when_8 : decode cX12_when 8 = .ok (.ireturn, 1) := by decide +kernel
theorem dX12_when_9 : decode cX12_when 9 = .ok (.aload_n 0, 1) := by decide +kernel
theorem dX12_when_10 : decode cX12_when 10 = .ok (.invokevirtual 285, 3) := by decide +kernel
theorem dX12_when_13 : decode cX12_when 13 = .ok (.iconst 0, 1) := by decide +kernel
theorem dX12_when_14 : decode cX12_when 14 = .ok (.istore_n 2, 1) := by decide +kernel
theorem dX12_when_15 : decode cX12_when 15 = .ok (.iload_n 2, 1) := by decide +kernel
theorem dX12_when_16 : decode cX12_when 16 = .ok (.bipush 60, 2) := by decide +kernel
theorem dX12_when_18 : decode cX12_when 18 = .ok (.if_icmp .gt 31, 3) := by decide +kernel
theorem dX12_when_21 : decode cX12_when 21 = .ok (.aload_n 0, 1) := by decide +kernel
theorem dX12_when_22 : decode cX12_when 22 = .ok (.getfield 9, 3) := by decide +kernel
theorem dX12_when_25 : decode cX12_when 25 = .ok (.iconst 1, 1) := by decide +kernel
theorem dX12_when_26 : decode cX12_when 26 = .ok (.iaload, 1) := by decide +kernel
theorem dX12_when_27 : decode cX12_when 27 = .ok (.iload_n 1, 1) := by decide +kernel
theorem dX12_when_28 : decode cX12_when 28 = .ok (.if_icmp .eq 21, 3) := by decide +kernel
theorem dX12_when_31 : decode cX12_when 31 = .ok (.aload_n 0, 1) := by decide +kernel
theorem dX12_when_32 : decode cX12_when 32 = .ok (.aload_n 0, 1) := by decide +kernel
theorem dX12_when_33 : decode cX12_when 33 = .ok (.aload_n 0, 1) := by decide +kernel
theorem dX12_when_34 : decode cX12_when 34 = .ok (.invokevirtual 274, 3) := by decide +kernel
theorem dX12_when_37 : decode cX12_when 37 = .ok (.invokevirtual 268, 3) := by decide +kernel
theorem dX12_when_40 : decode cX12_when 40 = .ok (.invokevirtual 271, 3) := by decide +kernel
theorem dX12_when_43 : decode cX12_when 43 = .ok (.iinc 2 1, 3) := by decide +kernel
theorem dX12_when_46 : decode cX12_when 46 = .ok (.goto (-31), 3) := by decide +kernel
theorem dX12_when_49 : decode cX12_when 49 = .ok (.aload_n 0, 1) := by decide +kernel
theorem dX12_when_50 : decode cX12_when 50 = .ok (.invokevirtual 288, 3) := by decide +kernel
theorem dX12_when_53 : decode cX12_when 53 = .ok (.iload_n 2, 1) := by decide +kernel
theorem dX12_when_54 : decode cX12_when 54 = .ok (.bipush 60, 2) := by decide +kernel
theorem dX12_when_56 : decode cX12_when 56 = .ok (.if_icmp .gt 7, 3) := by decide +kernel
theorem dX12_when_59 : decode cX12_when 59 = .ok (.iload_n 2, 1) := by decide +kernel
theorem dX12_when_60 : decode cX12_when 60 = .ok (.goto 5, 3) := by decide +kernel
theorem dX12_when_63 : decode cX12_when 63 = .ok (.bipush (-3), 2) := by decide +kernel
theorem dX12_when_65 : decode cX12_when 65 = .ok (.ireturn, 1) := by decide +kernel
theorem dX12_cycle_0 : decode cX12_cycle 0 = .ok (.iload_n 1, 1) := by decide +kernel
theorem dX12_cycle_1 : decode cX12_cycle 1 = .ok (.i2l, 1) := by decide +kernel
theorem dX12_cycle_2 : decode cX12_cycle 2 = .ok (.lconst 0, 1) := by decide +kernel
theorem dX12_cycle_3 : decode cX12_cycle 3 = .ok (.lconst 1, 1) := by decide +kernel
theorem dX12_cycle_4 : decode cX12_cycle 4 = .ok (.invokestatic 58, 3) := by decide +kernel
theorem dX12_cycle_7 : decode cX12_cycle 7 = .ok (.ifCond .ne 5, 3) := by decide +kernel
theorem dX12_cycle_10 : decode cX12_cycle 10 = .ok (.iconst (-1), 1) := by decide +kernel
theorem dX12_cycle_11 : decode cX12_cycle 11 = .ok (.ireturn, 1) := by decide +kernel
theorem dX12_cycle_12 : decode cX12_cycle 12 = .ok (.iconst 0, 1) := by decide +kernel
theorem dX12_cycle_13 : decode cX12_cycle 13 = .ok (.istore_n 2, 1) := by decide +kernel
theorem dX12_cycle_14 : decode cX12_cycle 14 = .ok (.iload_n 2, 1) := by decide +kernel
theorem dX12_cycle_15 : decode cX12_cycle 15 = .ok (.bipush 24, 2) := by decide +kernel
theorem dX12_cycle_17 : decode cX12_cycle 17 = .ok (.if_icmp .ge 16, 3) := by decide +kernel
theorem dX12_cycle_20 : decode cX12_cycle 20 = .ok (.aload_n 0, 1) := by decide +kernel
theorem dX12_cycle_21 : decode cX12_cycle 21 = .ok (.getfield 25, 3) := by decide +kernel
theorem dX12_cycle_24 : decode cX12_cycle 24 = .ok (.iload_n 2, 1) := by decide +kernel
theorem dX12_cycle_25 : decode cX12_cycle 25 = .ok (.iconst (-1), 1) := by decide +kernel
theorem dX12_cycle_26 : decode cX12_cycle 26 = .ok (.iastore, 1) := by decide +kernel
theorem dX12_cycle_27 : decode cX12_cycle 27 = .ok (.iinc 2 1, 3) := by decide +kernel
theorem dX12_cycle_30 : decode cX12_cycle 30 = .ok (.goto (-16), 3) := by decide +kernel
theorem dX12_cycle_33 : decode cX12_cycle 33 = .ok (.aload_n 0, 1) := by decide +kernel
theorem dX12_cycle_34 : decode cX12_cycle 34 = .ok (.invokevirtual 285, 3) := by decide +kernel
theorem dX12_cycle_37 : decode cX12_cycle 37 = .ok (.iconst 0, 1) := by decide +kernel
theorem dX12_cycle_38 : decode cX12_cycle 38 = .ok (.istore_n 2, 1) := by decide +kernel
theorem dX12_cycle_39 : decode cX12_cycle 39 = .ok (.aload_n 0, 1) := by decide +kernel
theorem dX12_cycle_40 : decode cX12_cycle 40 = .ok (.getfield 25, 3) := by decide +kernel
theorem dX12_cycle_43 : decode cX12_cycle 43 = .ok (.aload_n 0, 1) := by decide +kernel
theorem dX12_cycle_44 : decode cX12_cycle 44 = .ok (.getfield 9, 3) := by decide +kernel
theorem dX12_cycle_47 : decode cX12_cycle 47 = .ok (.iconst 1, 1) := by decide +kernel
theorem dX12_cycle_48 : decode cX12_cycle 48 = .ok (.iaload, 1) := by decide +kernel
theorem dX12_cycle_49 : decode cX12_cycle 49 = .ok (.iaload, 1) := by decide +kernel
theorem dX12_cycle_50 : decode cX12_cycle 50 = .ok (.ifCond .ge 33, 3) := by decide +kernel
theorem dX12_cycle_53 : decode cX12_cycle 53 = .ok (.aload_n 0, 1) := by decide +kernel
theorem dX12_cycle_54 : decode cX12_cycle 54 = .ok (.getfield 25, 3) := by decide +kernel
theorem dX12_cycle_57 : decode cX12_cycle 57 = .ok (.aload_n 0, 1) := by decide +kernel
theorem dX12_cycle_58 : decode cX12_cycle 58 = .ok (.getfield 9, 3) := by decide +kernel
theorem dX12_cycle_61 : decode cX12_cycle 61 = .ok (.iconst 1, 1) := by decide +kernel
theorem dX12_cycle_62 : decode cX12_cycle 62 = .ok (.iaload, 1) := by decide +kernel
theorem dX12_cycle_63 : decode cX12_cycle 63 = .ok (.iload_n 2, 1) := by decide +kernel
theorem dX12_cycle_64 : decode cX12_cycle 64 = .ok (.iastore, 1) := by decide +kernel
theorem dX12_cycle_65 : decode cX12_cycle 65 = .ok (.aload_n 0, 1) := by decide +kernel
theorem dX12_cycle_66 : decode cX12_cycle 66 = .ok (.aload_n 0, 1) := by decide +kernel
theorem dX12_cycle_67 : decode cX12_cycle 67 = .ok (.aload_n 0, 1) := by decide +kernel
theorem dX12_cycle_68 : decode cX12_cycle 68 = .ok (.invokevirtual 274, 3) := by decide +kernel
theorem dX12_cycle_71 : decode cX12_cycle 71 = .ok (.invokevirtual 268, 3) := by decide +kernel
theorem dX12_cycle_74 : decode cX12_cycle 74 = .ok (.invokevirtual 271, 3) := by decide +kernel
theorem dX12_cycle_77 : decode cX12_cycle 77 = .ok (.iinc 2 1, 3) := by decide +kernel
theorem dX12_cycle_80 : decode cX12_cycle 80 = .ok (.goto (-41), 3) := by decide +kernel
theorem dX12_cycle_83 : decode cX12_cycle 83 = .ok (.aload_n 0, 1) := by decide +kernel
theorem dX12_cycle_84 : decode cX12_cycle 84 = .ok (.getfield 25, 3) := by decide +kernel
theorem dX12_cycle_87 : decode cX12_cycle 87 = .ok (.aload_n 0, 1) := by decide +kernel
theorem dX12_cycle_88 : decode cX12_cycle 88 = .ok (.getfield 9, 3) := by decide +kernel
theorem dX12_cycle_91 : decode cX12_cycle 91 = .ok (.iconst 1, 1) := by decide +kernel
theorem dX12_cycle_92 : decode cX12_cycle 92 = .ok (.iaload, 1) := by decide +kernel
theorem dX12_cycle_93 : decode cX12_cycle 93 = .ok (.iaload, 1) := by decide +kernel
theorem dX12_cycle_94 : decode cX12_cycle 94 = .ok (.istore_n 3, 1) := by decide +kernel
theorem dX12_cycle_95 : decode cX12_cycle 95 = .ok (.aload_n 0, 1) := by decide +kernel
theorem dX12_cycle_96 : decode cX12_cycle 96 = .ok (.invokevirtual 288, 3) := by decide +kernel
theorem dX12_cycle_99 : decode cX12_cycle 99 = .ok (.iload_n 1, 1) := by decide +kernel
theorem dX12_cycle_100 : decode cX12_cycle 100 = .ok (.ifCond .ne 7, 3) := by decide +kernel
theorem dX12_cycle_103 : decode cX12_cycle 103 = .ok (.iload_n 3, 1) := by decide +kernel
theorem dX12_cycle_104 : decode cX12_cycle 104 = .ok (.goto 6, 3) := by decide +kernel
theorem dX12_cycle_107 : decode cX12_cycle 107 = .ok (.iload_n 2, 1) := by decide +kernel
theorem dX12_cycle_108 : decode cX12_cycle 108 = .ok (.iload_n 3, 1) := by decide +kernel
theorem dX12_cycle_109 : decode cX12_cycle 109 = .ok (.isub, 1) := by decide +kernel
theorem dX12_cycle_110 : decode cX12_cycle 110 = .ok (.ireturn, 1) := by decide +kernel
theorem dX12_priceOf_0 : decode cX12_priceOf 0 = .ok (.iconst 0, 1) := by decide +kernel
theorem dX12_priceOf_1 : decode cX12_priceOf 1 = .ok (.istore_n 2, 1) := by decide +kernel
theorem dX12_priceOf_2 : decode cX12_priceOf 2 = .ok (.iconst 0, 1) := by decide +kernel
theorem dX12_priceOf_3 : decode cX12_priceOf 3 = .ok (.istore_n 3, 1) := by decide +kernel
theorem dX12_priceOf_4 : decode cX12_priceOf 4 = .ok (.iload_n 3, 1) := by decide +kernel
theorem dX12_priceOf_5 : decode cX12_priceOf 5 = .ok (.aload_n 0, 1) := by decide +kernel
theorem dX12_priceOf_6 : decode cX12_priceOf 6 = .ok (.getfield 9, 3) := by decide +kernel
theorem dX12_priceOf_9 : decode cX12_priceOf 9 = .ok (.iconst 0, 1) := by decide +kernel
theorem dX12_priceOf_10 : decode cX12_priceOf 10 = .ok (.iaload, 1) := by decide +kernel
theorem dX12_priceOf_11 : decode cX12_priceOf 11 = .ok (.if_icmp .ge 24, 3) := by decide +kernel
theorem dX12_priceOf_14 : decode cX12_priceOf 14 = .ok (.iload_n 2, 1) := by decide +kernel
theorem dX12_priceOf_15 : decode cX12_priceOf 15 = .ok (.iload_n 1, 1) := by decide +kernel
theorem dX12_priceOf_16 : decode cX12_priceOf 16 = .ok (.iload_n 3, 1) := by decide +kernel
theorem dX12_priceOf_17 : decode cX12_priceOf 17 = .ok (.ishr, 1) := by decide +kernel
theorem dX12_priceOf_18 : decode cX12_priceOf 18 = .ok (.iconst 1, 1) := by decide +kernel
theorem dX12_priceOf_19 : decode cX12_priceOf 19 = .ok (.iand, 1) := by decide +kernel
theorem dX12_priceOf_20 : decode cX12_priceOf 20 = .ok (.aload_n 0, 1) := by decide +kernel
theorem dX12_priceOf_21 : decode cX12_priceOf 21 = .ok (.iload_n 3, 1) := by decide +kernel
theorem dX12_priceOf_22 : decode cX12_priceOf 22 = .ok (.iconst 3, 1) := by decide +kernel
theorem dX12_priceOf_23 : decode cX12_priceOf 23 = .ok (.invokevirtual 85, 3) := by decide +kernel
theorem dX12_priceOf_26 : decode cX12_priceOf 26 = .ok (.imul, 1) := by decide +kernel
theorem dX12_priceOf_27 : decode cX12_priceOf 27 = .ok (.iadd, 1) := by decide +kernel
theorem dX12_priceOf_28 : decode cX12_priceOf 28 = .ok (.istore_n 2, 1) := by decide +kernel
theorem dX12_priceOf_29 : decode cX12_priceOf 29 = .ok (.iinc 3 1, 3) := by decide +kernel
theorem dX12_priceOf_32 : decode cX12_priceOf 32 = .ok (.goto (-28), 3) := by decide +kernel
theorem dX12_priceOf_35 : decode cX12_priceOf 35 = .ok (.iload_n 2, 1) := by decide +kernel
theorem dX12_priceOf_36 : decode cX12_priceOf 36 = .ok (.ireturn, 1) := by decide +kernel
theorem dX12_ones_0 : decode cX12_ones 0 = .ok (.iconst 0, 1) := by decide +kernel
theorem dX12_ones_1 : decode cX12_ones 1 = .ok (.istore_n 1, 1) := by decide +kernel
theorem dX12_ones_2 : decode cX12_ones 2 = .ok (.iconst 0, 1) := by decide +kernel
theorem dX12_ones_3 : decode cX12_ones 3 = .ok (.istore_n 2, 1) := by decide +kernel
theorem dX12_ones_4 : decode cX12_ones 4 = .ok (.iload_n 2, 1) := by decide +kernel
theorem dX12_ones_5 : decode cX12_ones 5 = .ok (.bipush 7, 2) := by decide +kernel
theorem dX12_ones_7 : decode cX12_ones 7 = .ok (.if_icmp .ge 17, 3) := by decide +kernel
theorem dX12_ones_10 : decode cX12_ones 10 = .ok (.iload_n 1, 1) := by decide +kernel
theorem dX12_ones_11 : decode cX12_ones 11 = .ok (.iload_n 0, 1) := by decide +kernel
theorem dX12_ones_12 : decode cX12_ones 12 = .ok (.iload_n 2, 1) := by decide +kernel
theorem dX12_ones_13 : decode cX12_ones 13 = .ok (.ishr, 1) := by decide +kernel
theorem dX12_ones_14 : decode cX12_ones 14 = .ok (.iconst 1, 1) := by decide +kernel
theorem dX12_ones_15 : decode cX12_ones 15 = .ok (.iand, 1) := by decide +kernel
theorem dX12_ones_16 : decode cX12_ones 16 = .ok (.iadd, 1) := by decide +kernel
theorem dX12_ones_17 : decode cX12_ones 17 = .ok (.istore_n 1, 1) := by decide +kernel
theorem dX12_ones_18 : decode cX12_ones 18 = .ok (.iinc 2 1, 3) := by decide +kernel
theorem dX12_ones_21 : decode cX12_ones 21 = .ok (.goto (-17), 3) := by decide +kernel
theorem dX12_ones_24 : decode cX12_ones 24 = .ok (.iload_n 1, 1) := by decide +kernel
theorem dX12_ones_25 : decode cX12_ones 25 = .ok (.ireturn, 1) := by decide +kernel
theorem dX12_lulls_0 : decode cX12_lulls 0 = .ok (.iconst 0, 1) := by decide +kernel
theorem dX12_lulls_1 : decode cX12_lulls 1 = .ok (.istore_n 3, 1) := by decide +kernel
theorem dX12_lulls_2 : decode cX12_lulls 2 = .ok (.iload_n 3, 1) := by decide +kernel
theorem dX12_lulls_3 : decode cX12_lulls 3 = .ok (.aload_n 0, 1) := by decide +kernel
theorem dX12_lulls_4 : decode cX12_lulls 4 = .ok (.getfield 9, 3) := by decide +kernel
theorem dX12_lulls_7 : decode cX12_lulls 7 = .ok (.iconst 0, 1) := by decide +kernel
theorem dX12_lulls_8 : decode cX12_lulls 8 = .ok (.iaload, 1) := by decide +kernel
theorem dX12_lulls_9 : decode cX12_lulls 9 = .ok (.if_icmp .ge 25, 3) := by decide +kernel
theorem dX12_lulls_12 : decode cX12_lulls 12 = .ok (.iload_n 1, 1) := by decide +kernel
theorem dX12_lulls_13 : decode cX12_lulls 13 = .ok (.iload_n 3, 1) := by decide +kernel
theorem dX12_lulls_14 : decode cX12_lulls 14 = .ok (.ishr, 1) := by decide +kernel
theorem dX12_lulls_15 : decode cX12_lulls 15 = .ok (.iconst 1, 1) := by decide +kernel
theorem dX12_lulls_16 : decode cX12_lulls 16 = .ok (.iand, 1) := by decide +kernel
theorem dX12_lulls_17 : decode cX12_lulls 17 = .ok (.iconst 1, 1) := by decide +kernel
theorem dX12_lulls_18 : decode cX12_lulls 18 = .ok (.if_icmp .ne 10, 3) := by decide +kernel
theorem dX12_lulls_21 : decode cX12_lulls 21 = .ok (.aload_n 0, 1) := by decide +kernel
theorem dX12_lulls_22 : decode cX12_lulls 22 = .ok (.iload_n 3, 1) := by decide +kernel
theorem dX12_lulls_23 : decode cX12_lulls 23 = .ok (.iconst 4, 1) := by decide +kernel
theorem dX12_lulls_24 : decode cX12_lulls 24 = .ok (.iload_n 2, 1) := by decide +kernel
theorem dX12_lulls_25 : decode cX12_lulls 25 = .ok (.invokevirtual 81, 3) := by decide +kernel
theorem dX12_lulls_28 : decode cX12_lulls 28 = .ok (.iinc 3 1, 3) := by decide +kernel
theorem dX12_lulls_31 : decode cX12_lulls 31 = .ok (.goto (-29), 3) := by decide +kernel
theorem dX12_lulls_34 : decode cX12_lulls 34 = .ok (.return_, 1) := by decide +kernel
theorem dX12_bestFor_0 : decode cX12_bestFor 0 = .ok (.aload_n 0, 1) := by decide +kernel
theorem dX12_bestFor_1 : decode cX12_bestFor 1 = .ok (.invokevirtual 132, 3) := by decide +kernel
theorem dX12_bestFor_4 : decode cX12_bestFor 4 = .ok (.istore_n 2, 1) := by decide +kernel
theorem dX12_bestFor_5 : decode cX12_bestFor 5 = .ok (.iconst (-1), 1) := by decide +kernel
theorem dX12_bestFor_6 : decode cX12_bestFor 6 = .ok (.istore_n 3, 1) := by decide +kernel
theorem dX12_bestFor_7 : decode cX12_bestFor 7 = .ok (.iconst 0, 1) := by decide +kernel
theorem dX12_bestFor_8 : decode cX12_bestFor 8 = .ok (.istore 4, 2) := by decide +kernel
theorem dX12_bestFor_10 : decode cX12_bestFor 10 = .ok (.iload 4, 2) := by decide +kernel
theorem dX12_bestFor_12 : decode cX12_bestFor 12 = .ok (.iload_n 2, 1) := by decide +kernel
theorem dX12_bestFor_13 : decode cX12_bestFor 13 = .ok (.if_icmp .gt 110, 3) := by decide +kernel
theorem dX12_bestFor_16 : decode cX12_bestFor 16 = .ok (.iload 4, 2) := by decide +kernel
theorem dX12_bestFor_18 : decode cX12_bestFor 18 = .ok (.iload_n 2, 1) := by decide +kernel
theorem dX12_bestFor_19 : decode cX12_bestFor 19 = .ok (.iconst (-1), 1) := by decide +kernel
theorem dX12_bestFor_20 : decode cX12_bestFor 20 = .ok (.ixor, 1) := by decide +kernel
theorem dX12_bestFor_21 : decode cX12_bestFor 21 = .ok (.iand, 1) := by decide +kernel
theorem dX12_bestFor_22 : decode cX12_bestFor 22 = .ok (.ifCond .eq 6, 3) := by decide +kernel
theorem dX12_bestFor_25 : decode cX12_bestFor 25 = .ok (.goto 92, 3) := by decide +kernel
theorem dX12_bestFor_28 : decode cX12_bestFor 28 = .ok (.aload_n 0, 1) := by decide +kernel
theorem dX12_bestFor_29 : decode cX12_bestFor 29 = .ok (.iload 4, 2) := by decide +kernel
theorem dX12_bestFor_31 : decode cX12_bestFor 31 = .ok (.iconst 0, 1) := by decide +kernel
theorem dX12_bestFor_32 : decode cX12_bestFor 32 = .ok (.invokevirtual 291, 3) := by decide +kernel
theorem dX12_bestFor_35 : decode cX12_bestFor 35 = .ok (.aload_n 0, 1) := by decide +kernel
theorem dX12_bestFor_36 : decode cX12_bestFor 36 = .ok (.aload_n 0, 1) := by decide +kernel
theorem dX12_bestFor_37 : decode cX12_bestFor 37 = .ok (.invokevirtual 274, 3) := by decide +kernel
theorem dX12_bestFor_40 : decode cX12_bestFor 40 = .ok (.invokevirtual 268, 3) := by decide +kernel
theorem dX12_bestFor_43 : decode cX12_bestFor 43 = .ok (.iload_n 1, 1) := by decide +kernel
theorem dX12_bestFor_44 : decode cX12_bestFor 44 = .ok (.iconst 1, 1) := by decide +kernel
theorem dX12_bestFor_45 : decode cX12_bestFor 45 = .ok (.isub, 1) := by decide +kernel
theorem dX12_bestFor_46 : decode cX12_bestFor 46 = .ok (.if_icmp .ne 7, 3) := by decide +kernel
theorem dX12_bestFor_49 : decode cX12_bestFor 49 = .ok (.iconst 1, 1) := by decide +kernel
theorem dX12_bestFor_50 : decode cX12_bestFor 50 = .ok (.goto 4, 3) := by decide +kernel
theorem dX12_bestFor_53 : decode cX12_bestFor 53 = .ok (.iconst 0, 1) := by decide +kernel
theorem dX12_bestFor_54 : decode cX12_bestFor 54 = .ok (.istore 5, 2) := by decide +kernel
theorem dX12_bestFor_56 : decode cX12_bestFor 56 = .ok (.aload_n 0, 1) := by decide +kernel
theorem dX12_bestFor_57 : decode cX12_bestFor 57 = .ok (.iload 4, 2) := by decide +kernel
theorem dX12_bestFor_59 : decode cX12_bestFor 59 = .ok (.iconst 1, 1) := by decide +kernel
theorem dX12_bestFor_60 : decode cX12_bestFor 60 = .ok (.invokevirtual 291, 3) := by decide +kernel
theorem dX12_bestFor_63 : decode cX12_bestFor 63 = .ok (.iload_n 3, 1) := by decide +kernel
theorem dX12_bestFor_64 : decode cX12_bestFor 64 = .ok (.ifCond .ge 7, 3) := by decide +kernel
theorem dX12_bestFor_67 : decode cX12_bestFor 67 = .ok (.iconst (-1), 1) := by decide +kernel
theorem dX12_bestFor_68 : decode cX12_bestFor 68 = .ok (.goto 30, 3) := by decide +kernel
theorem dX12_bestFor_71 : decode cX12_bestFor 71 = .ok (.sipush 1000, 3) := by decide +kernel
theorem dX12_bestFor_74 : decode cX12_bestFor 74 = .ok (.aload_n 0, 1) := by decide +kernel
theorem dX12_bestFor_75 : decode cX12_bestFor 75 = .ok (.iload 4, 2) := by decide +kernel
theorem dX12_bestFor_77 : decode cX12_bestFor 77 = .ok (.invokevirtual 295, 3) := by decide +kernel
theorem dX12_bestFor_80 : decode cX12_bestFor 80 = .ok (.aload_n 0, 1) := by decide +kernel
theorem dX12_bestFor_81 : decode cX12_bestFor 81 = .ok (.iload_n 3, 1) := by decide +kernel
theorem dX12_bestFor_82 : decode cX12_bestFor 82 = .ok (.invokevirtual 295, 3) := by decide +kernel
theorem dX12_bestFor_85 : decode cX12_bestFor 85 = .ok (.isub, 1) := by decide +kernel
theorem dX12_bestFor_86 : decode cX12_bestFor 86 = .ok (.imul, 1) := by decide +kernel
theorem dX12_bestFor_87 : decode cX12_bestFor 87 = .ok (.iload 4, 2) := by decide +kernel
theorem dX12_bestFor_89 : decode cX12_bestFor 89 = .ok (.invokestatic 298, 3) := by decide +kernel
theorem dX12_bestFor_92 : decode cX12_bestFor 92 = .ok (.iadd, 1) := by decide +kernel
theorem dX12_bestFor_93 : decode cX12_bestFor 93 = .ok (.iload_n 3, 1) := by decide +kernel
theorem dX12_bestFor_94 : decode cX12_bestFor 94 = .ok (.invokestatic 298, 3) := by decide +kernel
theorem dX12_bestFor_97 : decode cX12_bestFor 97 = .ok (.isub, 1) := by decide +kernel
theorem dX12_bestFor_98 : decode cX12_bestFor 98 = .ok (.istore 6, 2) := by decide +kernel
theorem dX12_bestFor_100 : decode cX12_bestFor 100 = .ok (.iload 5, 2) := by decide +kernel
theorem dX12_bestFor_102 : decode cX12_bestFor 102 = .ok (.ifCond .eq 13, 3) := by decide +kernel
theorem dX12_bestFor_105 : decode cX12_bestFor 105 = .ok (.iload 6, 2) := by decide +kernel
theorem dX12_bestFor_107 : decode cX12_bestFor 107 = .ok (.ifCond .ge 8, 3) := by decide +kernel
theorem dX12_bestFor_110 : decode cX12_bestFor 110 = .ok (.iload 4, 2) := by decide +kernel
theorem dX12_bestFor_112 : decode cX12_bestFor 112 = .ok (.goto 4, 3) := by decide +kernel
theorem dX12_bestFor_115 : decode cX12_bestFor 115 = .ok (.iload_n 3, 1) := by decide +kernel
theorem dX12_bestFor_116 : decode cX12_bestFor 116 = .ok (.istore_n 3, 1) := by decide +kernel
theorem dX12_bestFor_117 : decode cX12_bestFor 117 = .ok (.iinc 4 1, 3) := by decide +kernel
theorem dX12_bestFor_120 : decode cX12_bestFor 120 = .ok (.goto (-110), 3) := by decide +kernel
theorem dX12_bestFor_123 : decode cX12_bestFor 123 = .ok (.iload_n 3, 1) := by decide +kernel
theorem dX12_bestFor_124 : decode cX12_bestFor 124 = .ok (.ireturn, 1) := by decide +kernel
theorem dX12_buys_0 : decode cX12_buys 0 = .ok (.iload_n 1, 1) := by decide +kernel
theorem dX12_buys_1 : decode cX12_buys 1 = .ok (.i2l, 1) := by decide +kernel
theorem dX12_buys_2 : decode cX12_buys 2 = .ok (.lconst 0, 1) := by decide +kernel
theorem dX12_buys_3 : decode cX12_buys 3 = .ok (.ldc2_w 301, 3) := by decide +kernel
theorem dX12_buys_6 : decode cX12_buys 6 = .ok (.invokestatic 58, 3) := by decide +kernel
theorem dX12_buys_9 : decode cX12_buys 9 = .ok (.ifCond .ne 5, 3) := by decide +kernel
theorem dX12_buys_12 : decode cX12_buys 12 = .ok (.iconst (-1), 1) := by decide +kernel
theorem dX12_buys_13 : decode cX12_buys 13 = .ok (.ireturn, 1) := by decide +kernel
theorem dX12_buys_14 : decode cX12_buys 14 = .ok (.aload_n 0, 1) := by decide +kernel
theorem dX12_buys_15 : decode cX12_buys 15 = .ok (.iload_n 1, 1) := by decide +kernel
theorem dX12_buys_16 : decode cX12_buys 16 = .ok (.invokevirtual 303, 3) := by decide +kernel
theorem dX12_buys_19 : decode cX12_buys 19 = .ok (.istore_n 2, 1) := by decide +kernel
theorem dX12_buys_20 : decode cX12_buys 20 = .ok (.iload_n 2, 1) := by decide +kernel
theorem dX12_buys_21 : decode cX12_buys 21 = .ok (.ifCond .ge 8, 3) := by decide +kernel
theorem dX12_buys_24 : decode cX12_buys 24 = .ok (.bipush (-3), 2) := by decide +kernel
theorem dX12_buys_26 : decode cX12_buys 26 = .ok (.goto 8, 3) := by decide +kernel
theorem dX12_buys_29 : decode cX12_buys 29 = .ok (.aload_n 0, 1) := by decide +kernel
theorem dX12_buys_30 : decode cX12_buys 30 = .ok (.iload_n 2, 1) := by decide +kernel
theorem dX12_buys_31 : decode cX12_buys 31 = .ok (.invokevirtual 295, 3) := by decide +kernel
theorem dX12_buys_34 : decode cX12_buys 34 = .ok (.ireturn, 1) := by decide +kernel
theorem dX12_whom_0 : decode cX12_whom 0 = .ok (.iload_n 1, 1) := by decide +kernel
theorem dX12_whom_1 : decode cX12_whom 1 = .ok (.i2l, 1) := by decide +kernel
theorem dX12_whom_2 : decode cX12_whom 2 = .ok (.lconst 0, 1) := by decide +kernel
theorem dX12_whom_3 : decode cX12_whom 3 = .ok (.ldc2_w 301, 3) := by decide +kernel
theorem dX12_whom_6 : decode cX12_whom 6 = .ok (.invokestatic 58, 3) := by decide +kernel
theorem dX12_whom_9 : decode cX12_whom 9 = .ok (.ifCond .ne 5, 3) := by decide +kernel
theorem dX12_whom_12 : decode cX12_whom 12 = .ok (.iconst (-1), 1) := by decide +kernel
theorem dX12_whom_13 : decode cX12_whom 13 = .ok (.ireturn, 1) := by decide +kernel
theorem dX12_whom_14 : decode cX12_whom 14 = .ok (.aload_n 0, 1) := by decide +kernel
theorem dX12_whom_15 : decode cX12_whom 15 = .ok (.iload_n 1, 1) := by decide +kernel
theorem dX12_whom_16 : decode cX12_whom 16 = .ok (.invokevirtual 303, 3) := by decide +kernel
theorem dX12_whom_19 : decode cX12_whom 19 = .ok (.istore_n 2, 1) := by decide +kernel
theorem dX12_whom_20 : decode cX12_whom 20 = .ok (.iload_n 2, 1) := by decide +kernel
theorem dX12_whom_21 : decode cX12_whom 21 = .ok (.ifCond .ge 8, 3) := by decide +kernel
theorem dX12_whom_24 : decode cX12_whom 24 = .ok (.bipush (-3), 2) := by decide +kernel
theorem dX12_whom_26 : decode cX12_whom 26 = .ok (.goto 4, 3) := by decide +kernel
theorem dX12_whom_29 : decode cX12_whom 29 = .ok (.iload_n 2, 1) := by decide +kernel
theorem dX12_whom_30 : decode cX12_whom 30 = .ok (.ireturn, 1) := by decide +kernel
theorem dX12_apart_0 : decode cX12_apart 0 = .ok (.iload_n 0, 1) := by decide +kernel
theorem dX12_apart_1 : decode cX12_apart 1 = .ok (.iload_n 1, 1) := by decide +kernel
theorem dX12_apart_2 : decode cX12_apart 2 = .ok (.isub, 1) := by decide +kernel
theorem dX12_apart_3 : decode cX12_apart 3 = .ok (.invokestatic 89, 3) := by decide +kernel
theorem dX12_apart_6 : decode cX12_apart 6 = .ok (.istore_n 2, 1) := by decide +kernel
theorem dX12_apart_7 : decode cX12_apart 7 = .ok (.iload_n 2, 1) := by decide +kernel
theorem dX12_apart_8 : decode cX12_apart 8 = .ok (.bipush 24, 2) := by decide +kernel
theorem dX12_apart_10 : decode cX12_apart 10 = .ok (.iload_n 2, 1) := by decide +kernel
theorem dX12_apart_11 : decode cX12_apart 11 = .ok (.isub, 1) := by decide +kernel
theorem dX12_apart_12 : decode cX12_apart 12 = .ok (.invokestatic 306, 3) := by decide +kernel
theorem dX12_apart_15 : decode cX12_apart 15 = .ok (.ireturn, 1) := by decide +kernel
theorem dX12_liars_0 : decode cX12_liars 0 = .ok (.aload_n 0, 1) := by decide +kernel
theorem dX12_liars_1 : decode cX12_liars 1 = .ok (.invokevirtual 274, 3) := by decide +kernel
theorem dX12_liars_4 : decode cX12_liars 4 = .ok (.istore_n 1, 1) := by decide +kernel
theorem dX12_liars_5 : decode cX12_liars 5 = .ok (.iconst 0, 1) := by decide +kernel
theorem dX12_liars_6 : decode cX12_liars 6 = .ok (.istore_n 2, 1) := by decide +kernel
theorem dX12_liars_7 : decode cX12_liars 7 = .ok (.iconst 0, 1) := by decide +kernel
theorem dX12_liars_8 : decode cX12_liars 8 = .ok (.istore_n 3, 1) := by decide +kernel
theorem dX12_liars_9 : decode cX12_liars 9 = .ok (.iload_n 3, 1) := by decide +kernel
theorem dX12_liars_10 : decode cX12_liars 10 = .ok (.aload_n 0, 1) := by decide +kernel
theorem dX12_liars_11 : decode cX12_liars 11 = .ok (.getfield 9, 3) := by decide +kernel
theorem dX12_liars_14 : decode cX12_liars 14 = .ok (.iconst 0, 1) := by decide +kernel
theorem dX12_liars_15 : decode cX12_liars 15 = .ok (.iaload, 1) := by decide +kernel
theorem dX12_liars_16 : decode cX12_liars 16 = .ok (.if_icmp .ge 139, 3) := by decide +kernel
theorem dX12_liars_19 : decode cX12_liars 19 = .ok (.aload_n 0, 1) := by decide +kernel
theorem dX12_liars_20 : decode cX12_liars 20 = .ok (.iload_n 3, 1) := by decide +kernel
theorem dX12_liars_21 : decode cX12_liars 21 = .ok (.invokevirtual 126, 3) := by decide +kernel
theorem dX12_liars_24 : decode cX12_liars 24 = .ok (.istore 4, 2) := by decide +kernel
theorem dX12_liars_26 : decode cX12_liars 26 = .ok (.iload_n 1, 1) := by decide +kernel
theorem dX12_liars_27 : decode cX12_liars 27 = .ok (.aload_n 0, 1) := by decide +kernel
theorem dX12_liars_28 : decode cX12_liars 28 = .ok (.iload_n 3, 1) := by decide +kernel
theorem dX12_liars_29 : decode cX12_liars 29 = .ok (.invokevirtual 123, 3) := by decide +kernel
theorem dX12_liars_32 : decode cX12_liars 32 = .ok (.iload 4, 2) := by decide +kernel
theorem dX12_liars_34 : decode cX12_liars 34 = .ok (.imul, 1) := by decide +kernel
theorem dX12_liars_35 : decode cX12_liars 35 = .ok (.isub, 1) := by decide +kernel
theorem dX12_liars_36 : decode cX12_liars 36 = .ok (.istore 5, 2) := by decide +kernel
theorem dX12_liars_38 : decode cX12_liars 38 = .ok (.aload_n 0, 1) := by decide +kernel
theorem dX12_liars_39 : decode cX12_liars 39 = .ok (.getfield 9, 3) := by decide +kernel
theorem dX12_liars_42 : decode cX12_liars 42 = .ok (.iconst 1, 1) := by decide +kernel
theorem dX12_liars_43 : decode cX12_liars 43 = .ok (.iaload, 1) := by decide +kernel
theorem dX12_liars_44 : decode cX12_liars 44 = .ok (.aload_n 0, 1) := by decide +kernel
theorem dX12_liars_45 : decode cX12_liars 45 = .ok (.iload_n 1, 1) := by decide +kernel
theorem dX12_liars_46 : decode cX12_liars 46 = .ok (.invokevirtual 268, 3) := by decide +kernel
theorem dX12_liars_49 : decode cX12_liars 49 = .ok (.iadd, 1) := by decide +kernel
theorem dX12_liars_50 : decode cX12_liars 50 = .ok (.aload_n 0, 1) := by decide +kernel
theorem dX12_liars_51 : decode cX12_liars 51 = .ok (.iload_n 3, 1) := by decide +kernel
theorem dX12_liars_52 : decode cX12_liars 52 = .ok (.iconst 1, 1) := by decide +kernel
theorem dX12_liars_53 : decode cX12_liars 53 = .ok (.invokevirtual 85, 3) := by decide +kernel
theorem dX12_liars_56 : decode cX12_liars 56 = .ok (.invokestatic 309, 3) := by decide +kernel
theorem dX12_liars_59 : decode cX12_liars 59 = .ok (.istore 6, 2) := by decide +kernel
theorem dX12_liars_61 : decode cX12_liars 61 = .ok (.iconst 0, 1) := by decide +kernel
theorem dX12_liars_62 : decode cX12_liars 62 = .ok (.istore 7, 2) := by decide +kernel
theorem dX12_liars_64 : decode cX12_liars 64 = .ok (.iconst (-1), 1) := by decide +kernel
theorem dX12_liars_65 : decode cX12_liars 65 = .ok (.istore 8, 2) := by decide +kernel
theorem dX12_liars_67 : decode cX12_liars 67 = .ok (.iload 8, 2) := by decide +kernel
theorem dX12_liars_69 : decode cX12_liars 69 = .ok (.iconst 1, 1) := by decide +kernel
theorem dX12_liars_70 : decode cX12_liars 70 = .ok (.if_icmp .gt 54, 3) := by decide +kernel
theorem dX12_liars_73 : decode cX12_liars 73 = .ok (.iload 7, 2) := by decide +kernel
theorem dX12_liars_75 : decode cX12_liars 75 = .ok (.ifCond .ne 36, 3) := by decide +kernel
theorem dX12_liars_78 : decode cX12_liars 78 = .ok (.aload_n 0, 1) := by decide +kernel
theorem dX12_liars_79 : decode cX12_liars 79 = .ok (.getfield 9, 3) := by decide +kernel
theorem dX12_liars_82 : decode cX12_liars 82 = .ok (.iconst 1, 1) := by decide +kernel
theorem dX12_liars_83 : decode cX12_liars 83 = .ok (.iaload, 1) := by decide +kernel
theorem dX12_liars_84 : decode cX12_liars 84 = .ok (.aload_n 0, 1) := by decide +kernel
theorem dX12_liars_85 : decode cX12_liars 85 = .ok (.iload 5, 2) := by decide +kernel
theorem dX12_liars_87 : decode cX12_liars 87 = .ok (.iload 8, 2) := by decide +kernel
theorem dX12_liars_89 : decode cX12_liars 89 = .ok (.iload 4, 2) := by decide +kernel
theorem dX12_liars_91 : decode cX12_liars 91 = .ok (.imul, 1) := by decide +kernel
theorem dX12_liars_92 : decode cX12_liars 92 = .ok (.iadd, 1) := by decide +kernel
theorem dX12_liars_93 : decode cX12_liars 93 = .ok (.invokevirtual 268, 3) := by decide +kernel
theorem dX12_liars_96 : decode cX12_liars 96 = .ok (.iadd, 1) := by decide +kernel
theorem dX12_liars_97 : decode cX12_liars 97 = .ok (.aload_n 0, 1) := by decide +kernel
theorem dX12_liars_98 : decode cX12_liars 98 = .ok (.iload_n 3, 1) := by decide +kernel
theorem dX12_liars_99 : decode cX12_liars 99 = .ok (.iconst 1, 1) := by decide +kernel
theorem dX12_liars_100 : decode cX12_liars 100 = .ok (.invokevirtual 85, 3) := by decide +kernel
theorem dX12_liars_103 : decode cX12_liars 103 = .ok (.invokestatic 309, 3) := by decide +kernel
theorem dX12_liars_106 : decode cX12_liars 106 = .ok (.iload 6, 2) := by decide +kernel
theorem dX12_liars_108 : decode cX12_liars 108 = .ok (.if_icmp .ge 7, 3) := by decide +kernel
theorem dX12_liars_111 : decode cX12_liars 111 = .ok (.iconst 1, 1) := by decide +kernel
theorem dX12_liars_112 : decode cX12_liars 112 = .ok (.goto 4, 3) := by decide +kernel
theorem dX12_liars_115 : decode cX12_liars 115 = .ok (.iconst 0, 1) := by decide +kernel
theorem dX12_liars_116 : decode cX12_liars 116 = .ok (.istore 7, 2) := by decide +kernel
theorem dX12_liars_118 : decode cX12_liars 118 = .ok (.iinc 8 1, 3) := by decide +kernel
theorem dX12_liars_121 : decode cX12_liars 121 = .ok (.goto (-54), 3) := by decide +kernel
theorem dX12_liars_124 : decode cX12_liars 124 = .ok (.iload_n 2, 1) := by decide +kernel
theorem dX12_liars_125 : decode cX12_liars 125 = .ok (.iload 7, 2) := by decide +kernel
theorem dX12_liars_127 : decode cX12_liars 127 = .ok (.ifCond .eq 19, 3) := by decide +kernel
theorem dX12_liars_130 : decode cX12_liars 130 = .ok (.aload_n 0, 1) := by decide +kernel
theorem dX12_liars_131 : decode cX12_liars 131 = .ok (.iload_n 3, 1) := by decide +kernel
theorem dX12_liars_132 : decode cX12_liars 132 = .ok (.iconst 4, 1) := by decide +kernel
theorem dX12_liars_133 : decode cX12_liars 133 = .ok (.invokevirtual 85, 3) := by decide +kernel
theorem dX12_liars_136 : decode cX12_liars 136 = .ok (.iconst 1, 1) := by decide +kernel
theorem dX12_liars_137 : decode cX12_liars 137 = .ok (.if_icmp .ne 9, 3) := by decide +kernel
theorem dX12_liars_140 : decode cX12_liars 140 = .ok (.iconst 1, 1) := by decide +kernel
theorem dX12_liars_141 : decode cX12_liars 141 = .ok (.iload_n 3, 1) := by decide +kernel
theorem dX12_liars_142 : decode cX12_liars 142 = .ok (.ishl, 1) := by decide +kernel
theorem dX12_liars_143 : decode cX12_liars 143 = .ok (.goto 4, 3) := by decide +kernel
theorem dX12_liars_146 : decode cX12_liars 146 = .ok (.iconst 0, 1) := by decide +kernel
theorem dX12_liars_147 : decode cX12_liars 147 = .ok (.ior, 1) := by decide +kernel
theorem dX12_liars_148 : decode cX12_liars 148 = .ok (.istore_n 2, 1) := by decide +kernel
theorem dX12_liars_149 : decode cX12_liars 149 = .ok (.iinc 3 1, 3) := by decide +kernel
theorem dX12_liars_152 : decode cX12_liars 152 = .ok (.goto (-143), 3) := by decide +kernel
theorem dX12_liars_155 : decode cX12_liars 155 = .ok (.iload_n 2, 1) := by decide +kernel
theorem dX12_liars_156 : decode cX12_liars 156 = .ok (.ireturn, 1) := by decide +kernel
theorem dX12_power_0 : decode cX12_power 0 = .ok (.aload_n 0, 1) := by decide +kernel
theorem dX12_power_1 : decode cX12_power 1 = .ok (.iload_n 1, 1) := by decide +kernel
theorem dX12_power_2 : decode cX12_power 2 = .ok (.invokevirtual 118, 3) := by decide +kernel
theorem dX12_power_5 : decode cX12_power 5 = .ok (.ifCond .ne 5, 3) := by decide +kernel
theorem dX12_power_8 : decode cX12_power 8 = .ok (.iconst (-1), 1) := by decide +kernel
theorem dX12_power_9 : decode cX12_power 9 = .ok (.ireturn, 1) := by decide +kernel
theorem dX12_power_10 : decode cX12_power 10 = .ok (.aload_n 0, 1) := by decide +kernel
theorem dX12_power_11 : decode cX12_power 11 = .ok (.invokevirtual 132, 3) := by decide +kernel
theorem dX12_power_14 : decode cX12_power 14 = .ok (.iconst 1, 1) := by decide +kernel
theorem dX12_power_15 : decode cX12_power 15 = .ok (.iload_n 1, 1) := by decide +kernel
theorem dX12_power_16 : decode cX12_power 16 = .ok (.ishl, 1) := by decide +kernel
theorem dX12_power_17 : decode cX12_power 17 = .ok (.iconst (-1), 1) := by decide +kernel
theorem dX12_power_18 : decode cX12_power 18 = .ok (.ixor, 1) := by decide +kernel
theorem dX12_power_19 : decode cX12_power 19 = .ok (.iand, 1) := by decide +kernel
theorem dX12_power_20 : decode cX12_power 20 = .ok (.istore_n 2, 1) := by decide +kernel
theorem dX12_power_21 : decode cX12_power 21 = .ok (.iconst 0, 1) := by decide +kernel
theorem dX12_power_22 : decode cX12_power 22 = .ok (.istore_n 3, 1) := by decide +kernel
theorem dX12_power_23 : decode cX12_power 23 = .ok (.iconst 0, 1) := by decide +kernel
theorem dX12_power_24 : decode cX12_power 24 = .ok (.istore 4, 2) := by decide +kernel
theorem dX12_power_26 : decode cX12_power 26 = .ok (.iload 4, 2) := by decide +kernel
theorem dX12_power_28 : decode cX12_power 28 = .ok (.iload_n 2, 1) := by decide +kernel
theorem dX12_power_29 : decode cX12_power 29 = .ok (.if_icmp .gt 131, 3) := by decide +kernel
theorem dX12_power_32 : decode cX12_power 32 = .ok (.aload_n 0, 1) := by decide +kernel
theorem dX12_power_33 : decode cX12_power 33 = .ok (.iload_n 1, 1) := by decide +kernel
theorem dX12_power_34 : decode cX12_power 34 = .ok (.iconst 4, 1) := by decide +kernel
theorem dX12_power_35 : decode cX12_power 35 = .ok (.invokevirtual 85, 3) := by decide +kernel
theorem dX12_power_38 : decode cX12_power 38 = .ok (.iconst 1, 1) := by decide +kernel
theorem dX12_power_39 : decode cX12_power 39 = .ok (.if_icmp .ne 121, 3) := by decide +kernel
theorem dX12_power_42 : decode cX12_power 42 = .ok (.iconst 0, 1) := by decide +kernel
theorem dX12_power_43 : decode cX12_power 43 = .ok (.istore 5, 2) := by decide +kernel
theorem dX12_power_45 : decode cX12_power 45 = .ok (.iconst 0, 1) := by decide +kernel
theorem dX12_power_46 : decode cX12_power 46 = .ok (.istore 6, 2) := by decide +kernel
theorem dX12_power_48 : decode cX12_power 48 = .ok (.iload 6, 2) := by decide +kernel
theorem dX12_power_50 : decode cX12_power 50 = .ok (.aload_n 0, 1) := by decide +kernel
theorem dX12_power_51 : decode cX12_power 51 = .ok (.getfield 9, 3) := by decide +kernel
theorem dX12_power_54 : decode cX12_power 54 = .ok (.iconst 0, 1) := by decide +kernel
theorem dX12_power_55 : decode cX12_power 55 = .ok (.iaload, 1) := by decide +kernel
theorem dX12_power_56 : decode cX12_power 56 = .ok (.if_icmp .ge 42, 3) := by decide +kernel
theorem dX12_power_59 : decode cX12_power 59 = .ok (.iload 5, 2) := by decide +kernel
theorem dX12_power_61 : decode cX12_power 61 = .ok (.iload 4, 2) := by decide +kernel
theorem dX12_power_63 : decode cX12_power 63 = .ok (.iload 6, 2) := by decide +kernel
theorem dX12_power_65 : decode cX12_power 65 = .ok (.ishr, 1) := by decide +kernel
theorem dX12_power_66 : decode cX12_power 66 = .ok (.iconst 1, 1) := by decide +kernel
theorem dX12_power_67 : decode cX12_power 67 = .ok (.iand, 1) := by decide +kernel
theorem dX12_power_68 : decode cX12_power 68 = .ok (.iconst 1, 1) := by decide +kernel
theorem dX12_power_69 : decode cX12_power 69 = .ok (.if_icmp .ne 19, 3) := by decide +kernel
theorem dX12_power_72 : decode cX12_power 72 = .ok (.aload_n 0, 1) := by decide +kernel
theorem dX12_power_73 : decode cX12_power 73 = .ok (.iload 6, 2) := by decide +kernel
theorem dX12_power_75 : decode cX12_power 75 = .ok (.invokevirtual 123, 3) := by decide +kernel
theorem dX12_power_78 : decode cX12_power 78 = .ok (.aload_n 0, 1) := by decide +kernel
theorem dX12_power_79 : decode cX12_power 79 = .ok (.iload 6, 2) := by decide +kernel
theorem dX12_power_81 : decode cX12_power 81 = .ok (.invokevirtual 126, 3) := by decide +kernel
theorem dX12_power_84 : decode cX12_power 84 = .ok (.imul, 1) := by decide +kernel
theorem dX12_power_85 : decode cX12_power 85 = .ok (.goto 4, 3) := by decide +kernel
theorem dX12_power_88 : decode cX12_power 88 = .ok (.iconst 0, 1) := by decide +kernel
theorem dX12_power_89 : decode cX12_power 89 = .ok (.iadd, 1) := by decide +kernel
theorem dX12_power_90 : decode cX12_power 90 = .ok (.istore 5, 2) := by decide +kernel
theorem dX12_power_92 : decode cX12_power 92 = .ok (.iinc 6 1, 3) := by decide +kernel
theorem dX12_power_95 : decode cX12_power 95 = .ok (.goto (-47), 3) := by decide +kernel
theorem dX12_power_98 : decode cX12_power 98 = .ok (.aload_n 0, 1) := by decide +kernel
theorem dX12_power_99 : decode cX12_power 99 = .ok (.iload 5, 2) := by decide +kernel
theorem dX12_power_101 : decode cX12_power 101 = .ok (.invokevirtual 268, 3) := by decide +kernel
theorem dX12_power_104 : decode cX12_power 104 = .ok (.aload_n 0, 1) := by decide +kernel
theorem dX12_power_105 : decode cX12_power 105 = .ok (.iload 5, 2) := by decide +kernel
theorem dX12_power_107 : decode cX12_power 107 = .ok (.aload_n 0, 1) := by decide +kernel
theorem dX12_power_108 : decode cX12_power 108 = .ok (.iload_n 1, 1) := by decide +kernel
theorem dX12_power_109 : decode cX12_power 109 = .ok (.invokevirtual 123, 3) := by decide +kernel
theorem dX12_power_112 : decode cX12_power 112 = .ok (.aload_n 0, 1) := by decide +kernel
theorem dX12_power_113 : decode cX12_power 113 = .ok (.iload_n 1, 1) := by decide +kernel
theorem dX12_power_114 : decode cX12_power 114 = .ok (.invokevirtual 126, 3) := by decide +kernel
theorem dX12_power_117 : decode cX12_power 117 = .ok (.imul, 1) := by decide +kernel
theorem dX12_power_118 : decode cX12_power 118 = .ok (.iadd, 1) := by decide +kernel
theorem dX12_power_119 : decode cX12_power 119 = .ok (.invokevirtual 268, 3) := by decide +kernel
theorem dX12_power_122 : decode cX12_power 122 = .ok (.if_icmp .eq 7, 3) := by decide +kernel
theorem dX12_power_125 : decode cX12_power 125 = .ok (.iconst 1, 1) := by decide +kernel
theorem dX12_power_126 : decode cX12_power 126 = .ok (.goto 4, 3) := by decide +kernel
theorem dX12_power_129 : decode cX12_power 129 = .ok (.iconst 0, 1) := by decide +kernel
theorem dX12_power_130 : decode cX12_power 130 = .ok (.istore 6, 2) := by decide +kernel
theorem dX12_power_132 : decode cX12_power 132 = .ok (.iload_n 3, 1) := by decide +kernel
theorem dX12_power_133 : decode cX12_power 133 = .ok (.iload 4, 2) := by decide +kernel
theorem dX12_power_135 : decode cX12_power 135 = .ok (.iload_n 2, 1) := by decide +kernel
theorem dX12_power_136 : decode cX12_power 136 = .ok (.iconst (-1), 1) := by decide +kernel
theorem dX12_power_137 : decode cX12_power 137 = .ok (.ixor, 1) := by decide +kernel
theorem dX12_power_138 : decode cX12_power 138 = .ok (.iand, 1) := by decide +kernel
theorem dX12_power_139 : decode cX12_power 139 = .ok (.ifCond .ne 12, 3) := by decide +kernel
theorem dX12_power_142 : decode cX12_power 142 = .ok (.iload 6, 2) := by decide +kernel
theorem dX12_power_144 : decode cX12_power 144 = .ok (.ifCond .eq 7, 3) := by decide +kernel
theorem dX12_power_147 : decode cX12_power 147 = .ok (.iconst 1, 1) := by decide +kernel
theorem dX12_power_148 : decode cX12_power 148 = .ok (.goto 4, 3) := by decide +kernel
theorem dX12_power_151 : decode cX12_power 151 = .ok (.iconst 0, 1) := by decide +kernel
