theorem dX0_init_0 : decode cX0_init 0 = .ok (.aload_n 0, 1) := by decide +kernel
theorem dX0_init_1 : decode cX0_init 1 = .ok (.aload_n 1, 1) := by decide +kernel
theorem dX0_init_2 : decode cX0_init 2 = .ok (.invokespecial 1, 3) := by decide +kernel
theorem dX0_init_5 : decode cX0_init 5 = .ok (.return_, 1) := by decide +kernel
theorem dX0_powerOf_0 : decode cX0_powerOf 0 = .ok (.iload_n 1, 1) := by decide +kernel
theorem dX0_powerOf_1 : decode cX0_powerOf 1 = .ok (.iconst 2, 1) := by decide +kernel
theorem dX0_powerOf_2 : decode cX0_powerOf 2 = .ok (.idiv, 1) := by decide +kernel
theorem dX0_powerOf_3 : decode cX0_powerOf 3 = .ok (.ireturn, 1) := by decide +kernel
theorem dX0_shares_0 : decode cX0_shares 0 = .ok (.aload_n 0, 1) := by decide +kernel
theorem dX0_shares_1 : decode cX0_shares 1 = .ok (.getfield 7, 3) := by decide +kernel
theorem dX0_shares_4 : decode cX0_shares 4 = .ok (.bipush 40, 2) := by decide +kernel
theorem dX0_shares_6 : decode cX0_shares 6 = .ok (.invokevirtual 13, 3) := by decide +kernel
theorem dX0_shares_9 : decode cX0_shares 9 = .ok (.aload_n 0, 1) := by decide +kernel
theorem dX0_shares_10 : decode cX0_shares 10 = .ok (.iload_n 1, 1) := by decide +kernel
theorem dX0_shares_11 : decode cX0_shares 11 = .ok (.iconst 3, 1) := by decide +kernel
theorem dX0_shares_12 : decode cX0_shares 12 = .ok (.isub, 1) := by decide +kernel
theorem dX0_shares_13 : decode cX0_shares 13 = .ok (.invokespecial 19, 3) := by decide +kernel
theorem dX0_shares_16 : decode cX0_shares 16 = .ok (.ireturn, 1) := by decide +kernel
theorem dX1_init_0 : decode cX1_init 0 = .ok (.aload_n 0, 1) := by decide +kernel
theorem dX1_init_1 : decode cX1_init 1 = .ok (.aload_n 1, 1) := by decide +kernel
theorem dX1_init_2 : decode cX1_init 2 = .ok (.invokespecial 1, 3) := by decide +kernel
theorem dX1_init_5 : decode cX1_init 5 = .ok (.return_, 1) := by decide +kernel
theorem dX1_powerOf_0 : decode cX1_powerOf 0 = .ok (.iload_n 2, 1) := by decide +kernel
theorem dX1_powerOf_1 : decode cX1_powerOf 1 = .ok (.bipush 12, 2) := by decide +kernel
theorem dX1_powerOf_3 : decode cX1_powerOf 3 = .ok (.if_icmp .lt 9, 3) := by decide +kernel
theorem dX1_powerOf_6 : decode cX1_powerOf 6 = .ok (.iload_n 1, 1) := by decide +kernel
theorem dX1_powerOf_7 : decode cX1_powerOf 7 = .ok (.iconst 2, 1) := by decide +kernel
theorem dX1_powerOf_8 : decode cX1_powerOf 8 = .ok (.iadd, 1) := by decide +kernel
theorem dX1_powerOf_9 : decode cX1_powerOf 9 = .ok (.goto 4, 3) := by decide +kernel
theorem dX1_powerOf_12 : decode cX1_powerOf 12 = .ok (.iload_n 1, 1) := by decide +kernel
theorem dX1_powerOf_13 : decode cX1_powerOf 13 = .ok (.ireturn, 1) := by decide +kernel
theorem dX1_sways_0 : decode cX1_sways 0 = .ok (.aload_n 0, 1) := by decide +kernel
theorem dX1_sways_1 : decode cX1_sways 1 = .ok (.getfield 7, 3) := by decide +kernel
theorem dX1_sways_4 : decode cX1_sways 4 = .ok (.bipush 30, 2) := by decide +kernel
theorem dX1_sways_6 : decode cX1_sways 6 = .ok (.invokevirtual 13, 3) := by decide +kernel
theorem dX1_sways_9 : decode cX1_sways 9 = .ok (.aload_n 0, 1) := by decide +kernel
theorem dX1_sways_10 : decode cX1_sways 10 = .ok (.iload_n 1, 1) := by decide +kernel
theorem dX1_sways_11 : decode cX1_sways 11 = .ok (.invokespecial 19, 3) := by decide +kernel
theorem dX1_sways_14 : decode cX1_sways 14 = .ok (.aload_n 0, 1) := by decide +kernel
theorem dX1_sways_15 : decode cX1_sways 15 = .ok (.getfield 23, 3) := by decide +kernel
theorem dX1_sways_18 : decode cX1_sways 18 = .ok (.ixor, 1) := by decide +kernel
theorem dX1_sways_19 : decode cX1_sways 19 = .ok (.ireturn, 1) := by decide +kernel
theorem dX2_init_0 : decode cX2_init 0 = .ok (.aload_n 0, 1) := by decide +kernel
theorem dX2_init_1 : decode cX2_init 1 = .ok (.invokespecial 3, 3) := by decide +kernel
theorem dX2_init_4 : decode cX2_init 4 = .ok (.aload_n 0, 1) := by decide +kernel
theorem dX2_init_5 : decode cX2_init 5 = .ok (.iconst 4, 1) := by decide +kernel
theorem dX2_init_6 : decode cX2_init 6 = .ok (.newarray .int, 2) := by decide +kernel
theorem dX2_init_8 : decode cX2_init 8 = .ok (.dup, 1) := by decide +kernel
theorem dX2_init_9 : decode cX2_init 9 = .ok (.iconst 0, 1) := by decide +kernel
theorem dX2_init_10 : decode cX2_init 10 = .ok (.iconst (-1), 1) := by decide +kernel
theorem dX2_init_11 : decode cX2_init 11 = .ok (.iastore, 1) := by decide +kernel
theorem dX2_init_12 : decode cX2_init 12 = .ok (.dup, 1) := by decide +kernel
theorem dX2_init_13 : decode cX2_init 13 = .ok (.iconst 1, 1) := by decide +kernel
theorem dX2_init_14 : decode cX2_init 14 = .ok (.iconst (-1), 1) := by decide +kernel
theorem dX2_init_15 : decode cX2_init 15 = .ok (.iastore, 1) := by decide +kernel
theorem dX2_init_16 : decode cX2_init 16 = .ok (.dup, 1) := by decide +kernel
theorem dX2_init_17 : decode cX2_init 17 = .ok (.iconst 2, 1) := by decide +kernel
theorem dX2_init_18 : decode cX2_init 18 = .ok (.iconst (-1), 1) := by decide +kernel
theorem dX2_init_19 : decode cX2_init 19 = .ok (.iastore, 1) := by decide +kernel
theorem dX2_init_20 : decode cX2_init 20 = .ok (.dup, 1) := by decide +kernel
theorem dX2_init_21 : decode cX2_init 21 = .ok (.iconst 3, 1) := by decide +kernel
theorem dX2_init_22 : decode cX2_init 22 = .ok (.iconst (-1), 1) := by decide +kernel
theorem dX2_init_23 : decode cX2_init 23 = .ok (.iastore, 1) := by decide +kernel
theorem dX2_init_24 : decode cX2_init 24 = .ok (.putfield 9, 3) := by decide +kernel
theorem dX2_init_27 : decode cX2_init 27 = .ok (.aload_n 0, 1) := by decide +kernel
theorem dX2_init_28 : decode cX2_init 28 = .ok (.iconst 4, 1) := by decide +kernel
theorem dX2_init_29 : decode cX2_init 29 = .ok (.newarray .int, 2) := by decide +kernel
theorem dX2_init_31 : decode cX2_init 31 = .ok (.dup, 1) := by decide +kernel
theorem dX2_init_32 : decode cX2_init 32 = .ok (.iconst 0, 1) := by decide +kernel
theorem dX2_init_33 : decode cX2_init 33 = .ok (.iconst 2, 1) := by decide +kernel
theorem dX2_init_34 : decode cX2_init 34 = .ok (.iastore, 1) := by decide +kernel
theorem dX2_init_35 : decode cX2_init 35 = .ok (.dup, 1) := by decide +kernel
theorem dX2_init_36 : decode cX2_init 36 = .ok (.iconst 1, 1) := by decide +kernel
theorem dX2_init_37 : decode cX2_init 37 = .ok (.iconst 2, 1) := by decide +kernel
theorem dX2_init_38 : decode cX2_init 38 = .ok (.iastore, 1) := by decide +kernel
theorem dX2_init_39 : decode cX2_init 39 = .ok (.dup, 1) := by decide +kernel
theorem dX2_init_40 : decode cX2_init 40 = .ok (.iconst 2, 1) := by decide +kernel
theorem dX2_init_41 : decode cX2_init 41 = .ok (.iconst 2, 1) := by decide +kernel
theorem dX2_init_42 : decode cX2_init 42 = .ok (.iastore, 1) := by decide +kernel
theorem dX2_init_43 : decode cX2_init 43 = .ok (.dup, 1) := by decide +kernel
theorem dX2_init_44 : decode cX2_init 44 = .ok (.iconst 3, 1) := by decide +kernel
theorem dX2_init_45 : decode cX2_init 45 = .ok (.iconst 2, 1) := by decide +kernel
theorem dX2_init_46 : decode cX2_init 46 = .ok (.iastore, 1) := by decide +kernel
theorem dX2_init_47 : decode cX2_init 47 = .ok (.putfield 15, 3) := by decide +kernel
theorem dX2_init_50 : decode cX2_init 50 = .ok (.aload_n 0, 1) := by decide +kernel
theorem dX2_init_51 : decode cX2_init 51 = .ok (.iconst 4, 1) := by decide +kernel
theorem dX2_init_52 : decode cX2_init 52 = .ok (.newarray .int, 2) := by decide +kernel
theorem dX2_init_54 : decode cX2_init 54 = .ok (.putfield 18, 3) := by decide +kernel
theorem dX2_init_57 : decode cX2_init 57 = .ok (.aload_n 0, 1) := by decide +kernel
theorem dX2_init_58 : decode cX2_init 58 = .ok (.iconst 4, 1) := by decide +kernel
theorem dX2_init_59 : decode cX2_init 59 = .ok (.newarray .int, 2) := by decide +kernel
theorem dX2_init_61 : decode cX2_init 61 = .ok (.putfield 21, 3) := by decide +kernel
theorem dX2_init_64 : decode cX2_init 64 = .ok (.aload_n 0, 1) := by decide +kernel
theorem dX2_init_65 : decode cX2_init 65 = .ok (.iconst 4, 1) := by decide +kernel
theorem dX2_init_66 : decode cX2_init 66 = .ok (.newarray .int, 2) := by decide +kernel
theorem dX2_init_68 : decode cX2_init 68 = .ok (.putfield 24, 3) := by decide +kernel
theorem dX2_init_71 : decode cX2_init 71 = .ok (.aload_n 0, 1) := by decide +kernel
theorem dX2_init_72 : decode cX2_init 72 = .ok (.sipush 160, 3) := by decide +kernel
theorem dX2_init_75 : decode cX2_init 75 = .ok (.newarray .int, 2) := by decide +kernel
theorem dX2_init_77 : decode cX2_init 77 = .ok (.putfield 27, 3) := by decide +kernel
theorem dX2_init_80 : decode cX2_init 80 = .ok (.return_, 1) := by decide +kernel
theorem dX2_lay_0 : decode cX2_lay 0 = .ok (.aload_n 0, 1) := by decide +kernel
theorem dX2_lay_1 : decode cX2_lay 1 = .ok (.getfield 9, 3) := by decide +kernel
theorem dX2_lay_4 : decode cX2_lay 4 = .ok (.iload_n 1, 1) := by decide +kernel
theorem dX2_lay_5 : decode cX2_lay 5 = .ok (.iload_n 2, 1) := by decide +kernel
theorem dX2_lay_6 : decode cX2_lay 6 = .ok (.iastore, 1) := by decide +kernel
theorem dX2_lay_7 : decode cX2_lay 7 = .ok (.aload_n 0, 1) := by decide +kernel
theorem dX2_lay_8 : decode cX2_lay 8 = .ok (.getfield 24, 3) := by decide +kernel
theorem dX2_lay_11 : decode cX2_lay 11 = .ok (.iload_n 1, 1) := by decide +kernel
theorem dX2_lay_12 : decode cX2_lay 12 = .ok (.iload_n 3, 1) := by decide +kernel
theorem dX2_lay_13 : decode cX2_lay 13 = .ok (.iastore, 1) := by decide +kernel
theorem dX2_lay_14 : decode cX2_lay 14 = .ok (.iconst 0, 1) := by decide +kernel
theorem dX2_lay_15 : decode cX2_lay 15 = .ok (.istore 4, 2) := by decide +kernel
theorem dX2_lay_17 : decode cX2_lay 17 = .ok (.iload 4, 2) := by decide +kernel
theorem dX2_lay_19 : decode cX2_lay 19 = .ok (.iload_n 3, 1) := by decide +kernel
theorem dX2_lay_20 : decode cX2_lay 20 = .ok (.if_icmp .ge 22, 3) := by decide +kernel
theorem dX2_lay_23 : decode cX2_lay 23 = .ok (.aload_n 0, 1) := by decide +kernel
theorem dX2_lay_24 : decode cX2_lay 24 = .ok (.getfield 27, 3) := by decide +kernel
theorem dX2_lay_27 : decode cX2_lay 27 = .ok (.iload_n 1, 1) := by decide +kernel
theorem dX2_lay_28 : decode cX2_lay 28 = .ok (.bipush 40, 2) := by decide +kernel
theorem dX2_lay_30 : decode cX2_lay 30 = .ok (.imul, 1) := by decide +kernel
theorem dX2_lay_31 : decode cX2_lay 31 = .ok (.iload 4, 2) := by decide +kernel
theorem dX2_lay_33 : decode cX2_lay 33 = .ok (.iadd, 1) := by decide +kernel
theorem dX2_lay_34 : decode cX2_lay 34 = .ok (.iconst 0, 1) := by decide +kernel
theorem dX2_lay_35 : decode cX2_lay 35 = .ok (.iastore, 1) := by decide +kernel
theorem dX2_lay_36 : decode cX2_lay 36 = .ok (.iinc 4 1, 3) := by decide +kernel
theorem dX2_lay_39 : decode cX2_lay 39 = .ok (.goto (-22), 3) := by decide +kernel
theorem dX2_lay_42 : decode cX2_lay 42 = .ok (.return_, 1) := by decide +kernel
theorem dX2_hasItem_0 : decode cX2_hasItem 0 = .ok (.iload_n 2, 1) := by decide +kernel
theorem dX2_hasItem_1 : decode cX2_hasItem 1 = .ok (.ifCond .lt 17, 3) := by decide +kernel
theorem dX2_hasItem_4 : decode cX2_hasItem 4 = .ok (.iload_n 2, 1) := by decide +kernel
theorem dX2_hasItem_5 : decode cX2_hasItem 5 = .ok (.aload_n 0, 1) := by decide +kernel
theorem dX2_hasItem_6 : decode cX2_hasItem 6 = .ok (.getfield 24, 3) := by decide +kernel
theorem dX2_hasItem_9 : decode cX2_hasItem 9 = .ok (.iload_n 1, 1) := by decide +kernel
theorem dX2_hasItem_10 : decode cX2_hasItem 10 = .ok (.iaload, 1) := by decide +kernel
theorem dX2_hasItem_11 : decode cX2_hasItem 11 = .ok (.if_icmp .ge 7, 3) := by decide +kernel
theorem dX2_hasItem_14 : decode cX2_hasItem 14 = .ok (.iconst 1, 1) := by decide +kernel
theorem dX2_hasItem_15 : decode cX2_hasItem 15 = .ok (.goto 4, 3) := by decide +kernel
theorem dX2_hasItem_18 : decode cX2_hasItem 18 = .ok (.iconst 0, 1) := by decide +kernel
theorem dX2_hasItem_19 : decode cX2_hasItem 19 = .ok (.ireturn, 1) := by decide +kernel
theorem dX2_get_0 : decode cX2_get 0 = .ok (.aload_n 0, 1) := by decide +kernel
theorem dX2_get_1 : decode cX2_get 1 = .ok (.getfield 27, 3) := by decide +kernel
theorem dX2_get_4 : decode cX2_get 4 = .ok (.iload_n 1, 1) := by decide +kernel
theorem dX2_get_5 : decode cX2_get 5 = .ok (.bipush 40, 2) := by decide +kernel
theorem dX2_get_7 : decode cX2_get 7 = .ok (.imul, 1) := by decide +kernel
theorem dX2_get_8 : decode cX2_get 8 = .ok (.iload_n 2, 1) := by decide +kernel
theorem dX2_get_9 : decode cX2_get 9 = .ok (.iadd, 1) := by decide +kernel
theorem dX2_get_10 : decode cX2_get 10 = .ok (.iaload, 1) := by decide +kernel
theorem dX2_get_11 : decode cX2_get 11 = .ok (.ireturn, 1) := by decide +kernel
theorem dX2_set_0 : decode cX2_set 0 = .ok (.iload_n 3, 1) := by decide +kernel
theorem dX2_set_1 : decode cX2_set 1 = .ok (.istore 4, 2) := by decide +kernel
theorem dX2_set_3 : decode cX2_set 3 = .ok (.aload_n 0, 1) := by decide +kernel
theorem dX2_set_4 : decode cX2_set 4 = .ok (.getfield 9, 3) := by decide +kernel
theorem dX2_set_7 : decode cX2_set 7 = .ok (.iload_n 1, 1) := by decide +kernel
theorem dX2_set_8 : decode cX2_set 8 = .ok (.iaload, 1) := by decide +kernel
theorem dX2_set_9 : decode cX2_set 9 = .ok (.ifCond .ne 10, 3) := by decide +kernel
theorem dX2_set_12 : decode cX2_set 12 = .ok (.iload_n 3, 1) := by decide +kernel
theorem dX2_set_13 : decode cX2_set 13 = .ok (.i2b, 1) := by decide +kernel
theorem dX2_set_14 : decode cX2_set 14 = .ok (.istore 4, 2) := by decide +kernel
theorem dX2_set_16 : decode cX2_set 16 = .ok (.goto 41, 3) := by decide +kernel
theorem dX2_set_19 : decode cX2_set 19 = .ok (.aload_n 0, 1) := by decide +kernel
theorem dX2_set_20 : decode cX2_set 20 = .ok (.getfield 9, 3) := by decide +kernel
theorem dX2_set_23 : decode cX2_set 23 = .ok (.iload_n 1, 1) := by decide +kernel
theorem dX2_set_24 : decode cX2_set 24 = .ok (.iaload, 1) := by decide +kernel
theorem dX2_set_25 : decode cX2_set 25 = .ok (.iconst 1, 1) := by decide +kernel
theorem dX2_set_26 : decode cX2_set 26 = .ok (.if_icmp .ne 10, 3) := by decide +kernel
theorem dX2_set_29 : decode cX2_set 29 = .ok (.iload_n 3, 1) := by decide +kernel
theorem dX2_set_30 : decode cX2_set 30 = .ok (.i2s, 1) := by decide +kernel
theorem dX2_set_31 : decode cX2_set 31 = .ok (.istore 4, 2) := by decide +kernel
theorem dX2_set_33 : decode cX2_set 33 = .ok (.goto 24, 3) := by decide +kernel
theorem dX2_set_36 : decode cX2_set 36 = .ok (.aload_n 0, 1) := by decide +kernel
theorem dX2_set_37 : decode cX2_set 37 = .ok (.getfield 9, 3) := by decide +kernel
theorem dX2_set_40 : decode cX2_set 40 = .ok (.iload_n 1, 1) := by decide +kernel
theorem dX2_set_41 : decode cX2_set 41 = .ok (.iaload, 1) := by decide +kernel
theorem dX2_set_42 : decode cX2_set 42 = .ok (.iconst 4, 1) := by decide +kernel
theorem dX2_set_43 : decode cX2_set 43 = .ok (.if_icmp .ne 14, 3) := by decide +kernel
theorem dX2_set_46 : decode cX2_set 46 = .ok (.iload_n 3, 1) := by decide +kernel
theorem dX2_set_47 : decode cX2_set 47 = .ok (.ifCond .eq 7, 3) := by decide +kernel
theorem dX2_set_50 : decode cX2_set 50 = .ok (.iconst 1, 1) := by decide +kernel
theorem dX2_set_51 : decode cX2_set 51 = .ok (.goto 4, 3) := by decide +kernel
theorem dX2_set_54 : decode cX2_set 54 = .ok (.iconst 0, 1) := by decide +kernel
theorem dX2_set_55 : decode cX2_set 55 = .ok (.istore 4, 2) := by decide +kernel
theorem dX2_set_57 : decode cX2_set 57 = .ok (.aload_n 0, 1) := by decide +kernel
theorem dX2_set_58 : decode cX2_set 58 = .ok (.getfield 27, 3) := by decide +kernel
theorem dX2_set_61 : decode cX2_set 61 = .ok (.iload_n 1, 1) := by decide +kernel
theorem dX2_set_62 : decode cX2_set 62 = .ok (.bipush 40, 2) := by decide +kernel
theorem dX2_set_64 : decode cX2_set 64 = .ok (.imul, 1) := by decide +kernel
theorem dX2_set_65 : decode cX2_set 65 = .ok (.iload_n 2, 1) := by decide +kernel
theorem dX2_set_66 : decode cX2_set 66 = .ok (.iadd, 1) := by decide +kernel
theorem dX2_set_67 : decode cX2_set 67 = .ok (.iload 4, 2) := by decide +kernel
theorem dX2_set_69 : decode cX2_set 69 = .ok (.iastore, 1) := by decide +kernel
theorem dX2_set_70 : decode cX2_set 70 = .ok (.return_, 1) := by decide +kernel
theorem dX2_refusalAs_0 : decode cX2_refusalAs 0 = .ok (.aload_n 0, 1) := by decide +kernel
theorem dX2_refusalAs_1 : decode cX2_refusalAs 1 = .ok (.getfield 9, 3) := by decide +kernel
theorem dX2_refusalAs_4 : decode cX2_refusalAs 4 = .ok (.iload_n 1, 1) := by decide +kernel
theorem dX2_refusalAs_5 : decode cX2_refusalAs 5 = .ok (.iaload, 1) := by decide +kernel
theorem dX2_refusalAs_6 : decode cX2_refusalAs 6 = .ok (.iconst (-1), 1) := by decide +kernel
theorem dX2_refusalAs_7 : decode cX2_refusalAs 7 = .ok (.if_icmp .ne 8, 3) := by decide +kernel
theorem dX2_refusalAs_10 : decode cX2_refusalAs 10 = .ok (.bipush (-11), 2) := by decide +kernel
theorem dX2_refusalAs_12 : decode cX2_refusalAs 12 = .ok (.goto 19, 3) := by decide +kernel
theorem dX2_refusalAs_15 : decode cX2_refusalAs 15 = .ok (.aload_n 0, 1) := by decide +kernel
theorem dX2_refusalAs_16 : decode cX2_refusalAs 16 = .ok (.getfield 9, 3) := by decide +kernel
theorem dX2_refusalAs_19 : decode cX2_refusalAs 19 = .ok (.iload_n 1, 1) := by decide +kernel
theorem dX2_refusalAs_20 : decode cX2_refusalAs 20 = .ok (.iaload, 1) := by decide +kernel
theorem dX2_refusalAs_21 : decode cX2_refusalAs 21 = .ok (.iload_n 2, 1) := by decide +kernel
theorem dX2_refusalAs_22 : decode cX2_refusalAs 22 = .ok (.if_icmp .ne 7, 3) := by decide +kernel
theorem dX2_refusalAs_25 : decode cX2_refusalAs 25 = .ok (.iconst 0, 1) := by decide +kernel
theorem dX2_refusalAs_26 : decode cX2_refusalAs 26 = .ok (.goto 5, 3) := by decide +kernel
theorem dX2_refusalAs_29 : decode cX2_refusalAs 29 = .ok (.bipush (-13), 2) := by decide +kernel
theorem dX2_refusalAs_31 : decode cX2_refusalAs 31 = .ok (.ireturn, 1) := by decide +kernel
theorem dX2_holdVoter_0 : decode cX2_holdVoter 0 = .ok (.aload_n 0, 1) := by decide +kernel
theorem dX2_holdVoter_1 : decode cX2_holdVoter 1 = .ok (.getfield 15, 3) := by decide +kernel
theorem dX2_holdVoter_4 : decode cX2_holdVoter 4 = .ok (.iload_n 1, 1) := by decide +kernel
theorem dX2_holdVoter_5 : decode cX2_holdVoter 5 = .ok (.iconst 0, 1) := by decide +kernel
theorem dX2_holdVoter_6 : decode cX2_holdVoter 6 = .ok (.iastore, 1) := by decide +kernel
theorem dX2_holdVoter_7 : decode cX2_holdVoter 7 = .ok (.aload_n 0, 1) := by decide +kernel
theorem dX2_holdVoter_8 : decode cX2_holdVoter 8 = .ok (.getfield 21, 3) := by decide +kernel
theorem dX2_holdVoter_11 : decode cX2_holdVoter 11 = .ok (.iload_n 1, 1) := by decide +kernel
theorem dX2_holdVoter_12 : decode cX2_holdVoter 12 = .ok (.iload_n 2, 1) := by decide +kernel
theorem dX2_holdVoter_13 : decode cX2_holdVoter 13 = .ok (.iastore, 1) := by decide +kernel
theorem dX2_holdVoter_14 : decode cX2_holdVoter 14 = .ok (.return_, 1) := by decide +kernel
theorem dX2_holdRow_0 : decode cX2_holdRow 0 = .ok (.aload_n 0, 1) := by decide +kernel
theorem dX2_holdRow_1 : decode cX2_holdRow 1 = .ok (.getfield 15, 3) := by decide +kernel
theorem dX2_holdRow_4 : decode cX2_holdRow 4 = .ok (.iload_n 1, 1) := by decide +kernel
theorem dX2_holdRow_5 : decode cX2_holdRow 5 = .ok (.aload_n 0, 1) := by decide +kernel
theorem dX2_holdRow_6 : decode cX2_holdRow 6 = .ok (.getfield 9, 3) := by decide +kernel
theorem dX2_holdRow_9 : decode cX2_holdRow 9 = .ok (.iload_n 2, 1) := by decide +kernel
theorem dX2_holdRow_10 : decode cX2_holdRow 10 = .ok (.iaload, 1) := by decide +kernel
theorem dX2_holdRow_11 : decode cX2_holdRow 11 = .ok (.iconst (-1), 1) := by decide +kernel
theorem dX2_holdRow_12 : decode cX2_holdRow 12 = .ok (.if_icmp .ne 7, 3) := by decide +kernel
theorem dX2_holdRow_15 : decode cX2_holdRow 15 = .ok (.iconst 2, 1) := by decide +kernel
theorem dX2_holdRow_16 : decode cX2_holdRow 16 = .ok (.goto 4, 3) := by decide +kernel
theorem dX2_holdRow_19 : decode cX2_holdRow 19 = .ok (.iconst 1, 1) := by decide +kernel
theorem dX2_holdRow_20 : decode cX2_holdRow 20 = .ok (.iastore, 1) := by decide +kernel
theorem dX2_holdRow_21 : decode cX2_holdRow 21 = .ok (.aload_n 0, 1) := by decide +kernel
theorem dX2_holdRow_22 : decode cX2_holdRow 22 = .ok (.getfield 18, 3) := by decide +kernel
theorem dX2_holdRow_25 : decode cX2_holdRow 25 = .ok (.iload_n 1, 1) := by decide +kernel
theorem dX2_holdRow_26 : decode cX2_holdRow 26 = .ok (.aload_n 0, 1) := by decide +kernel
theorem dX2_holdRow_27 : decode cX2_holdRow 27 = .ok (.getfield 9, 3) := by decide +kernel
theorem dX2_holdRow_30 : decode cX2_holdRow 30 = .ok (.iload_n 2, 1) := by decide +kernel
theorem dX2_holdRow_31 : decode cX2_holdRow 31 = .ok (.iaload, 1) := by decide +kernel
theorem dX2_holdRow_32 : decode cX2_holdRow 32 = .ok (.iastore, 1) := by decide +kernel
theorem dX2_holdRow_33 : decode cX2_holdRow 33 = .ok (.aload_n 0, 1) := by decide +kernel
theorem dX2_holdRow_34 : decode cX2_holdRow 34 = .ok (.getfield 21, 3) := by decide +kernel
theorem dX2_holdRow_37 : decode cX2_holdRow 37 = .ok (.iload_n 1, 1) := by decide +kernel
theorem dX2_holdRow_38 : decode cX2_holdRow 38 = .ok (.aload_n 0, 1) := by decide +kernel
theorem dX2_holdRow_39 : decode cX2_holdRow 39 = .ok (.getfield 24, 3) := by decide +kernel
theorem dX2_holdRow_42 : decode cX2_holdRow 42 = .ok (.iload_n 2, 1) := by decide +kernel
theorem dX2_holdRow_43 : decode cX2_holdRow 43 = .ok (.iaload, 1) := by decide +kernel
theorem dX2_holdRow_44 : decode cX2_holdRow 44 = .ok (.iastore, 1) := by decide +kernel
theorem dX2_holdRow_45 : decode cX2_holdRow 45 = .ok (.return_, 1) := by decide +kernel
theorem dX2_holdNothing_0 : decode cX2_holdNothing 0 = .ok (.aload_n 0, 1) := by decide +kernel
theorem dX2_holdNothing_1 : decode cX2_holdNothing 1 = .ok (.getfield 15, 3) := by decide +kernel
theorem dX2_holdNothing_4 : decode cX2_holdNothing 4 = .ok (.iload_n 1, 1) := by decide +kernel
theorem dX2_holdNothing_5 : decode cX2_holdNothing 5 = .ok (.iconst 2, 1) := by decide +kernel
theorem dX2_holdNothing_6 : decode cX2_holdNothing 6 = .ok (.iastore, 1) := by decide +kernel
theorem dX2_holdNothing_7 : decode cX2_holdNothing 7 = .ok (.return_, 1) := by decide +kernel
theorem dX3_init_0 : decode cX3_init 0 = .ok (.aload_n 0, 1) := by decide +kernel
theorem dX3_init_1 : decode cX3_init 1 = .ok (.aload_n 1, 1) := by decide +kernel
theorem dX3_init_2 : decode cX3_init 2 = .ok (.invokespecial 1, 3) := by decide +kernel
theorem dX3_init_5 : decode cX3_init 5 = .ok (.return_, 1) := by decide +kernel
theorem dX3_wishes_0 : decode cX3_wishes 0 = .ok (.aload_n 0, 1) := by decide +kernel
theorem dX3_wishes_1 : decode cX3_wishes 1 = .ok (.getfield 7, 3) := by decide +kernel
theorem dX3_wishes_4 : decode cX3_wishes 4 = .ok (.bipush 20, 2) := by decide +kernel
theorem dX3_wishes_6 : decode cX3_wishes 6 = .ok (.invokevirtual 13, 3) := by decide +kernel
theorem dX3_wishes_9 : decode cX3_wishes 9 = .ok (.aload_n 0, 1) := by decide +kernel
theorem dX3_wishes_10 : decode cX3_wishes 10 = .ok (.iload_n 1, 1) := by decide +kernel
theorem dX3_wishes_11 : decode cX3_wishes 11 = .ok (.invokespecial 19, 3) := by decide +kernel
theorem dX3_wishes_14 : decode cX3_wishes 14 = .ok (.iconst 2, 1) := by decide +kernel
theorem dX3_wishes_15 : decode cX3_wishes 15 = .ok (.imul, 1) := by decide +kernel
theorem dX3_wishes_16 : decode cX3_wishes 16 = .ok (.ireturn, 1) := by decide +kernel
theorem dX4_init_0 : decode cX4_init 0 = .ok (.aload_n 0, 1) := by decide +kernel
theorem dX4_init_1 : decode cX4_init 1 = .ok (.invokespecial 3, 3) := by decide +kernel
theorem dX4_init_4 : decode cX4_init 4 = .ok (.aload_n 0, 1) := by decide +kernel
theorem dX4_init_5 : decode cX4_init 5 = .ok (.bipush 7, 2) := by decide +kernel
theorem dX4_init_7 : decode cX4_init 7 = .ok (.newarray .int, 2) := by decide +kernel
theorem dX4_init_9 : decode cX4_init 9 = .ok (.putfield 9, 3) := by decide +kernel
theorem dX4_init_12 : decode cX4_init 12 = .ok (.aload_n 0, 1) := by decide +kernel
theorem dX4_init_13 : decode cX4_init 13 = .ok (.bipush 7, 2) := by decide +kernel
theorem dX4_init_15 : decode cX4_init 15 = .ok (.newarray .int, 2) := by decide +kernel
theorem dX4_init_17 : decode cX4_init 17 = .ok (.putfield 15, 3) := by decide +kernel
theorem dX4_init_20 : decode cX4_init 20 = .ok (.aload_n 0, 1) := by decide +kernel
theorem dX4_init_21 : decode cX4_init 21 = .ok (.bipush 7, 2) := by decide +kernel
theorem dX4_init_23 : decode cX4_init 23 = .ok (.newarray .int, 2) := by decide +kernel
theorem dX4_init_25 : decode cX4_init 25 = .ok (.putfield 18, 3) := by decide +kernel
theorem dX4_init_28 : decode cX4_init 28 = .ok (.aload_n 0, 1) := by decide +kernel
theorem dX4_init_29 : decode cX4_init 29 = .ok (.bipush 7, 2) := by decide +kernel
theorem dX4_init_31 : decode cX4_init 31 = .ok (.newarray .int, 2) := by decide +kernel
theorem dX4_init_33 : decode cX4_init 33 = .ok (.putfield 21, 3) := by decide +kernel
theorem dX4_init_36 : decode cX4_init 36 = .ok (.aload_n 0, 1) := by decide +kernel
theorem dX4_init_37 : decode cX4_init 37 = .ok (.iconst 1, 1) := by decide +kernel
theorem dX4_init_38 : decode cX4_init 38 = .ok (.putfield 24, 3) := by decide +kernel
theorem dX4_init_41 : decode cX4_init 41 = .ok (.aload_n 0, 1) := by decide +kernel
theorem dX4_init_42 : decode cX4_init 42 = .ok (.bipush 6, 2) := by decide +kernel
theorem dX4_init_44 : decode cX4_init 44 = .ok (.newarray .int, 2) := by decide +kernel
theorem dX4_init_46 : decode cX4_init 46 = .ok (.putfield 28, 3) := by decide +kernel
theorem dX4_init_49 : decode cX4_init 49 = .ok (.aload_n 0, 1) := by decide +kernel
theorem dX4_init_50 : decode cX4_init 50 = .ok (.bipush 6, 2) := by decide +kernel
theorem dX4_init_52 : decode cX4_init 52 = .ok (.newarray .int, 2) := by decide +kernel
theorem dX4_init_54 : decode cX4_init 54 = .ok (.putfield 31, 3) := by decide +kernel
theorem dX4_init_57 : decode cX4_init 57 = .ok (.aload_n 0, 1) := by decide +kernel
theorem dX4_init_58 : decode cX4_init 58 = .ok (.new 34, 3) := by decide +kernel
theorem dX4_init_61 : decode cX4_init 61 = .ok (.dup, 1) := by decide +kernel
theorem dX4_init_62 : decode cX4_init 62 = .ok (.invokespecial 36, 3) := by decide +kernel
theorem dX4_init_65 : decode cX4_init 65 = .ok (.putfield 37, 3) := by decide +kernel
theorem dX4_init_68 : decode cX4_init 68 = .ok (.return_, 1) := by decide +kernel
theorem dX4_goOn_0 : decode cX4_goOn 0 = .ok (.aload_n 0, 1) := by decide +kernel
theorem dX4_goOn_1 : decode cX4_goOn 1 = .ok (.aload_n 0, 1) := by decide +kernel
theorem dX4_goOn_2 : decode cX4_goOn 2 = .ok (.getfield 41, 3) := by decide +kernel
theorem dX4_goOn_5 : decode cX4_goOn 5 = .ok (.iload_n 1, 1) := by decide +kernel
theorem dX4_goOn_6 : decode cX4_goOn 6 = .ok (.invokestatic 44, 3) := by decide +kernel
theorem dX4_goOn_9 : decode cX4_goOn 9 = .ok (.putfield 41, 3) := by decide +kernel
theorem dX4_goOn_12 : decode cX4_goOn 12 = .ok (.aload_n 0, 1) := by decide +kernel
theorem dX4_goOn_13 : decode cX4_goOn 13 = .ok (.aload_n 0, 1) := by decide +kernel
theorem dX4_goOn_14 : decode cX4_goOn 14 = .ok (.getfield 48, 3) := by decide +kernel
theorem dX4_goOn_17 : decode cX4_goOn 17 = .ok (.iload_n 1, 1) := by decide +kernel
theorem dX4_goOn_18 : decode cX4_goOn 18 = .ok (.invokestatic 44, 3) := by decide +kernel
theorem dX4_goOn_21 : decode cX4_goOn 21 = .ok (.putfield 48, 3) := by decide +kernel
theorem dX4_goOn_24 : decode cX4_goOn 24 = .ok (.aload_n 0, 1) := by decide +kernel
theorem dX4_goOn_25 : decode cX4_goOn 25 = .ok (.dup, 1) := by decide +kernel
theorem dX4_goOn_26 : decode cX4_goOn 26 = .ok (.getfield 51, 3) := by decide +kernel
theorem dX4_goOn_29 : decode cX4_goOn 29 = .ok (.iconst 1, 1) := by decide +kernel
theorem dX4_goOn_30 : decode cX4_goOn 30 = .ok (.iadd, 1) := by decide +kernel
theorem dX4_goOn_31 : decode cX4_goOn 31 = .ok (.putfield 51, 3) := by decide +kernel
theorem dX4_goOn_34 : decode cX4_goOn 34 = .ok (.aload_n 0, 1) := by decide +kernel
theorem dX4_goOn_35 : decode cX4_goOn 35 = .ok (.getfield 41, 3) := by decide +kernel
theorem dX4_goOn_38 : decode cX4_goOn 38 = .ok (.ireturn, 1) := by decide +kernel
theorem dX4_draws_0 : decode cX4_draws 0 = .ok (.aload_n 0, 1) := by decide +kernel
theorem dX4_draws_1 : decode cX4_draws 1 = .ok (.aload_n 0, 1) := by decide +kernel
theorem dX4_draws_2 : decode cX4_draws 2 = .ok (.getfield 24, 3) := by decide +kernel
theorem dX4_draws_5 : decode cX4_draws 5 = .ok (.ldc 54, 2) := by decide +kernel
theorem dX4_draws_7 : decode cX4_draws 7 = .ok (.imul, 1) := by decide +kernel
theorem dX4_draws_8 : decode cX4_draws 8 = .ok (.sipush 12345, 3) := by decide +kernel
theorem dX4_draws_11 : decode cX4_draws 11 = .ok (.iadd, 1) := by decide +kernel
theorem dX4_draws_12 : decode cX4_draws 12 = .ok (.putfield 24, 3) := by decide +kernel
theorem dX4_draws_15 : decode cX4_draws 15 = .ok (.aload_n 0, 1) := by decide +kernel
theorem dX4_draws_16 : decode cX4_draws 16 = .ok (.getfield 24, 3) := by decide +kernel
theorem dX4_draws_19 : decode cX4_draws 19 = .ok (.bipush 16, 2) := by decide +kernel
theorem dX4_draws_21 : decode cX4_draws 21 = .ok (.iushr, 1) := by decide +kernel
theorem dX4_draws_22 : decode cX4_draws 22 = .ok (.iconst 1, 1) := by decide +kernel
theorem dX4_draws_23 : decode cX4_draws 23 = .ok (.iand, 1) := by decide +kernel
theorem dX4_draws_24 : decode cX4_draws 24 = .ok (.iconst 1, 1) := by decide +kernel
theorem dX4_draws_25 : decode cX4_draws 25 = .ok (.if_icmp .ne 7, 3) := by decide +kernel
theorem dX4_draws_28 : decode cX4_draws 28 = .ok (.iconst 1, 1) := by decide +kernel
theorem dX4_draws_29 : decode cX4_draws 29 = .ok (.goto 4, 3) := by decide +kernel
theorem dX4_draws_32 : decode cX4_draws 32 = .ok (.iconst 0, 1) := by decide +kernel
theorem dX4_draws_33 : decode cX4_draws 33 = .ok (.ireturn, 1) := by decide +kernel
theorem dX4_copyFrom_0 : decode cX4_copyFrom 0 = .ok (.aload_n 0, 1) := by decide +kernel
theorem dX4_copyFrom_1 : decode cX4_copyFrom 1 = .ok (.aload_n 1, 1) := by decide +kernel
theorem dX4_copyFrom_2 : decode cX4_copyFrom 2 = .ok (.getfield 55, 3) := by decide +kernel
theorem dX4_copyFrom_5 : decode cX4_copyFrom 5 = .ok (.putfield 55, 3) := by decide +kernel
theorem dX4_copyFrom_8 : decode cX4_copyFrom 8 = .ok (.aload_n 1, 1) := by decide +kernel
theorem dX4_copyFrom_9 : decode cX4_copyFrom 9 = .ok (.getfield 9, 3) := by decide +kernel
theorem dX4_copyFrom_12 : decode cX4_copyFrom 12 = .ok (.iconst 0, 1) := by decide +kernel
theorem dX4_copyFrom_13 : decode cX4_copyFrom 13 = .ok (.aload_n 0, 1) := by decide +kernel
theorem dX4_copyFrom_14 : decode cX4_copyFrom 14 = .ok (.getfield 9, 3) := by decide +kernel
theorem dX4_copyFrom_17 : decode cX4_copyFrom 17 = .ok (.iconst 0, 1) := by decide +kernel
theorem dX4_copyFrom_18 : decode cX4_copyFrom 18 = .ok (.bipush 7, 2) := by decide +kernel
theorem dX4_copyFrom_20 : decode cX4_copyFrom 20 = .ok (.invokestatic 58, 3) := by decide +kernel
theorem dX4_copyFrom_23 : decode cX4_copyFrom 23 = .ok (.aload_n 1, 1) := by decide +kernel
theorem dX4_copyFrom_24 : decode cX4_copyFrom 24 = .ok (.getfield 15, 3) := by decide +kernel
theorem dX4_copyFrom_27 : decode cX4_copyFrom 27 = .ok (.iconst 0, 1) := by decide +kernel
theorem dX4_copyFrom_28 : decode cX4_copyFrom 28 = .ok (.aload_n 0, 1) := by decide +kernel
theorem dX4_copyFrom_29 : decode cX4_copyFrom 29 = .ok (.getfield 15, 3) := by decide +kernel
theorem dX4_copyFrom_32 : decode cX4_copyFrom 32 = .ok (.iconst 0, 1) := by decide +kernel
theorem dX4_copyFrom_33 : decode cX4_copyFrom 33 = .ok (.bipush 7, 2) := by decide +kernel
theorem dX4_copyFrom_35 : decode cX4_copyFrom 35 = .ok (.invokestatic 58, 3) := by decide +kernel
theorem dX4_copyFrom_38 : decode cX4_copyFrom 38 = .ok (.aload_n 1, 1) := by decide +kernel
theorem dX4_copyFrom_39 : decode cX4_copyFrom 39 = .ok (.getfield 18, 3) := by decide +kernel
theorem dX4_copyFrom_42 : decode cX4_copyFrom 42 = .ok (.iconst 0, 1) := by decide +kernel
theorem dX4_copyFrom_43 : decode cX4_copyFrom 43 = .ok (.aload_n 0, 1) := by decide +kernel
theorem dX4_copyFrom_44 : decode cX4_copyFrom 44 = .ok (.getfield 18, 3) := by decide +kernel
theorem dX4_copyFrom_47 : decode cX4_copyFrom 47 = .ok (.iconst 0, 1) := by decide +kernel
theorem dX4_copyFrom_48 : decode cX4_copyFrom 48 = .ok (.bipush 7, 2) := by decide +kernel
theorem dX4_copyFrom_50 : decode cX4_copyFrom 50 = .ok (.invokestatic 58, 3) := by decide +kernel
theorem dX4_copyFrom_53 : decode cX4_copyFrom 53 = .ok (.aload_n 1, 1) := by decide +kernel
theorem dX4_copyFrom_54 : decode cX4_copyFrom 54 = .ok (.getfield 21, 3) := by decide +kernel
theorem dX4_copyFrom_57 : decode cX4_copyFrom 57 = .ok (.iconst 0, 1) := by decide +kernel
theorem dX4_copyFrom_58 : decode cX4_copyFrom 58 = .ok (.aload_n 0, 1) := by decide +kernel
theorem dX4_copyFrom_59 : decode cX4_copyFrom 59 = .ok (.getfield 21, 3) := by decide +kernel
theorem dX4_copyFrom_62 : decode cX4_copyFrom 62 = .ok (.iconst 0, 1) := by decide +kernel
theorem dX4_copyFrom_63 : decode cX4_copyFrom 63 = .ok (.bipush 7, 2) := by decide +kernel
theorem dX4_copyFrom_65 : decode cX4_copyFrom 65 = .ok (.invokestatic 58, 3) := by decide +kernel
theorem dX4_copyFrom_68 : decode cX4_copyFrom 68 = .ok (.aload_n 0, 1) := by decide +kernel
theorem dX4_copyFrom_69 : decode cX4_copyFrom 69 = .ok (.aload_n 1, 1) := by decide +kernel
theorem dX4_copyFrom_70 : decode cX4_copyFrom 70 = .ok (.getfield 64, 3) := by decide +kernel
theorem dX4_copyFrom_73 : decode cX4_copyFrom 73 = .ok (.putfield 64, 3) := by decide +kernel
theorem dX4_copyFrom_76 : decode cX4_copyFrom 76 = .ok (.aload_n 0, 1) := by decide +kernel
theorem dX4_copyFrom_77 : decode cX4_copyFrom 77 = .ok (.aload_n 1, 1) := by decide +kernel
theorem dX4_copyFrom_78 : decode cX4_copyFrom 78 = .ok (.getfield 41, 3) := by decide +kernel
theorem dX4_copyFrom_81 : decode cX4_copyFrom 81 = .ok (.putfield 41, 3) := by decide +kernel
theorem dX4_copyFrom_84 : decode cX4_copyFrom 84 = .ok (.aload_n 0, 1) := by decide +kernel
theorem dX4_copyFrom_85 : decode cX4_copyFrom 85 = .ok (.aload_n 1, 1) := by decide +kernel
theorem dX4_copyFrom_86 : decode cX4_copyFrom 86 = .ok (.getfield 51, 3) := by decide +kernel
theorem dX4_copyFrom_89 : decode cX4_copyFrom 89 = .ok (.putfield 51, 3) := by decide +kernel
theorem dX4_copyFrom_92 : decode cX4_copyFrom 92 = .ok (.aload_n 0, 1) := by decide +kernel
theorem dX4_copyFrom_93 : decode cX4_copyFrom 93 = .ok (.aload_n 1, 1) := by decide +kernel
theorem dX4_copyFrom_94 : decode cX4_copyFrom 94 = .ok (.getfield 67, 3) := by decide +kernel
theorem dX4_copyFrom_97 : decode cX4_copyFrom 97 = .ok (.putfield 67, 3) := by decide +kernel
theorem dX4_copyFrom_100 : decode cX4_copyFrom 100 = .ok (.aload_n 0, 1) := by decide +kernel
theorem dX4_copyFrom_101 : decode cX4_copyFrom 101 = .ok (.aload_n 1, 1) := by decide +kernel
theorem dX4_copyFrom_102 : decode cX4_copyFrom 102 = .ok (.getfield 48, 3) := by decide +kernel
theorem dX4_copyFrom_105 : decode cX4_copyFrom 105 = .ok (.putfield 48, 3) := by decide +kernel
theorem dX4_copyFrom_108 : decode cX4_copyFrom 108 = .ok (.aload_n 0, 1) := by decide +kernel
theorem dX4_copyFrom_109 : decode cX4_copyFrom 109 = .ok (.aload_n 1, 1) := by decide +kernel
theorem dX4_copyFrom_110 : decode cX4_copyFrom 110 = .ok (.getfield 24, 3) := by decide +kernel
theorem dX4_copyFrom_113 : decode cX4_copyFrom 113 = .ok (.putfield 24, 3) := by decide +kernel
theorem dX4_copyFrom_116 : decode cX4_copyFrom 116 = .ok (.aload_n 0, 1) := by decide +kernel
theorem dX4_copyFrom_117 : decode cX4_copyFrom 117 = .ok (.aload_n 1, 1) := by decide +kernel
theorem dX4_copyFrom_118 : decode cX4_copyFrom 118 = .ok (.getfield 70, 3) := by decide +kernel
theorem dX4_copyFrom_121 : decode cX4_copyFrom 121 = .ok (.putfield 70, 3) := by decide +kernel
theorem dX4_copyFrom_124 : decode cX4_copyFrom 124 = .ok (.aload_n 1, 1) := by decide +kernel
theorem dX4_copyFrom_125 : decode cX4_copyFrom 125 = .ok (.getfield 28, 3) := by decide +kernel
theorem dX4_copyFrom_128 : decode cX4_copyFrom 128 = .ok (.iconst 0, 1) := by decide +kernel
theorem dX4_copyFrom_129 : decode cX4_copyFrom 129 = .ok (.aload_n 0, 1) := by decide +kernel
theorem dX4_copyFrom_130 : decode cX4_copyFrom 130 = .ok (.getfield 28, 3) := by decide +kernel
theorem dX4_copyFrom_133 : decode cX4_copyFrom 133 = .ok (.iconst 0, 1) := by decide +kernel
theorem dX4_copyFrom_134 : decode cX4_copyFrom 134 = .ok (.bipush 6, 2) := by decide +kernel
theorem dX4_copyFrom_136 : decode cX4_copyFrom 136 = .ok (.invokestatic 58, 3) := by decide +kernel
theorem dX4_copyFrom_139 : decode cX4_copyFrom 139 = .ok (.aload_n 1, 1) := by decide +kernel
theorem dX4_copyFrom_140 : decode cX4_copyFrom 140 = .ok (.getfield 31, 3) := by decide +kernel
theorem dX4_copyFrom_143 : decode cX4_copyFrom 143 = .ok (.iconst 0, 1) := by decide +kernel
theorem dX4_copyFrom_144 : decode cX4_copyFrom 144 = .ok (.aload_n 0, 1) := by decide +kernel
theorem dX4_copyFrom_145 : decode cX4_copyFrom 145 = .ok (.getfield 31, 3) := by decide +kernel
theorem dX4_copyFrom_148 : decode cX4_copyFrom 148 = .ok (.iconst 0, 1) := by decide +kernel
theorem dX4_copyFrom_149 : decode cX4_copyFrom 149 = .ok (.bipush 6, 2) := by decide +kernel
theorem dX4_copyFrom_151 : decode cX4_copyFrom 151 = .ok (.invokestatic 58, 3) := by decide +kernel
theorem dX4_copyFrom_154 : decode cX4_copyFrom 154 = .ok (.aload_n 0, 1) := by decide +kernel
theorem dX4_copyFrom_155 : decode cX4_copyFrom 155 = .ok (.getfield 37, 3) := by decide +kernel
theorem dX4_copyFrom_158 : decode cX4_copyFrom 158 = .ok (.aload_n 1, 1) := by decide +kernel
theorem dX4_copyFrom_159 : decode cX4_copyFrom 159 = .ok (.getfield 37, 3) := by decide +kernel
theorem dX4_copyFrom_162 : decode cX4_copyFrom 162 = .ok (.invokevirtual 73, 3) := by decide +kernel
theorem dX4_copyFrom_165 : decode cX4_copyFrom 165 = .ok (.return_, 1) := by decide +kernel
theorem dX5_init_0 : decode cX5_init 0 = .ok (.aload_n 0, 1) := by decide +kernel
theorem dX5_init_1 : decode cX5_init 1 = .ok (.invokespecial 3, 3) := by decide +kernel
theorem dX5_init_4 : decode cX5_init 4 = .ok (.aload_n 0, 1) := by decide +kernel
theorem dX5_init_5 : decode cX5_init 5 = .ok (.new 9, 3) := by decide +kernel
theorem dX5_init_8 : decode cX5_init 8 = .ok (.dup, 1) := by decide +kernel
theorem dX5_init_9 : decode cX5_init 9 = .ok (.invokespecial 11, 3) := by decide +kernel
theorem dX5_init_12 : decode cX5_init 12 = .ok (.putfield 12, 3) := by decide +kernel
theorem dX5_init_15 : decode cX5_init 15 = .ok (.aload_n 0, 1) := by decide +kernel
theorem dX5_init_16 : decode cX5_init 16 = .ok (.sipush 200, 3) := by decide +kernel
theorem dX5_init_19 : decode cX5_init 19 = .ok (.newarray .int, 2) := by decide +kernel
theorem dX5_init_21 : decode cX5_init 21 = .ok (.putfield 18, 3) := by decide +kernel
theorem dX5_init_24 : decode cX5_init 24 = .ok (.aload_n 0, 1) := by decide +kernel
theorem dX5_init_25 : decode cX5_init 25 = .ok (.sipush 201, 3) := by decide +kernel
theorem dX5_init_28 : decode cX5_init 28 = .ok (.newarray .int, 2) := by decide +kernel
theorem dX5_init_30 : decode cX5_init 30 = .ok (.putfield 22, 3) := by decide +kernel
theorem dX5_init_33 : decode cX5_init 33 = .ok (.aload_n 0, 1) := by decide +kernel
theorem dX5_init_34 : decode cX5_init 34 = .ok (.sipush 201, 3) := by decide +kernel
theorem dX5_init_37 : decode cX5_init 37 = .ok (.newarray .int, 2) := by decide +kernel
theorem dX5_init_39 : decode cX5_init 39 = .ok (.putfield 25, 3) := by decide +kernel
theorem dX5_init_42 : decode cX5_init 42 = .ok (.aload_n 0, 1) := by decide +kernel
theorem dX5_init_43 : decode cX5_init 43 = .ok (.sipush 201, 3) := by decide +kernel
theorem dX5_init_46 : decode cX5_init 46 = .ok (.newarray .int, 2) := by decide +kernel
theorem dX5_init_48 : decode cX5_init 48 = .ok (.putfield 28, 3) := by decide +kernel
theorem dX5_init_51 : decode cX5_init 51 = .ok (.return_, 1) := by decide +kernel
theorem dX5_take_0 : decode cX5_take 0 = .ok (.iconst 0, 1) := by decide +kernel
theorem dX5_take_1 : decode cX5_take 1 = .ok (.istore 4, 2) := by decide +kernel
theorem dX5_take_3 : decode cX5_take 3 = .ok (.iload 4, 2) := by decide +kernel
theorem dX5_take_5 : decode cX5_take 5 = .ok (.iload_n 3, 1) := by decide +kernel
theorem dX5_take_6 : decode cX5_take 6 = .ok (.if_icmp .ge 50, 3) := by decide +kernel
theorem dX5_take_9 : decode cX5_take 9 = .ok (.aload_n 0, 1) := by decide +kernel
theorem dX5_take_10 : decode cX5_take 10 = .ok (.getfield 31, 3) := by decide +kernel
theorem dX5_take_13 : decode cX5_take 13 = .ok (.sipush 200, 3) := by decide +kernel
theorem dX5_take_16 : decode cX5_take 16 = .ok (.if_icmp .ge 40, 3) := by decide +kernel
theorem dX5_take_19 : decode cX5_take 19 = .ok (.aload_n 0, 1) := by decide +kernel
theorem dX5_take_20 : decode cX5_take 20 = .ok (.getfield 18, 3) := by decide +kernel
theorem dX5_take_23 : decode cX5_take 23 = .ok (.aload_n 0, 1) := by decide +kernel
theorem dX5_take_24 : decode cX5_take 24 = .ok (.getfield 31, 3) := by decide +kernel
theorem dX5_take_27 : decode cX5_take 27 = .ok (.lload_n 1, 1) := by decide +kernel
theorem dX5_take_28 : decode cX5_take 28 = .ok (.bipush 8, 2) := by decide +kernel
theorem dX5_take_30 : decode cX5_take 30 = .ok (.iload 4, 2) := by decide +kernel
theorem dX5_take_32 : decode cX5_take 32 = .ok (.imul, 1) := by decide +kernel
theorem dX5_take_33 : decode cX5_take 33 = .ok (.lushr, 1) := by decide +kernel
theorem dX5_take_34 : decode cX5_take 34 = .ok (.l2i, 1) := by decide +kernel
theorem dX5_take_35 : decode cX5_take 35 = .ok (.sipush 255, 3) := by decide +kernel
theorem dX5_take_38 : decode cX5_take 38 = .ok (.iand, 1) := by decide +kernel
theorem dX5_take_39 : decode cX5_take 39 = .ok (.iastore, 1) := by decide +kernel
theorem dX5_take_40 : decode cX5_take 40 = .ok (.aload_n 0, 1) := by decide +kernel
theorem dX5_take_41 : decode cX5_take 41 = .ok (.dup, 1) := by decide +kernel
theorem dX5_take_42 : decode cX5_take 42 = .ok (.getfield 31, 3) := by decide +kernel
theorem dX5_take_45 : decode cX5_take 45 = .ok (.iconst 1, 1) := by decide +kernel
theorem dX5_take_46 : decode cX5_take 46 = .ok (.iadd, 1) := by decide +kernel
theorem dX5_take_47 : decode cX5_take 47 = .ok (.putfield 31, 3) := by decide +kernel
theorem dX5_take_50 : decode cX5_take 50 = .ok (.iinc 4 1, 3) := by decide +kernel
theorem dX5_take_53 : decode cX5_take 53 = .ok (.goto (-50), 3) := by decide +kernel
theorem dX5_take_56 : decode cX5_take 56 = .ok (.aload_n 0, 1) := by decide +kernel
theorem dX5_take_57 : decode cX5_take 57 = .ok (.getfield 31, 3) := by decide +kernel
theorem dX5_take_60 : decode cX5_take 60 = .ok (.ireturn, 1) := by decide +kernel
theorem dX5_read_0 : decode cX5_read 0 = .ok (.aload_n 0, 1) := by decide +kernel
theorem dX5_read_1 : decode cX5_read 1 = .ok (.getfield 12, 3) := by decide +kernel
theorem dX5_read_4 : decode cX5_read 4 = .ok (.invokevirtual 35, 3) := by decide +kernel
theorem dX5_read_7 : decode cX5_read 7 = .ok (.aload_n 0, 1) := by decide +kernel
theorem dX5_read_8 : decode cX5_read 8 = .ok (.invokevirtual 38, 3) := by decide +kernel
theorem dX5_read_11 : decode cX5_read 11 = .ok (.aload_n 0, 1) := by decide +kernel
theorem dX5_read_12 : decode cX5_read 12 = .ok (.iconst 0, 1) := by decide +kernel
theorem dX5_read_13 : decode cX5_read 13 = .ok (.putfield 31, 3) := by decide +kernel
theorem dX5_read_16 : decode cX5_read 16 = .ok (.aload_n 0, 1) := by decide +kernel
theorem dX5_read_17 : decode cX5_read 17 = .ok (.iconst 0, 1) := by decide +kernel
theorem dX5_read_18 : decode cX5_read 18 = .ok (.putfield 41, 3) := by decide +kernel
theorem dX5_read_21 : decode cX5_read 21 = .ok (.iconst 1, 1) := by decide +kernel
theorem dX5_read_22 : decode cX5_read 22 = .ok (.istore_n 1, 1) := by decide +kernel
theorem dX5_read_23 : decode cX5_read 23 = .ok (.iconst 0, 1) := by decide +kernel
theorem dX5_read_24 : decode cX5_read 24 = .ok (.istore_n 2, 1) := by decide +kernel
theorem dX5_read_25 : decode cX5_read 25 = .ok (.iload_n 2, 1) := by decide +kernel
theorem dX5_read_26 : decode cX5_read 26 = .ok (.bipush 8, 2) := by decide +kernel
theorem dX5_read_28 : decode cX5_read 28 = .ok (.if_icmp .ge 32, 3) := by decide +kernel
theorem dX5_read_31 : decode cX5_read 31 = .ok (.iload_n 1, 1) := by decide +kernel
theorem dX5_read_32 : decode cX5_read 32 = .ok (.ifCond .eq 28, 3) := by decide +kernel
theorem dX5_read_35 : decode cX5_read 35 = .ok (.aload_n 0, 1) := by decide +kernel
theorem dX5_read_36 : decode cX5_read 36 = .ok (.getfield 22, 3) := by decide +kernel
theorem dX5_read_39 : decode cX5_read 39 = .ok (.aload_n 0, 1) := by decide +kernel
theorem dX5_read_40 : decode cX5_read 40 = .ok (.getfield 41, 3) := by decide +kernel
theorem dX5_read_43 : decode cX5_read 43 = .ok (.iaload, 1) := by decide +kernel
theorem dX5_read_44 : decode cX5_read 44 = .ok (.bipush 40, 2) := by decide +kernel
theorem dX5_read_46 : decode cX5_read 46 = .ok (.if_icmp .eq 14, 3) := by decide +kernel
theorem dX5_read_49 : decode cX5_read 49 = .ok (.aload_n 0, 1) := by decide +kernel
theorem dX5_read_50 : decode cX5_read 50 = .ok (.invokevirtual 44, 3) := by decide +kernel
theorem dX5_read_53 : decode cX5_read 53 = .ok (.istore_n 1, 1) := by decide +kernel
theorem dX5_read_54 : decode cX5_read 54 = .ok (.iinc 2 1, 3) := by decide +kernel
theorem dX5_read_57 : decode cX5_read 57 = .ok (.goto (-32), 3) := by decide +kernel
theorem dX5_read_60 : decode cX5_read 60 = .ok (.aload_n 0, 1) := by decide +kernel
theorem dX5_read_61 : decode cX5_read 61 = .ok (.getfield 22, 3) := by decide +kernel
theorem dX5_read_64 : decode cX5_read 64 = .ok (.aload_n 0, 1) := by decide +kernel
theorem dX5_read_65 : decode cX5_read 65 = .ok (.getfield 41, 3) := by decide +kernel
theorem dX5_read_68 : decode cX5_read 68 = .ok (.iaload, 1) := by decide +kernel
theorem dX5_read_69 : decode cX5_read 69 = .ok (.bipush 40, 2) := by decide +kernel
theorem dX5_read_71 : decode cX5_read 71 = .ok (.if_icmp .ne 11, 3) := by decide +kernel
theorem dX5_read_74 : decode cX5_read 74 = .ok (.iload_n 1, 1) := by decide +kernel
theorem dX5_read_75 : decode cX5_read 75 = .ok (.ifCond .eq 7, 3) := by decide +kernel
theorem dX5_read_78 : decode cX5_read 78 = .ok (.iconst (-1), 1) := by decide +kernel
theorem dX5_read_79 : decode cX5_read 79 = .ok (.goto 12, 3) := by decide +kernel
theorem dX5_read_82 : decode cX5_read 82 = .ok (.aload_n 0, 1) := by decide +kernel
theorem dX5_read_83 : decode cX5_read 83 = .ok (.getfield 25, 3) := by decide +kernel
theorem dX5_read_86 : decode cX5_read 86 = .ok (.aload_n 0, 1) := by decide +kernel
theorem dX5_read_87 : decode cX5_read 87 = .ok (.getfield 41, 3) := by decide +kernel
theorem dX5_read_90 : decode cX5_read 90 = .ok (.iaload, 1) := by decide +kernel
theorem dX5_read_91 : decode cX5_read 91 = .ok (.ireturn, 1) := by decide +kernel
theorem dX5_cutWords_0 : decode cX5_cutWords 0 = .ok (.aload_n 0, 1) := by decide +kernel
theorem dX5_cutWords_1 : decode cX5_cutWords 1 = .ok (.iconst 0, 1) := by decide +kernel
theorem dX5_cutWords_2 : decode cX5_cutWords 2 = .ok (.putfield 48, 3) := by decide +kernel
theorem dX5_cutWords_5 : decode cX5_cutWords 5 = .ok (.iconst 0, 1) := by decide +kernel
theorem dX5_cutWords_6 : decode cX5_cutWords 6 = .ok (.istore_n 2, 1) := by decide +kernel
theorem dX5_cutWords_7 : decode cX5_cutWords 7 = .ok (.iload_n 2, 1) := by decide +kernel
theorem dX5_cutWords_8 : decode cX5_cutWords 8 = .ok (.aload_n 0, 1) := by decide +kernel
theorem dX5_cutWords_9 : decode cX5_cutWords 9 = .ok (.getfield 31, 3) := by decide +kernel
theorem dX5_cutWords_12 : decode cX5_cutWords 12 = .ok (.if_icmp .ge 160, 3) := by decide +kernel
theorem dX5_cutWords_15 : decode cX5_cutWords 15 = .ok (.iload_n 2, 1) := by decide +kernel
theorem dX5_cutWords_16 : decode cX5_cutWords 16 = .ok (.iconst 1, 1) := by decide +kernel
theorem dX5_cutWords_17 : decode cX5_cutWords 17 = .ok (.iadd, 1) := by decide +kernel
theorem dX5_cutWords_18 : decode cX5_cutWords 18 = .ok (.istore_n 1, 1) := by decide +kernel
theorem dX5_cutWords_19 : decode cX5_cutWords 19 = .ok (.aload_n 0, 1) := by decide +kernel
theorem dX5_cutWords_20 : decode cX5_cutWords 20 = .ok (.getfield 18, 3) := by decide +kernel
theorem dX5_cutWords_23 : decode cX5_cutWords 23 = .ok (.iload_n 2, 1) := by decide +kernel
theorem dX5_cutWords_24 : decode cX5_cutWords 24 = .ok (.iaload, 1) := by decide +kernel
theorem dX5_cutWords_25 : decode cX5_cutWords 25 = .ok (.invokestatic 51, 3) := by decide +kernel
theorem dX5_cutWords_28 : decode cX5_cutWords 28 = .ok (.ifCond .eq 65, 3) := by decide +kernel
theorem dX5_cutWords_31 : decode cX5_cutWords 31 = .ok (.iload_n 1, 1) := by decide +kernel
theorem dX5_cutWords_32 : decode cX5_cutWords 32 = .ok (.aload_n 0, 1) := by decide +kernel
theorem dX5_cutWords_33 : decode cX5_cutWords 33 = .ok (.getfield 31, 3) := by decide +kernel
theorem dX5_cutWords_36 : decode cX5_cutWords 36 = .ok (.if_icmp .ge 21, 3) := by decide +kernel
theorem dX5_cutWords_39 : decode cX5_cutWords 39 = .ok (.aload_n 0, 1) := by decide +kernel
theorem dX5_cutWords_40 : decode cX5_cutWords 40 = .ok (.getfield 18, 3) := by decide +kernel
theorem dX5_cutWords_43 : decode cX5_cutWords 43 = .ok (.iload_n 1, 1) := by decide +kernel
theorem dX5_cutWords_44 : decode cX5_cutWords 44 = .ok (.iaload, 1) := by decide +kernel
theorem dX5_cutWords_45 : decode cX5_cutWords 45 = .ok (.invokestatic 51, 3) := by decide +kernel
theorem dX5_cutWords_48 : decode cX5_cutWords 48 = .ok (.ifCond .eq 9, 3) := by decide +kernel
theorem dX5_cutWords_51 : decode cX5_cutWords 51 = .ok (.iinc 1 1, 3) := by decide +kernel
theorem dX5_cutWords_54 : decode cX5_cutWords 54 = .ok (.goto (-23), 3) := by decide +kernel
theorem dX5_cutWords_57 : decode cX5_cutWords 57 = .ok (.aload_n 0, 1) := by decide +kernel
theorem dX5_cutWords_58 : decode cX5_cutWords 58 = .ok (.iload_n 2, 1) := by decide +kernel
theorem dX5_cutWords_59 : decode cX5_cutWords 59 = .ok (.iload_n 1, 1) := by decide +kernel
theorem dX5_cutWords_60 : decode cX5_cutWords 60 = .ok (.invokevirtual 55, 3) := by decide +kernel
theorem dX5_cutWords_63 : decode cX5_cutWords 63 = .ok (.istore_n 3, 1) := by decide +kernel
theorem dX5_cutWords_64 : decode cX5_cutWords 64 = .ok (.aload_n 0, 1) := by decide +kernel
theorem dX5_cutWords_65 : decode cX5_cutWords 65 = .ok (.iload_n 3, 1) := by decide +kernel
theorem dX5_cutWords_66 : decode cX5_cutWords 66 = .ok (.iload_n 2, 1) := by decide +kernel
theorem dX5_cutWords_67 : decode cX5_cutWords 67 = .ok (.iload_n 3, 1) := by decide +kernel
theorem dX5_cutWords_68 : decode cX5_cutWords 68 = .ok (.bipush 10, 2) := by decide +kernel
theorem dX5_cutWords_70 : decode cX5_cutWords 70 = .ok (.bipush 14, 2) := by decide +kernel
theorem dX5_cutWords_72 : decode cX5_cutWords 72 = .ok (.invokestatic 59, 3) := by decide +kernel
theorem dX5_cutWords_75 : decode cX5_cutWords 75 = .ok (.ifCond .eq 10, 3) := by decide +kernel
theorem dX5_cutWords_78 : decode cX5_cutWords 78 = .ok (.iload_n 3, 1) := by decide +kernel
theorem dX5_cutWords_79 : decode cX5_cutWords 79 = .ok (.bipush 10, 2) := by decide +kernel
theorem dX5_cutWords_81 : decode cX5_cutWords 81 = .ok (.isub, 1) := by decide +kernel
theorem dX5_cutWords_82 : decode cX5_cutWords 82 = .ok (.goto 5, 3) := by decide +kernel
theorem dX5_cutWords_85 : decode cX5_cutWords 85 = .ok (.bipush (-3), 2) := by decide +kernel
theorem dX5_cutWords_87 : decode cX5_cutWords 87 = .ok (.invokevirtual 63, 3) := by decide +kernel
theorem dX5_cutWords_90 : decode cX5_cutWords 90 = .ok (.goto 77, 3) := by decide +kernel
theorem dX5_cutWords_93 : decode cX5_cutWords 93 = .ok (.aload_n 0, 1) := by decide +kernel
theorem dX5_cutWords_94 : decode cX5_cutWords 94 = .ok (.getfield 18, 3) := by decide +kernel
theorem dX5_cutWords_97 : decode cX5_cutWords 97 = .ok (.iload_n 2, 1) := by decide +kernel
theorem dX5_cutWords_98 : decode cX5_cutWords 98 = .ok (.iaload, 1) := by decide +kernel
theorem dX5_cutWords_99 : decode cX5_cutWords 99 = .ok (.invokestatic 67, 3) := by decide +kernel
theorem dX5_cutWords_102 : decode cX5_cutWords 102 = .ok (.ifCond .eq 38, 3) := by decide +kernel
theorem dX5_cutWords_105 : decode cX5_cutWords 105 = .ok (.iload_n 1, 1) := by decide +kernel
theorem dX5_cutWords_106 : decode cX5_cutWords 106 = .ok (.aload_n 0, 1) := by decide +kernel
theorem dX5_cutWords_107 : decode cX5_cutWords 107 = .ok (.getfield 31, 3) := by decide +kernel
theorem dX5_cutWords_110 : decode cX5_cutWords 110 = .ok (.if_icmp .ge 21, 3) := by decide +kernel
theorem dX5_cutWords_113 : decode cX5_cutWords 113 = .ok (.aload_n 0, 1) := by decide +kernel
theorem dX5_cutWords_114 : decode cX5_cutWords 114 = .ok (.getfield 18, 3) := by decide +kernel
theorem dX5_cutWords_117 : decode cX5_cutWords 117 = .ok (.iload_n 1, 1) := by decide +kernel
theorem dX5_cutWords_118 : decode cX5_cutWords 118 = .ok (.iaload, 1) := by decide +kernel
theorem dX5_cutWords_119 : decode cX5_cutWords 119 = .ok (.invokestatic 67, 3) := by decide +kernel
theorem dX5_cutWords_122 : decode cX5_cutWords 122 = .ok (.ifCond .eq 9, 3) := by decide +kernel
theorem dX5_cutWords_125 : decode cX5_cutWords 125 = .ok (.iinc 1 1, 3) := by decide +kernel
theorem dX5_cutWords_128 : decode cX5_cutWords 128 = .ok (.goto (-23), 3) := by decide +kernel
theorem dX5_cutWords_131 : decode cX5_cutWords 131 = .ok (.aload_n 0, 1) := by decide +kernel
theorem dX5_cutWords_132 : decode cX5_cutWords 132 = .ok (.iload_n 2, 1) := by decide +kernel
theorem dX5_cutWords_133 : decode cX5_cutWords 133 = .ok (.iload_n 1, 1) := by decide +kernel
theorem dX5_cutWords_134 : decode cX5_cutWords 134 = .ok (.invokevirtual 70, 3) := by decide +kernel
theorem dX5_cutWords_137 : decode cX5_cutWords 137 = .ok (.goto 30, 3) := by decide +kernel
theorem dX5_cutWords_140 : decode cX5_cutWords 140 = .ok (.aload_n 0, 1) := by decide +kernel
theorem dX5_cutWords_141 : decode cX5_cutWords 141 = .ok (.getfield 18, 3) := by decide +kernel
theorem dX5_cutWords_144 : decode cX5_cutWords 144 = .ok (.iload_n 2, 1) := by decide +kernel
theorem dX5_cutWords_145 : decode cX5_cutWords 145 = .ok (.iaload, 1) := by decide +kernel
theorem dX5_cutWords_146 : decode cX5_cutWords 146 = .ok (.bipush 32, 2) := by decide +kernel
theorem dX5_cutWords_148 : decode cX5_cutWords 148 = .ok (.if_icmp .eq 19, 3) := by decide +kernel
theorem dX5_cutWords_151 : decode cX5_cutWords 151 = .ok (.aload_n 0, 1) := by decide +kernel
theorem dX5_cutWords_152 : decode cX5_cutWords 152 = .ok (.aload_n 0, 1) := by decide +kernel
theorem dX5_cutWords_153 : decode cX5_cutWords 153 = .ok (.getfield 18, 3) := by decide +kernel
theorem dX5_cutWords_156 : decode cX5_cutWords 156 = .ok (.iload_n 2, 1) := by decide +kernel
theorem dX5_cutWords_157 : decode cX5_cutWords 157 = .ok (.iaload, 1) := by decide +kernel
theorem dX5_cutWords_158 : decode cX5_cutWords 158 = .ok (.invokestatic 74, 3) := by decide +kernel
theorem dX5_cutWords_161 : decode cX5_cutWords 161 = .ok (.iload_n 2, 1) := by decide +kernel
theorem dX5_cutWords_162 : decode cX5_cutWords 162 = .ok (.bipush (-3), 2) := by decide +kernel
theorem dX5_cutWords_164 : decode cX5_cutWords 164 = .ok (.invokevirtual 63, 3) := by decide +kernel
theorem dX5_cutWords_167 : decode cX5_cutWords 167 = .ok (.iload_n 1, 1) := by decide +kernel
theorem dX5_cutWords_168 : decode cX5_cutWords 168 = .ok (.istore_n 2, 1) := by decide +kernel
theorem dX5_cutWords_169 : decode cX5_cutWords 169 = .ok (.goto (-162), 3) := by decide +kernel
theorem dX5_cutWords_172 : decode cX5_cutWords 172 = .ok (.aload_n 0, 1) := by decide +kernel
theorem dX5_cutWords_173 : decode cX5_cutWords 173 = .ok (.bipush 40, 2) := by decide +kernel
theorem dX5_cutWords_175 : decode cX5_cutWords 175 = .ok (.aload_n 0, 1) := by decide +kernel
theorem dX5_cutWords_176 : decode cX5_cutWords 176 = .ok (.getfield 31, 3) := by decide +kernel
theorem dX5_cutWords_179 : decode cX5_cutWords 179 = .ok (.bipush (-3), 2) := by decide +kernel
theorem dX5_cutWords_181 : decode cX5_cutWords 181 = .ok (.invokevirtual 63, 3) := by decide +kernel
theorem dX5_cutWords_184 : decode cX5_cutWords 184 = .ok (.return_, 1) := by decide +kernel
theorem dX5_addWord_0 : decode cX5_addWord 0 = .ok (.aload_n 0, 1) := by decide +kernel
theorem dX5_addWord_1 : decode cX5_addWord 1 = .ok (.getfield 48, 3) := by decide +kernel
theorem dX5_addWord_4 : decode cX5_addWord 4 = .ok (.sipush 200, 3) := by decide +kernel
theorem dX5_addWord_7 : decode cX5_addWord 7 = .ok (.if_icmp .gt 43, 3) := by decide +kernel
theorem dX5_addWord_10 : decode cX5_addWord 10 = .ok (.aload_n 0, 1) := by decide +kernel
theorem dX5_addWord_11 : decode cX5_addWord 11 = .ok (.getfield 22, 3) := by decide +kernel
theorem dX5_addWord_14 : decode cX5_addWord 14 = .ok (.aload_n 0, 1) := by decide +kernel
theorem dX5_addWord_15 : decode cX5_addWord 15 = .ok (.getfield 48, 3) := by decide +kernel
theorem dX5_addWord_18 : decode cX5_addWord 18 = .ok (.iload_n 1, 1) := by decide +kernel
theorem dX5_addWord_19 : decode cX5_addWord 19 = .ok (.iastore, 1) := by decide +kernel
theorem dX5_addWord_20 : decode cX5_addWord 20 = .ok (.aload_n 0, 1) := by decide +kernel
theorem dX5_addWord_21 : decode cX5_addWord 21 = .ok (.getfield 25, 3) := by decide +kernel
theorem dX5_addWord_24 : decode cX5_addWord 24 = .ok (.aload_n 0, 1) := by decide +kernel
theorem dX5_addWord_25 : decode cX5_addWord 25 = .ok (.getfield 48, 3) := by decide +kernel
theorem dX5_addWord_28 : decode cX5_addWord 28 = .ok (.iload_n 2, 1) := by decide +kernel
theorem dX5_addWord_29 : decode cX5_addWord 29 = .ok (.iastore, 1) := by decide +kernel
theorem dX5_addWord_30 : decode cX5_addWord 30 = .ok (.aload_n 0, 1) := by decide +kernel
theorem dX5_addWord_31 : decode cX5_addWord 31 = .ok (.getfield 28, 3) := by decide +kernel
theorem dX5_addWord_34 : decode cX5_addWord 34 = .ok (.aload_n 0, 1) := by decide +kernel
theorem dX5_addWord_35 : decode cX5_addWord 35 = .ok (.getfield 48, 3) := by decide +kernel
theorem dX5_addWord_38 : decode cX5_addWord 38 = .ok (.iload_n 3, 1) := by decide +kernel
theorem dX5_addWord_39 : decode cX5_addWord 39 = .ok (.iastore, 1) := by decide +kernel
theorem dX5_addWord_40 : decode cX5_addWord 40 = .ok (.aload_n 0, 1) := by decide +kernel
theorem dX5_addWord_41 : decode cX5_addWord 41 = .ok (.dup, 1) := by decide +kernel
theorem dX5_addWord_42 : decode cX5_addWord 42 = .ok (.getfield 48, 3) := by decide +kernel
theorem dX5_addWord_45 : decode cX5_addWord 45 = .ok (.iconst 1, 1) := by decide +kernel
theorem dX5_addWord_46 : decode cX5_addWord 46 = .ok (.iadd, 1) := by decide +kernel
theorem dX5_addWord_47 : decode cX5_addWord 47 = .ok (.putfield 48, 3) := by decide +kernel
theorem dX5_addWord_50 : decode cX5_addWord 50 = .ok (.return_, 1) := by decide +kernel
theorem dX5_addNumber_0 : decode cX5_addNumber 0 = .ok (.iload_n 2, 1) := by decide +kernel
theorem dX5_addNumber_1 : decode cX5_addNumber 1 = .ok (.iload_n 1, 1) := by decide +kernel
theorem dX5_addNumber_2 : decode cX5_addNumber 2 = .ok (.isub, 1) := by decide +kernel
theorem dX5_addNumber_3 : decode cX5_addNumber 3 = .ok (.iconst 4, 1) := by decide +kernel
theorem dX5_addNumber_4 : decode cX5_addNumber 4 = .ok (.if_icmp .le 13, 3) := by decide +kernel
theorem dX5_addNumber_7 : decode cX5_addNumber 7 = .ok (.aload_n 0, 1) := by decide +kernel
theorem dX5_addNumber_8 : decode cX5_addNumber 8 = .ok (.bipush 41, 2) := by decide +kernel
theorem dX5_addNumber_10 : decode cX5_addNumber 10 = .ok (.iload_n 1, 1) := by decide +kernel
theorem dX5_addNumber_11 : decode cX5_addNumber 11 = .ok (.bipush (-3), 2) := by decide +kernel
theorem dX5_addNumber_13 : decode cX5_addNumber 13 = .ok (.invokevirtual 63, 3) := by decide +kernel
theorem dX5_addNumber_16 : decode cX5_addNumber 16 = .ok (.return_, 1) := by decide +kernel
theorem dX5_addNumber_17 : decode cX5_addNumber 17 = .ok (.iconst 0, 1) := by decide +kernel
theorem dX5_addNumber_18 : decode cX5_addNumber 18 = .ok (.istore_n 3, 1) := by decide +kernel
theorem dX5_addNumber_19 : decode cX5_addNumber 19 = .ok (.iload_n 1, 1) := by decide +kernel
theorem dX5_addNumber_20 : decode cX5_addNumber 20 = .ok (.istore 4, 2) := by decide +kernel
theorem dX5_addNumber_22 : decode cX5_addNumber 22 = .ok (.iload 4, 2) := by decide +kernel
theorem dX5_addNumber_24 : decode cX5_addNumber 24 = .ok (.iload_n 2, 1) := by decide +kernel
theorem dX5_addNumber_25 : decode cX5_addNumber 25 = .ok (.if_icmp .ge 25, 3) := by decide +kernel
theorem dX5_addNumber_28 : decode cX5_addNumber 28 = .ok (.iload_n 3, 1) := by decide +kernel
theorem dX5_addNumber_29 : decode cX5_addNumber 29 = .ok (.bipush 10, 2) := by decide +kernel
theorem dX5_addNumber_31 : decode cX5_addNumber 31 = .ok (.imul, 1) := by decide +kernel
theorem dX5_addNumber_32 : decode cX5_addNumber 32 = .ok (.aload_n 0, 1) := by decide +kernel
theorem dX5_addNumber_33 : decode cX5_addNumber 33 = .ok (.getfield 18, 3) := by decide +kernel
theorem dX5_addNumber_36 : decode cX5_addNumber 36 = .ok (.iload 4, 2) := by decide +kernel
theorem dX5_addNumber_38 : decode cX5_addNumber 38 = .ok (.iaload, 1) := by decide +kernel
theorem dX5_addNumber_39 : decode cX5_addNumber 39 = .ok (.iadd, 1) := by decide +kernel
theorem dX5_addNumber_40 : decode cX5_addNumber 40 = .ok (.bipush 48, 2) := by decide +kernel
theorem dX5_addNumber_42 : decode cX5_addNumber 42 = .ok (.isub, 1) := by decide +kernel
theorem dX5_addNumber_43 : decode cX5_addNumber 43 = .ok (.istore_n 3, 1) := by decide +kernel
theorem dX5_addNumber_44 : decode cX5_addNumber 44 = .ok (.iinc 4 1, 3) := by decide +kernel
theorem dX5_addNumber_47 : decode cX5_addNumber 47 = .ok (.goto (-25), 3) := by decide +kernel
theorem dX5_addNumber_50 : decode cX5_addNumber 50 = .ok (.aload_n 0, 1) := by decide +kernel
theorem dX5_addNumber_51 : decode cX5_addNumber 51 = .ok (.bipush 30, 2) := by decide +kernel
theorem dX5_addNumber_53 : decode cX5_addNumber 53 = .ok (.iload_n 1, 1) := by decide +kernel
theorem dX5_addNumber_54 : decode cX5_addNumber 54 = .ok (.aload_n 0, 1) := by decide +kernel
theorem dX5_addNumber_55 : decode cX5_addNumber 55 = .ok (.getfield 12, 3) := by decide +kernel
theorem dX5_addNumber_58 : decode cX5_addNumber 58 = .ok (.iload_n 3, 1) := by decide +kernel
theorem dX5_addNumber_59 : decode cX5_addNumber 59 = .ok (.invokevirtual 78, 3) := by decide +kernel
theorem dX5_addNumber_62 : decode cX5_addNumber 62 = .ok (.invokevirtual 63, 3) := by decide +kernel
theorem dX5_addNumber_65 : decode cX5_addNumber 65 = .ok (.return_, 1) := by decide +kernel
theorem dX5_isLetter_0 : decode cX5_isLetter 0 = .ok (.iload_n 0, 1) := by decide +kernel
theorem dX5_isLetter_1 : decode cX5_isLetter 1 = .ok (.bipush 97, 2) := by decide +kernel
theorem dX5_isLetter_3 : decode cX5_isLetter 3 = .ok (.if_icmp .lt 13, 3) := by decide +kernel
theorem dX5_isLetter_6 : decode cX5_isLetter 6 = .ok (.iload_n 0, 1) := by decide +kernel
theorem dX5_isLetter_7 : decode cX5_isLetter 7 = .ok (.bipush 122, 2) := by decide +kernel
theorem dX5_isLetter_9 : decode cX5_isLetter 9 = .ok (.if_icmp .gt 7, 3) := by decide +kernel
theorem dX5_isLetter_12 : decode cX5_isLetter 12 = .ok (.iconst 1, 1) := by decide +kernel
theorem dX5_isLetter_13 : decode cX5_isLetter 13 = .ok (.goto 4, 3) := by decide +kernel
theorem dX5_isLetter_16 : decode cX5_isLetter 16 = .ok (.iconst 0, 1) := by decide +kernel
theorem dX5_isLetter_17 : decode cX5_isLetter 17 = .ok (.ireturn, 1) := by decide +kernel
theorem dX5_isDigit_0 : decode cX5_isDigit 0 = .ok (.iload_n 0, 1) := by decide +kernel
theorem dX5_isDigit_1 : decode cX5_isDigit 1 = .ok (.bipush 48, 2) := by decide +kernel
theorem dX5_isDigit_3 : decode cX5_isDigit 3 = .ok (.if_icmp .lt 13, 3) := by decide +kernel
theorem dX5_isDigit_6 : decode cX5_isDigit 6 = .ok (.iload_n 0, 1) := by decide +kernel
theorem dX5_isDigit_7 : decode cX5_isDigit 7 = .ok (.bipush 57, 2) := by decide +kernel
theorem dX5_isDigit_9 : decode cX5_isDigit 9 = .ok (.if_icmp .gt 7, 3) := by decide +kernel
theorem dX5_isDigit_12 : decode cX5_isDigit 12 = .ok (.iconst 1, 1) := by decide +kernel
theorem dX5_isDigit_13 : decode cX5_isDigit 13 = .ok (.goto 4, 3) := by decide +kernel
theorem dX5_isDigit_16 : decode cX5_isDigit 16 = .ok (.iconst 0, 1) := by decide +kernel
theorem dX5_isDigit_17 : decode cX5_isDigit 17 = .ok (.ireturn, 1) := by decide +kernel
theorem dX5_signOf_0 : decode cX5_signOf 0 = .ok (.iload_n 0, 1) := by decide +kernel
theorem dX5_signOf_1 : decode cX5_signOf 1 = .ok (.lookupswitch 77 #[(40, 68), (41, 71), (59, 74), (60, 59), (61, 62), (62, 65)], 59) := by decide +kernel
theorem dX5_signOf_60 : decode cX5_signOf 60 = .ok (.bipush 31, 2) := by decide +kernel
theorem dX5_signOf_62 : decode cX5_signOf 62 = .ok (.ireturn, 1) := by decide +kernel
theorem dX5_signOf_63 : decode cX5_signOf 63 = .ok (.bipush 32, 2) := by decide +kernel
theorem dX5_signOf_65 : decode cX5_signOf 65 = .ok (.ireturn, 1) := by decide +kernel
theorem dX5_signOf_66 : decode cX5_signOf 66 = .ok (.bipush 33, 2) := by decide +kernel
theorem dX5_signOf_68 : decode cX5_signOf 68 = .ok (.ireturn, 1) := by decide +kernel
theorem dX5_signOf_69 : decode cX5_signOf 69 = .ok (.bipush 34, 2) := by decide +kernel
theorem dX5_signOf_71 : decode cX5_signOf 71 = .ok (.ireturn, 1) := by decide +kernel
theorem dX5_signOf_72 : decode cX5_signOf 72 = .ok (.bipush 35, 2) := by decide +kernel
theorem dX5_signOf_74 : decode cX5_signOf 74 = .ok (.ireturn, 1) := by decide +kernel
theorem dX5_signOf_75 : decode cX5_signOf 75 = .ok (.bipush 36, 2) := by decide +kernel
theorem dX5_signOf_77 : decode cX5_signOf 77 = .ok (.ireturn, 1) := by decide +kernel
theorem dX5_signOf_78 : decode cX5_signOf 78 = .ok (.bipush 41, 2) := by decide +kernel
theorem dX5_signOf_80 : decode cX5_signOf 80 = .ok (.ireturn, 1) := by decide +kernel
theorem dX5_nameAt_0 : decode cX5_nameAt 0 = .ok (.aload_n 0, 1) := by decide +kernel
theorem dX5_nameAt_1 : decode cX5_nameAt 1 = .ok (.iload_n 1, 1) := by decide +kernel
theorem dX5_nameAt_2 : decode cX5_nameAt 2 = .ok (.iload_n 2, 1) := by decide +kernel
theorem dX5_nameAt_3 : decode cX5_nameAt 3 = .ok (.ldc 81, 2) := by decide +kernel
theorem dX5_nameAt_5 : decode cX5_nameAt 5 = .ok (.invokevirtual 83, 3) := by decide +kernel
theorem dX5_nameAt_8 : decode cX5_nameAt 8 = .ok (.ifCond .eq 7, 3) := by decide +kernel
theorem dX5_nameAt_11 : decode cX5_nameAt 11 = .ok (.iconst 0, 1) := by decide +kernel
theorem dX5_nameAt_12 : decode cX5_nameAt 12 = .ok (.goto 272, 3) := by decide +kernel
theorem dX5_nameAt_15 : decode cX5_nameAt 15 = .ok (.aload_n 0, 1) := by decide +kernel
theorem dX5_nameAt_16 : decode cX5_nameAt 16 = .ok (.iload_n 1, 1) := by decide +kernel
theorem dX5_nameAt_17 : decode cX5_nameAt 17 = .ok (.iload_n 2, 1) := by decide +kernel
theorem dX5_nameAt_18 : decode cX5_nameAt 18 = .ok (.ldc 87, 2) := by decide +kernel
theorem dX5_nameAt_20 : decode cX5_nameAt 20 = .ok (.invokevirtual 83, 3) := by decide +kernel
theorem dX5_nameAt_23 : decode cX5_nameAt 23 = .ok (.ifCond .eq 7, 3) := by decide +kernel
theorem dX5_nameAt_26 : decode cX5_nameAt 26 = .ok (.iconst 1, 1) := by decide +kernel
theorem dX5_nameAt_27 : decode cX5_nameAt 27 = .ok (.goto 257, 3) := by decide +kernel
theorem dX5_nameAt_30 : decode cX5_nameAt 30 = .ok (.aload_n 0, 1) := by decide +kernel
theorem dX5_nameAt_31 : decode cX5_nameAt 31 = .ok (.iload_n 1, 1) := by decide +kernel
theorem dX5_nameAt_32 : decode cX5_nameAt 32 = .ok (.iload_n 2, 1) := by decide +kernel
theorem dX5_nameAt_33 : decode cX5_nameAt 33 = .ok (.ldc 89, 2) := by decide +kernel
theorem dX5_nameAt_35 : decode cX5_nameAt 35 = .ok (.invokevirtual 83, 3) := by decide +kernel
theorem dX5_nameAt_38 : decode cX5_nameAt 38 = .ok (.ifCond .eq 7, 3) := by decide +kernel
theorem dX5_nameAt_41 : decode cX5_nameAt 41 = .ok (.iconst 2, 1) := by decide +kernel
theorem dX5_nameAt_42 : decode cX5_nameAt 42 = .ok (.goto 242, 3) := by decide +kernel
theorem dX5_nameAt_45 : decode cX5_nameAt 45 = .ok (.aload_n 0, 1) := by decide +kernel
theorem dX5_nameAt_46 : decode cX5_nameAt 46 = .ok (.iload_n 1, 1) := by decide +kernel
theorem dX5_nameAt_47 : decode cX5_nameAt 47 = .ok (.iload_n 2, 1) := by decide +kernel
theorem dX5_nameAt_48 : decode cX5_nameAt 48 = .ok (.ldc 91, 2) := by decide +kernel
theorem dX5_nameAt_50 : decode cX5_nameAt 50 = .ok (.invokevirtual 83, 3) := by decide +kernel
theorem dX5_nameAt_53 : decode cX5_nameAt 53 = .ok (.ifCond .eq 7, 3) := by decide +kernel
theorem dX5_nameAt_56 : decode cX5_nameAt 56 = .ok (.iconst 3, 1) := by decide +kernel
theorem dX5_nameAt_57 : decode cX5_nameAt 57 = .ok (.goto 227, 3) := by decide +kernel
theorem dX5_nameAt_60 : decode cX5_nameAt 60 = .ok (.aload_n 0, 1) := by decide +kernel
theorem dX5_nameAt_61 : decode cX5_nameAt 61 = .ok (.iload_n 1, 1) := by decide +kernel
theorem dX5_nameAt_62 : decode cX5_nameAt 62 = .ok (.iload_n 2, 1) := by decide +kernel
theorem dX5_nameAt_63 : decode cX5_nameAt 63 = .ok (.ldc 93, 2) := by decide +kernel
theorem dX5_nameAt_65 : decode cX5_nameAt 65 = .ok (.invokevirtual 83, 3) := by decide +kernel
theorem dX5_nameAt_68 : decode cX5_nameAt 68 = .ok (.ifCond .eq 7, 3) := by decide +kernel
theorem dX5_nameAt_71 : decode cX5_nameAt 71 = .ok (.iconst 4, 1) := by decide +kernel
theorem dX5_nameAt_72 : decode cX5_nameAt 72 = .ok (.goto 212, 3) := by decide +kernel
theorem dX5_nameAt_75 : decode cX5_nameAt 75 = .ok (.aload_n 0, 1) := by decide +kernel
theorem dX5_nameAt_76 : decode cX5_nameAt 76 = .ok (.iload_n 1, 1) := by decide +kernel
theorem dX5_nameAt_77 : decode cX5_nameAt 77 = .ok (.iload_n 2, 1) := by decide +kernel
theorem dX5_nameAt_78 : decode cX5_nameAt 78 = .ok (.ldc 95, 2) := by decide +kernel
theorem dX5_nameAt_80 : decode cX5_nameAt 80 = .ok (.invokevirtual 83, 3) := by decide +kernel
theorem dX5_nameAt_83 : decode cX5_nameAt 83 = .ok (.ifCond .eq 7, 3) := by decide +kernel
theorem dX5_nameAt_86 : decode cX5_nameAt 86 = .ok (.iconst 5, 1) := by decide +kernel
theorem dX5_nameAt_87 : decode cX5_nameAt 87 = .ok (.goto 197, 3) := by decide +kernel
theorem dX5_nameAt_90 : decode cX5_nameAt 90 = .ok (.aload_n 0, 1) := by decide +kernel
theorem dX5_nameAt_91 : decode cX5_nameAt 91 = .ok (.iload_n 1, 1) := by decide +kernel
theorem dX5_nameAt_92 : decode cX5_nameAt 92 = .ok (.iload_n 2, 1) := by decide +kernel
theorem dX5_nameAt_93 : decode cX5_nameAt 93 = .ok (.ldc 97, 2) := by decide +kernel
theorem dX5_nameAt_95 : decode cX5_nameAt 95 = .ok (.invokevirtual 83, 3) := by decide +kernel
theorem dX5_nameAt_98 : decode cX5_nameAt 98 = .ok (.ifCond .eq 8, 3) := by decide +kernel
theorem dX5_nameAt_101 : decode cX5_nameAt 101 = .ok (.bipush 10, 2) := by decide +kernel
theorem dX5_nameAt_103 : decode cX5_nameAt 103 = .ok (.goto 181, 3) := by decide +kernel
theorem dX5_nameAt_106 : decode cX5_nameAt 106 = .ok (.aload_n 0, 1) := by decide +kernel
theorem dX5_nameAt_107 : decode cX5_nameAt 107 = .ok (.iload_n 1, 1) := by decide +kernel
theorem dX5_nameAt_108 : decode cX5_nameAt 108 = .ok (.iload_n 2, 1) := by decide +kernel
theorem dX5_nameAt_109 : decode cX5_nameAt 109 = .ok (.ldc 99, 2) := by decide +kernel
theorem dX5_nameAt_111 : decode cX5_nameAt 111 = .ok (.invokevirtual 83, 3) := by decide +kernel
theorem dX5_nameAt_114 : decode cX5_nameAt 114 = .ok (.ifCond .eq 8, 3) := by decide +kernel
theorem dX5_nameAt_117 : decode cX5_nameAt 117 = .ok (.bipush 11, 2) := by decide +kernel
theorem dX5_nameAt_119 : decode cX5_nameAt 119 = .ok (.goto 165, 3) := by decide +kernel
theorem dX5_nameAt_122 : decode cX5_nameAt 122 = .ok (.aload_n 0, 1) := by decide +kernel
theorem dX5_nameAt_123 : decode cX5_nameAt 123 = .ok (.iload_n 1, 1) := by decide +kernel
theorem dX5_nameAt_124 : decode cX5_nameAt 124 = .ok (.iload_n 2, 1) := by decide +kernel
theorem dX5_nameAt_125 : decode cX5_nameAt 125 = .ok (.ldc 101, 2) := by decide +kernel
theorem dX5_nameAt_127 : decode cX5_nameAt 127 = .ok (.invokevirtual 83, 3) := by decide +kernel
theorem dX5_nameAt_130 : decode cX5_nameAt 130 = .ok (.ifCond .eq 8, 3) := by decide +kernel
theorem dX5_nameAt_133 : decode cX5_nameAt 133 = .ok (.bipush 12, 2) := by decide +kernel
theorem dX5_nameAt_135 : decode cX5_nameAt 135 = .ok (.goto 149, 3) := by decide +kernel
theorem dX5_nameAt_138 : decode cX5_nameAt 138 = .ok (.aload_n 0, 1) := by decide +kernel
theorem dX5_nameAt_139 : decode cX5_nameAt 139 = .ok (.iload_n 1, 1) := by decide +kernel
theorem dX5_nameAt_140 : decode cX5_nameAt 140 = .ok (.iload_n 2, 1) := by decide +kernel
theorem dX5_nameAt_141 : decode cX5_nameAt 141 = .ok (.ldc 103, 2) := by decide +kernel
theorem dX5_nameAt_143 : decode cX5_nameAt 143 = .ok (.invokevirtual 83, 3) := by decide +kernel
theorem dX5_nameAt_146 : decode cX5_nameAt 146 = .ok (.ifCond .eq 8, 3) := by decide +kernel
theorem dX5_nameAt_149 : decode cX5_nameAt 149 = .ok (.bipush 13, 2) := by decide +kernel
theorem dX5_nameAt_151 : decode cX5_nameAt 151 = .ok (.goto 133, 3) := by decide +kernel
theorem dX5_nameAt_154 : decode cX5_nameAt 154 = .ok (.aload_n 0, 1) := by decide +kernel
theorem dX5_nameAt_155 : decode cX5_nameAt 155 = .ok (.iload_n 1, 1) := by decide +kernel
theorem dX5_nameAt_156 : decode cX5_nameAt 156 = .ok (.iload_n 2, 1) := by decide +kernel
theorem dX5_nameAt_157 : decode cX5_nameAt 157 = .ok (.ldc 105, 2) := by decide +kernel
theorem dX5_nameAt_159 : decode cX5_nameAt 159 = .ok (.invokevirtual 83, 3) := by decide +kernel
theorem dX5_nameAt_162 : decode cX5_nameAt 162 = .ok (.ifCond .eq 8, 3) := by decide +kernel
theorem dX5_nameAt_165 : decode cX5_nameAt 165 = .ok (.bipush 14, 2) := by decide +kernel
theorem dX5_nameAt_167 : decode cX5_nameAt 167 = .ok (.goto 117, 3) := by decide +kernel
theorem dX5_nameAt_170 : decode cX5_nameAt 170 = .ok (.aload_n 0, 1) := by decide +kernel
theorem dX5_nameAt_171 : decode cX5_nameAt 171 = .ok (.iload_n 1, 1) := by decide +kernel
theorem dX5_nameAt_172 : decode cX5_nameAt 172 = .ok (.iload_n 2, 1) := by decide +kernel
theorem dX5_nameAt_173 : decode cX5_nameAt 173 = .ok (.ldc 107, 2) := by decide +kernel
theorem dX5_nameAt_175 : decode cX5_nameAt 175 = .ok (.invokevirtual 83, 3) := by decide +kernel
theorem dX5_nameAt_178 : decode cX5_nameAt 178 = .ok (.ifCond .eq 8, 3) := by decide +kernel
theorem dX5_nameAt_181 : decode cX5_nameAt 181 = .ok (.bipush 20, 2) := by decide +kernel
theorem dX5_nameAt_183 : decode cX5_nameAt 183 = .ok (.goto 101, 3) := by decide +kernel
theorem dX5_nameAt_186 : decode cX5_nameAt 186 = .ok (.aload_n 0, 1) := by decide +kernel
theorem dX5_nameAt_187 : decode cX5_nameAt 187 = .ok (.iload_n 1, 1) := by decide +kernel
theorem dX5_nameAt_188 : decode cX5_nameAt 188 = .ok (.iload_n 2, 1) := by decide +kernel
theorem dX5_nameAt_189 : decode cX5_nameAt 189 = .ok (.ldc 109, 2) := by decide +kernel
theorem dX5_nameAt_191 : decode cX5_nameAt 191 = .ok (.invokevirtual 83, 3) := by decide +kernel
theorem dX5_nameAt_194 : decode cX5_nameAt 194 = .ok (.ifCond .eq 8, 3) := by decide +kernel
theorem dX5_nameAt_197 : decode cX5_nameAt 197 = .ok (.bipush 21, 2) := by decide +kernel
theorem dX5_nameAt_199 : decode cX5_nameAt 199 = .ok (.goto 85, 3) := by decide +kernel
theorem dX5_nameAt_202 : decode cX5_nameAt 202 = .ok (.aload_n 0, 1) := by decide +kernel
theorem dX5_nameAt_203 : decode cX5_nameAt 203 = .ok (.iload_n 1, 1) := by decide +kernel
theorem dX5_nameAt_204 : decode cX5_nameAt 204 = .ok (.iload_n 2, 1) := by decide +kernel
theorem dX5_nameAt_205 : decode cX5_nameAt 205 = .ok (.ldc 111, 2) := by decide +kernel
theorem dX5_nameAt_207 : decode cX5_nameAt 207 = .ok (.invokevirtual 83, 3) := by decide +kernel
theorem dX5_nameAt_210 : decode cX5_nameAt 210 = .ok (.ifCond .eq 8, 3) := by decide +kernel
theorem dX5_nameAt_213 : decode cX5_nameAt 213 = .ok (.bipush 22, 2) := by decide +kernel
theorem dX5_nameAt_215 : decode cX5_nameAt 215 = .ok (.goto 69, 3) := by decide +kernel
theorem dX5_nameAt_218 : decode cX5_nameAt 218 = .ok (.aload_n 0, 1) := by decide +kernel
theorem dX5_nameAt_219 : decode cX5_nameAt 219 = .ok (.iload_n 1, 1) := by decide +kernel
theorem dX5_nameAt_220 : decode cX5_nameAt 220 = .ok (.iload_n 2, 1) := by decide +kernel
theorem dX5_nameAt_221 : decode cX5_nameAt 221 = .ok (.ldc 113, 2) := by decide +kernel
theorem dX5_nameAt_223 : decode cX5_nameAt 223 = .ok (.invokevirtual 83, 3) := by decide +kernel
theorem dX5_nameAt_226 : decode cX5_nameAt 226 = .ok (.ifCond .eq 8, 3) := by decide +kernel
theorem dX5_nameAt_229 : decode cX5_nameAt 229 = .ok (.bipush 23, 2) := by decide +kernel
theorem dX5_nameAt_231 : decode cX5_nameAt 231 = .ok (.goto 53, 3) := by decide +kernel
theorem dX5_nameAt_234 : decode cX5_nameAt 234 = .ok (.aload_n 0, 1) := by decide +kernel
theorem dX5_nameAt_235 : decode cX5_nameAt 235 = .ok (.iload_n 1, 1) := by decide +kernel
theorem dX5_nameAt_236 : decode cX5_nameAt 236 = .ok (.iload_n 2, 1) := by decide +kernel
theorem dX5_nameAt_237 : decode cX5_nameAt 237 = .ok (.ldc 115, 2) := by decide +kernel
theorem dX5_nameAt_239 : decode cX5_nameAt 239 = .ok (.invokevirtual 83, 3) := by decide +kernel
theorem dX5_nameAt_242 : decode cX5_nameAt 242 = .ok (.ifCond .eq 8, 3) := by decide +kernel
theorem dX5_nameAt_245 : decode cX5_nameAt 245 = .ok (.bipush 24, 2) := by decide +kernel
theorem dX5_nameAt_247 : decode cX5_nameAt 247 = .ok (.goto 37, 3) := by decide +kernel
theorem dX5_nameAt_250 : decode cX5_nameAt 250 = .ok (.aload_n 0, 1) := by decide +kernel
theorem dX5_nameAt_251 : decode cX5_nameAt 251 = .ok (.iload_n 1, 1) := by decide +kernel
theorem dX5_nameAt_252 : decode cX5_nameAt 252 = .ok (.iload_n 2, 1) := by decide +kernel
theorem dX5_nameAt_253 : decode cX5_nameAt 253 = .ok (.ldc 117, 2) := by decide +kernel
theorem dX5_nameAt_255 : decode cX5_nameAt 255 = .ok (.invokevirtual 83, 3) := by decide +kernel
theorem dX5_nameAt_258 : decode cX5_nameAt 258 = .ok (.ifCond .eq 8, 3) := by decide +kernel
theorem dX5_nameAt_261 : decode cX5_nameAt 261 = .ok (.bipush 25, 2) := by decide +kernel
theorem dX5_nameAt_263 : decode cX5_nameAt 263 = .ok (.goto 21, 3) := by decide +kernel
theorem dX5_nameAt_266 : decode cX5_nameAt 266 = .ok (.aload_n 0, 1) := by decide +kernel
theorem dX5_nameAt_267 : decode cX5_nameAt 267 = .ok (.iload_n 1, 1) := by decide +kernel
theorem dX5_nameAt_268 : decode cX5_nameAt 268 = .ok (.iload_n 2, 1) := by decide +kernel
theorem dX5_nameAt_269 : decode cX5_nameAt 269 = .ok (.ldc 119, 2) := by decide +kernel
theorem dX5_nameAt_271 : decode cX5_nameAt 271 = .ok (.invokevirtual 83, 3) := by decide +kernel
theorem dX5_nameAt_274 : decode cX5_nameAt 274 = .ok (.ifCond .eq 8, 3) := by decide +kernel
theorem dX5_nameAt_277 : decode cX5_nameAt 277 = .ok (.bipush 26, 2) := by decide +kernel
theorem dX5_nameAt_279 : decode cX5_nameAt 279 = .ok (.goto 5, 3) := by decide +kernel
theorem dX5_nameAt_282 : decode cX5_nameAt 282 = .ok (.bipush 41, 2) := by decide +kernel
theorem dX5_nameAt_284 : decode cX5_nameAt 284 = .ok (.ireturn, 1) := by decide +kernel
theorem dX5_spells_0 : decode cX5_spells 0 = .ok (.iload_n 2, 1) := by decide +kernel
theorem dX5_spells_1 : decode cX5_spells 1 = .ok (.iload_n 1, 1) := by decide +kernel
theorem dX5_spells_2 : decode cX5_spells 2 = .ok (.isub, 1) := by decide +kernel
theorem dX5_spells_3 : decode cX5_spells 3 = .ok (.aload_n 3, 1) := by decide +kernel
theorem dX5_spells_4 : decode cX5_spells 4 = .ok (.invokevirtual 121, 3) := by decide +kernel
theorem dX5_spells_7 : decode cX5_spells 7 = .ok (.if_icmp .ne 7, 3) := by decide +kernel
theorem dX5_spells_10 : decode cX5_spells 10 = .ok (.iconst 1, 1) := by decide +kernel
theorem dX5_spells_11 : decode cX5_spells 11 = .ok (.goto 4, 3) := by decide +kernel
theorem dX5_spells_14 : decode cX5_spells 14 = .ok (.iconst 0, 1) := by decide +kernel
theorem dX5_spells_15 : decode cX5_spells 15 = .ok (.istore 4, 2) := by decide +kernel
theorem dX5_spells_17 : decode cX5_spells 17 = .ok (.iload_n 1, 1) := by decide +kernel
theorem dX5_spells_18 : decode cX5_spells 18 = .ok (.istore 5, 2) := by decide +kernel
theorem dX5_spells_20 : decode cX5_spells 20 = .ok (.iload 4, 2) := by decide +kernel
theorem dX5_spells_22 : decode cX5_spells 22 = .ok (.ifCond .eq 40, 3) := by decide +kernel
theorem dX5_spells_25 : decode cX5_spells 25 = .ok (.iload 5, 2) := by decide +kernel
theorem dX5_spells_27 : decode cX5_spells 27 = .ok (.iload_n 2, 1) := by decide +kernel
theorem dX5_spells_28 : decode cX5_spells 28 = .ok (.if_icmp .ge 34, 3) := by decide +kernel
theorem dX5_spells_31 : decode cX5_spells 31 = .ok (.aload_n 0, 1) := by decide +kernel
theorem dX5_spells_32 : decode cX5_spells 32 = .ok (.getfield 18, 3) := by decide +kernel
theorem dX5_spells_35 : decode cX5_spells 35 = .ok (.iload 5, 2) := by decide +kernel
theorem dX5_spells_37 : decode cX5_spells 37 = .ok (.iaload, 1) := by decide +kernel
theorem dX5_spells_38 : decode cX5_spells 38 = .ok (.aload_n 3, 1) := by decide +kernel
theorem dX5_spells_39 : decode cX5_spells 39 = .ok (.iload 5, 2) := by decide +kernel
theorem dX5_spells_41 : decode cX5_spells 41 = .ok (.iload_n 1, 1) := by decide +kernel
theorem dX5_spells_42 : decode cX5_spells 42 = .ok (.isub, 1) := by decide +kernel
theorem dX5_spells_43 : decode cX5_spells 43 = .ok (.invokevirtual 127, 3) := by decide +kernel
theorem dX5_spells_46 : decode cX5_spells 46 = .ok (.if_icmp .ne 7, 3) := by decide +kernel
theorem dX5_spells_49 : decode cX5_spells 49 = .ok (.iconst 1, 1) := by decide +kernel
theorem dX5_spells_50 : decode cX5_spells 50 = .ok (.goto 4, 3) := by decide +kernel
theorem dX5_spells_53 : decode cX5_spells 53 = .ok (.iconst 0, 1) := by decide +kernel
theorem dX5_spells_54 : decode cX5_spells 54 = .ok (.istore 4, 2) := by decide +kernel
theorem dX5_spells_56 : decode cX5_spells 56 = .ok (.iinc 5 1, 3) := by decide +kernel
theorem dX5_spells_59 : decode cX5_spells 59 = .ok (.goto (-39), 3) := by decide +kernel
theorem dX5_spells_62 : decode cX5_spells 62 = .ok (.iload 4, 2) := by decide +kernel
theorem dX5_spells_64 : decode cX5_spells 64 = .ok (.ireturn, 1) := by decide +kernel
theorem dX5_goPast_0 : decode cX5_goPast 0 = .ok (.aload_n 0, 1) := by decide +kernel
theorem dX5_goPast_1 : decode cX5_goPast 1 = .ok (.getfield 22, 3) := by decide +kernel
theorem dX5_goPast_4 : decode cX5_goPast 4 = .ok (.aload_n 0, 1) := by decide +kernel
theorem dX5_goPast_5 : decode cX5_goPast 5 = .ok (.getfield 41, 3) := by decide +kernel
theorem dX5_goPast_8 : decode cX5_goPast 8 = .ok (.iaload, 1) := by decide +kernel
theorem dX5_goPast_9 : decode cX5_goPast 9 = .ok (.iload_n 1, 1) := by decide +kernel
theorem dX5_goPast_10 : decode cX5_goPast 10 = .ok (.if_icmp .ne 9, 3) := by decide +kernel
theorem dX5_goPast_13 : decode cX5_goPast 13 = .ok (.iload_n 1, 1) := by decide +kernel
theorem dX5_goPast_14 : decode cX5_goPast 14 = .ok (.bipush 40, 2) := by decide +kernel
theorem dX5_goPast_16 : decode cX5_goPast 16 = .ok (.if_icmp .ne 5, 3) := by decide +kernel
theorem dX5_goPast_19 : decode cX5_goPast 19 = .ok (.iconst 0, 1) := by decide +kernel
theorem dX5_goPast_20 : decode cX5_goPast 20 = .ok (.ireturn, 1) := by decide +kernel
theorem dX5_goPast_21 : decode cX5_goPast 21 = .ok (.aload_n 0, 1) := by decide +kernel
theorem dX5_goPast_22 : decode cX5_goPast 22 = .ok (.dup, 1) := by decide +kernel
theorem dX5_goPast_23 : decode cX5_goPast 23 = .ok (.getfield 41, 3) := by decide +kernel
theorem dX5_goPast_26 : decode cX5_goPast 26 = .ok (.iconst 1, 1) := by decide +kernel
theorem dX5_goPast_27 : decode cX5_goPast 27 = .ok (.iadd, 1) := by decide +kernel
theorem dX5_goPast_28 : decode cX5_goPast 28 = .ok (.putfield 41, 3) := by decide +kernel
theorem dX5_goPast_31 : decode cX5_goPast 31 = .ok (.iconst 1, 1) := by decide +kernel
theorem dX5_goPast_32 : decode cX5_goPast 32 = .ok (.ireturn, 1) := by decide +kernel
theorem dX5_readRule_0 : decode cX5_readRule 0 = .ok (.aload_n 0, 1) := by decide +kernel
theorem dX5_readRule_1 : decode cX5_readRule 1 = .ok (.getfield 22, 3) := by decide +kernel
theorem dX5_readRule_4 : decode cX5_readRule 4 = .ok (.aload_n 0, 1) := by decide +kernel
theorem dX5_readRule_5 : decode cX5_readRule 5 = .ok (.getfield 41, 3) := by decide +kernel
theorem dX5_readRule_8 : decode cX5_readRule 8 = .ok (.iaload, 1) := by decide +kernel
theorem dX5_readRule_9 : decode cX5_readRule 9 = .ok (.istore_n 1, 1) := by decide +kernel
theorem dX5_readRule_10 : decode cX5_readRule 10 = .ok (.iload_n 1, 1) := by decide +kernel
theorem dX5_readRule_11 : decode cX5_readRule 11 = .ok (.iconst 0, 1) := by decide +kernel
theorem dX5_readRule_12 : decode cX5_readRule 12 = .ok (.iconst 5, 1) := by decide +kernel
theorem dX5_readRule_13 : decode cX5_readRule 13 = .ok (.invokestatic 59, 3) := by decide +kernel
theorem dX5_readRule_16 : decode cX5_readRule 16 = .ok (.ifCond .ne 5, 3) := by decide +kernel
theorem dX5_readRule_19 : decode cX5_readRule 19 = .ok (.iconst 0, 1) := by decide +kernel
theorem dX5_readRule_20 : decode cX5_readRule 20 = .ok (.ireturn, 1) := by decide +kernel
theorem dX5_readRule_21 : decode cX5_readRule 21 = .ok (.aload_n 0, 1) := by decide +kernel
theorem dX5_readRule_22 : decode cX5_readRule 22 = .ok (.dup, 1) := by decide +kernel
theorem dX5_readRule_23 : decode cX5_readRule 23 = .ok (.getfield 41, 3) := by decide +kernel
theorem dX5_readRule_26 : decode cX5_readRule 26 = .ok (.iconst 1, 1) := by decide +kernel
theorem dX5_readRule_27 : decode cX5_readRule 27 = .ok (.iadd, 1) := by decide +kernel
theorem dX5_readRule_28 : decode cX5_readRule 28 = .ok (.putfield 41, 3) := by decide +kernel
theorem dX5_readRule_31 : decode cX5_readRule 31 = .ok (.aload_n 0, 1) := by decide +kernel
theorem dX5_readRule_32 : decode cX5_readRule 32 = .ok (.bipush 20, 2) := by decide +kernel
theorem dX5_readRule_34 : decode cX5_readRule 34 = .ok (.invokevirtual 131, 3) := by decide +kernel
theorem dX5_readRule_37 : decode cX5_readRule 37 = .ok (.ifCond .eq 13, 3) := by decide +kernel
theorem dX5_readRule_40 : decode cX5_readRule 40 = .ok (.aload_n 0, 1) := by decide +kernel
theorem dX5_readRule_41 : decode cX5_readRule 41 = .ok (.iconst 0, 1) := by decide +kernel
theorem dX5_readRule_42 : decode cX5_readRule 42 = .ok (.invokevirtual 134, 3) := by decide +kernel
theorem dX5_readRule_45 : decode cX5_readRule 45 = .ok (.ifCond .ne 5, 3) := by decide +kernel
theorem dX5_readRule_48 : decode cX5_readRule 48 = .ok (.iconst 0, 1) := by decide +kernel
theorem dX5_readRule_49 : decode cX5_readRule 49 = .ok (.ireturn, 1) := by decide +kernel
theorem dX5_readRule_50 : decode cX5_readRule 50 = .ok (.aload_n 0, 1) := by decide +kernel
theorem dX5_readRule_51 : decode cX5_readRule 51 = .ok (.getfield 22, 3) := by decide +kernel
theorem dX5_readRule_54 : decode cX5_readRule 54 = .ok (.aload_n 0, 1) := by decide +kernel
theorem dX5_readRule_55 : decode cX5_readRule 55 = .ok (.getfield 41, 3) := by decide +kernel
theorem dX5_readRule_58 : decode cX5_readRule 58 = .ok (.iaload, 1) := by decide +kernel
theorem dX5_readRule_59 : decode cX5_readRule 59 = .ok (.istore_n 2, 1) := by decide +kernel
theorem dX5_readRule_60 : decode cX5_readRule 60 = .ok (.iload_n 2, 1) := by decide +kernel
theorem dX5_readRule_61 : decode cX5_readRule 61 = .ok (.bipush 24, 2) := by decide +kernel
theorem dX5_readRule_63 : decode cX5_readRule 63 = .ok (.bipush 26, 2) := by decide +kernel
theorem dX5_readRule_65 : decode cX5_readRule 65 = .ok (.invokestatic 59, 3) := by decide +kernel
theorem dX5_readRule_68 : decode cX5_readRule 68 = .ok (.ifCond .ne 5, 3) := by decide +kernel
theorem dX5_readRule_71 : decode cX5_readRule 71 = .ok (.iconst 0, 1) := by decide +kernel
theorem dX5_readRule_72 : decode cX5_readRule 72 = .ok (.ireturn, 1) := by decide +kernel
theorem dX5_readRule_73 : decode cX5_readRule 73 = .ok (.aload_n 0, 1) := by decide +kernel
theorem dX5_readRule_74 : decode cX5_readRule 74 = .ok (.dup, 1) := by decide +kernel
theorem dX5_readRule_75 : decode cX5_readRule 75 = .ok (.getfield 41, 3) := by decide +kernel
theorem dX5_readRule_78 : decode cX5_readRule 78 = .ok (.iconst 1, 1) := by decide +kernel
theorem dX5_readRule_79 : decode cX5_readRule 79 = .ok (.iadd, 1) := by decide +kernel
theorem dX5_readRule_80 : decode cX5_readRule 80 = .ok (.putfield 41, 3) := by decide +kernel
theorem dX5_readRule_83 : decode cX5_readRule 83 = .ok (.iconst 0, 1) := by decide +kernel
theorem dX5_readRule_84 : decode cX5_readRule 84 = .ok (.istore_n 3, 1) := by decide +kernel
theorem dX5_readRule_85 : decode cX5_readRule 85 = .ok (.iload_n 2, 1) := by decide +kernel
theorem dX5_readRule_86 : decode cX5_readRule 86 = .ok (.bipush 26, 2) := by decide +kernel
theorem dX5_readRule_88 : decode cX5_readRule 88 = .ok (.if_icmp .eq 62, 3) := by decide +kernel
theorem dX5_readRule_91 : decode cX5_readRule 91 = .ok (.aload_n 0, 1) := by decide +kernel
theorem dX5_readRule_92 : decode cX5_readRule 92 = .ok (.getfield 22, 3) := by decide +kernel
theorem dX5_readRule_95 : decode cX5_readRule 95 = .ok (.aload_n 0, 1) := by decide +kernel
theorem dX5_readRule_96 : decode cX5_readRule 96 = .ok (.getfield 41, 3) := by decide +kernel
theorem dX5_readRule_99 : decode cX5_readRule 99 = .ok (.iaload, 1) := by decide +kernel
theorem dX5_readRule_100 : decode cX5_readRule 100 = .ok (.bipush 30, 2) := by decide +kernel
theorem dX5_readRule_102 : decode cX5_readRule 102 = .ok (.if_icmp .ne 23, 3) := by decide +kernel
theorem dX5_readRule_105 : decode cX5_readRule 105 = .ok (.aload_n 0, 1) := by decide +kernel
theorem dX5_readRule_106 : decode cX5_readRule 106 = .ok (.getfield 12, 3) := by decide +kernel
theorem dX5_readRule_109 : decode cX5_readRule 109 = .ok (.getfield 137, 3) := by decide +kernel
theorem dX5_readRule_112 : decode cX5_readRule 112 = .ok (.aload_n 0, 1) := by decide +kernel
theorem dX5_readRule_113 : decode cX5_readRule 113 = .ok (.getfield 28, 3) := by decide +kernel
theorem dX5_readRule_116 : decode cX5_readRule 116 = .ok (.aload_n 0, 1) := by decide +kernel
theorem dX5_readRule_117 : decode cX5_readRule 117 = .ok (.getfield 41, 3) := by decide +kernel
theorem dX5_readRule_120 : decode cX5_readRule 120 = .ok (.iaload, 1) := by decide +kernel
theorem dX5_readRule_121 : decode cX5_readRule 121 = .ok (.iaload, 1) := by decide +kernel
theorem dX5_readRule_122 : decode cX5_readRule 122 = .ok (.goto 5, 3) := by decide +kernel
theorem dX5_readRule_125 : decode cX5_readRule 125 = .ok (.bipush (-3), 2) := by decide +kernel
theorem dX5_readRule_127 : decode cX5_readRule 127 = .ok (.istore_n 3, 1) := by decide +kernel
theorem dX5_readRule_128 : decode cX5_readRule 128 = .ok (.iload_n 3, 1) := by decide +kernel
theorem dX5_readRule_129 : decode cX5_readRule 129 = .ok (.iconst 0, 1) := by decide +kernel
theorem dX5_readRule_130 : decode cX5_readRule 130 = .ok (.bipush 99, 2) := by decide +kernel
theorem dX5_readRule_132 : decode cX5_readRule 132 = .ok (.invokestatic 59, 3) := by decide +kernel
theorem dX5_readRule_135 : decode cX5_readRule 135 = .ok (.ifCond .ne 5, 3) := by decide +kernel
theorem dX5_readRule_138 : decode cX5_readRule 138 = .ok (.iconst 0, 1) := by decide +kernel
theorem dX5_readRule_139 : decode cX5_readRule 139 = .ok (.ireturn, 1) := by decide +kernel
theorem dX5_readRule_140 : decode cX5_readRule 140 = .ok (.aload_n 0, 1) := by decide +kernel
theorem dX5_readRule_141 : decode cX5_readRule 141 = .ok (.dup, 1) := by decide +kernel
theorem dX5_readRule_142 : decode cX5_readRule 142 = .ok (.getfield 41, 3) := by decide +kernel
theorem dX5_readRule_145 : decode cX5_readRule 145 = .ok (.iconst 1, 1) := by decide +kernel
theorem dX5_readRule_146 : decode cX5_readRule 146 = .ok (.iadd, 1) := by decide +kernel
theorem dX5_readRule_147 : decode cX5_readRule 147 = .ok (.putfield 41, 3) := by decide +kernel
theorem dX5_readRule_150 : decode cX5_readRule 150 = .ok (.aload_n 0, 1) := by decide +kernel
theorem dX5_readRule_151 : decode cX5_readRule 151 = .ok (.getfield 12, 3) := by decide +kernel
theorem dX5_readRule_154 : decode cX5_readRule 154 = .ok (.iload_n 1, 1) := by decide +kernel
theorem dX5_readRule_155 : decode cX5_readRule 155 = .ok (.iload_n 2, 1) := by decide +kernel
theorem dX5_readRule_156 : decode cX5_readRule 156 = .ok (.iload_n 3, 1) := by decide +kernel
theorem dX5_readRule_157 : decode cX5_readRule 157 = .ok (.invokevirtual 140, 3) := by decide +kernel
theorem dX5_readRule_160 : decode cX5_readRule 160 = .ok (.aload_n 0, 1) := by decide +kernel
theorem dX5_readRule_161 : decode cX5_readRule 161 = .ok (.bipush 36, 2) := by decide +kernel
theorem dX5_readRule_163 : decode cX5_readRule 163 = .ok (.invokevirtual 131, 3) := by decide +kernel
theorem dX5_readRule_166 : decode cX5_readRule 166 = .ok (.ireturn, 1) := by decide +kernel
theorem dX5_readCond_0 : decode cX5_readCond 0 = .ok (.aload_n 0, 1) := by decide +kernel
theorem dX5_readCond_1 : decode cX5_readCond 1 = .ok (.iload_n 1, 1) := by decide +kernel
theorem dX5_readCond_2 : decode cX5_readCond 2 = .ok (.invokevirtual 143, 3) := by decide +kernel
theorem dX5_readCond_5 : decode cX5_readCond 5 = .ok (.istore_n 2, 1) := by decide +kernel
theorem dX5_readCond_6 : decode cX5_readCond 6 = .ok (.iconst 0, 1) := by decide +kernel
theorem dX5_readCond_7 : decode cX5_readCond 7 = .ok (.istore_n 3, 1) := by decide +kernel
theorem dX5_readCond_8 : decode cX5_readCond 8 = .ok (.iload_n 3, 1) := by decide +kernel
theorem dX5_readCond_9 : decode cX5_readCond 9 = .ok (.sipush 200, 3) := by decide +kernel
theorem dX5_readCond_12 : decode cX5_readCond 12 = .ok (.if_icmp .ge 39, 3) := by decide +kernel
theorem dX5_readCond_15 : decode cX5_readCond 15 = .ok (.iload_n 2, 1) := by decide +kernel
theorem dX5_readCond_16 : decode cX5_readCond 16 = .ok (.ifCond .eq 35, 3) := by decide +kernel
theorem dX5_readCond_19 : decode cX5_readCond 19 = .ok (.aload_n 0, 1) := by decide +kernel
theorem dX5_readCond_20 : decode cX5_readCond 20 = .ok (.bipush 22, 2) := by decide +kernel
theorem dX5_readCond_22 : decode cX5_readCond 22 = .ok (.invokevirtual 131, 3) := by decide +kernel
theorem dX5_readCond_25 : decode cX5_readCond 25 = .ok (.ifCond .eq 26, 3) := by decide +kernel
theorem dX5_readCond_28 : decode cX5_readCond 28 = .ok (.aload_n 0, 1) := by decide +kernel
theorem dX5_readCond_29 : decode cX5_readCond 29 = .ok (.iload_n 1, 1) := by decide +kernel
theorem dX5_readCond_30 : decode cX5_readCond 30 = .ok (.invokevirtual 143, 3) := by decide +kernel
theorem dX5_readCond_33 : decode cX5_readCond 33 = .ok (.istore_n 2, 1) := by decide +kernel
theorem dX5_readCond_34 : decode cX5_readCond 34 = .ok (.aload_n 0, 1) := by decide +kernel
theorem dX5_readCond_35 : decode cX5_readCond 35 = .ok (.getfield 12, 3) := by decide +kernel
theorem dX5_readCond_38 : decode cX5_readCond 38 = .ok (.bipush 22, 2) := by decide +kernel
theorem dX5_readCond_40 : decode cX5_readCond 40 = .ok (.iconst 0, 1) := by decide +kernel
theorem dX5_readCond_41 : decode cX5_readCond 41 = .ok (.iconst 0, 1) := by decide +kernel
theorem dX5_readCond_42 : decode cX5_readCond 42 = .ok (.invokevirtual 146, 3) := by decide +kernel
theorem dX5_readCond_45 : decode cX5_readCond 45 = .ok (.iinc 3 1, 3) := by decide +kernel
theorem dX5_readCond_48 : decode cX5_readCond 48 = .ok (.goto (-40), 3) := by decide +kernel
theorem dX5_readCond_51 : decode cX5_readCond 51 = .ok (.iload_n 2, 1) := by decide +kernel
theorem dX5_readCond_52 : decode cX5_readCond 52 = .ok (.ireturn, 1) := by decide +kernel
theorem dX5_readAll_0 : decode cX5_readAll 0 = .ok (.aload_n 0, 1) := by decide +kernel
theorem dX5_readAll_1 : decode cX5_readAll 1 = .ok (.iload_n 1, 1) := by decide +kernel
theorem dX5_readAll_2 : decode cX5_readAll 2 = .ok (.invokevirtual 149, 3) := by decide +kernel
theorem dX5_readAll_5 : decode cX5_readAll 5 = .ok (.istore_n 2, 1) := by decide +kernel
theorem dX5_readAll_6 : decode cX5_readAll 6 = .ok (.iconst 0, 1) := by decide +kernel
theorem dX5_readAll_7 : decode cX5_readAll 7 = .ok (.istore_n 3, 1) := by decide +kernel
theorem dX5_readAll_8 : decode cX5_readAll 8 = .ok (.iload_n 3, 1) := by decide +kernel
theorem dX5_readAll_9 : decode cX5_readAll 9 = .ok (.sipush 200, 3) := by decide +kernel
theorem dX5_readAll_12 : decode cX5_readAll 12 = .ok (.if_icmp .ge 39, 3) := by decide +kernel
theorem dX5_readAll_15 : decode cX5_readAll 15 = .ok (.iload_n 2, 1) := by decide +kernel
theorem dX5_readAll_16 : decode cX5_readAll 16 = .ok (.ifCond .eq 35, 3) := by decide +kernel
theorem dX5_readAll_19 : decode cX5_readAll 19 = .ok (.aload_n 0, 1) := by decide +kernel
theorem dX5_readAll_20 : decode cX5_readAll 20 = .ok (.bipush 21, 2) := by decide +kernel
theorem dX5_readAll_22 : decode cX5_readAll 22 = .ok (.invokevirtual 131, 3) := by decide +kernel
theorem dX5_readAll_25 : decode cX5_readAll 25 = .ok (.ifCond .eq 26, 3) := by decide +kernel
theorem dX5_readAll_28 : decode cX5_readAll 28 = .ok (.aload_n 0, 1) := by decide +kernel
theorem dX5_readAll_29 : decode cX5_readAll 29 = .ok (.iload_n 1, 1) := by decide +kernel
theorem dX5_readAll_30 : decode cX5_readAll 30 = .ok (.invokevirtual 149, 3) := by decide +kernel
theorem dX5_readAll_33 : decode cX5_readAll 33 = .ok (.istore_n 2, 1) := by decide +kernel
theorem dX5_readAll_34 : decode cX5_readAll 34 = .ok (.aload_n 0, 1) := by decide +kernel
theorem dX5_readAll_35 : decode cX5_readAll 35 = .ok (.getfield 12, 3) := by decide +kernel
theorem dX5_readAll_38 : decode cX5_readAll 38 = .ok (.bipush 21, 2) := by decide +kernel
theorem dX5_readAll_40 : decode cX5_readAll 40 = .ok (.iconst 0, 1) := by decide +kernel
theorem dX5_readAll_41 : decode cX5_readAll 41 = .ok (.iconst 0, 1) := by decide +kernel
theorem dX5_readAll_42 : decode cX5_readAll 42 = .ok (.invokevirtual 146, 3) := by decide +kernel
theorem dX5_readAll_45 : decode cX5_readAll 45 = .ok (.iinc 3 1, 3) := by decide +kernel
theorem dX5_readAll_48 : decode cX5_readAll 48 = .ok (.goto (-40), 3) := by decide +kernel
theorem dX5_readAll_51 : decode cX5_readAll 51 = .ok (.iload_n 2, 1) := by decide +kernel
theorem dX5_readAll_52 : decode cX5_readAll 52 = .ok (.ireturn, 1) := by decide +kernel
theorem dX5_readOne_0 : decode cX5_readOne 0 = .ok (.iconst 0, 1) := by decide +kernel
theorem dX5_readOne_1 : decode cX5_readOne 1 = .ok (.istore_n 2, 1) := by decide +kernel
theorem dX5_readOne_2 : decode cX5_readOne 2 = .ok (.iconst 0, 1) := by decide +kernel
theorem dX5_readOne_3 : decode cX5_readOne 3 = .ok (.istore_n 3, 1) := by decide +kernel
theorem dX5_readOne_4 : decode cX5_readOne 4 = .ok (.iload_n 3, 1) := by decide +kernel
theorem dX5_readOne_5 : decode cX5_readOne 5 = .ok (.sipush 200, 3) := by decide +kernel
theorem dX5_readOne_8 : decode cX5_readOne 8 = .ok (.if_icmp .ge 28, 3) := by decide +kernel
theorem dX5_readOne_11 : decode cX5_readOne 11 = .ok (.aload_n 0, 1) := by decide +kernel
theorem dX5_readOne_12 : decode cX5_readOne 12 = .ok (.bipush 23, 2) := by decide +kernel
theorem dX5_readOne_14 : decode cX5_readOne 14 = .ok (.invokevirtual 131, 3) := by decide +kernel
theorem dX5_readOne_17 : decode cX5_readOne 17 = .ok (.ifCond .eq 19, 3) := by decide +kernel
theorem dX5_readOne_20 : decode cX5_readOne 20 = .ok (.iload_n 2, 1) := by decide +kernel
theorem dX5_readOne_21 : decode cX5_readOne 21 = .ok (.ifCond .ne 7, 3) := by decide +kernel
theorem dX5_readOne_24 : decode cX5_readOne 24 = .ok (.iconst 1, 1) := by decide +kernel
theorem dX5_readOne_25 : decode cX5_readOne 25 = .ok (.goto 4, 3) := by decide +kernel
theorem dX5_readOne_28 : decode cX5_readOne 28 = .ok (.iconst 0, 1) := by decide +kernel
theorem dX5_readOne_29 : decode cX5_readOne 29 = .ok (.istore_n 2, 1) := by decide +kernel
theorem dX5_readOne_30 : decode cX5_readOne 30 = .ok (.iinc 3 1, 3) := by decide +kernel
theorem dX5_readOne_33 : decode cX5_readOne 33 = .ok (.goto (-29), 3) := by decide +kernel
theorem dX5_readOne_36 : decode cX5_readOne 36 = .ok (.iload_n 1, 1) := by decide +kernel
theorem dX5_readOne_37 : decode cX5_readOne 37 = .ok (.iconst 3, 1) := by decide +kernel
theorem dX5_readOne_38 : decode cX5_readOne 38 = .ok (.if_icmp .ge 39, 3) := by decide +kernel
theorem dX5_readOne_41 : decode cX5_readOne 41 = .ok (.aload_n 0, 1) := by decide +kernel
theorem dX5_readOne_42 : decode cX5_readOne 42 = .ok (.bipush 34, 2) := by decide +kernel
theorem dX5_readOne_44 : decode cX5_readOne 44 = .ok (.invokevirtual 131, 3) := by decide +kernel
theorem dX5_readOne_47 : decode cX5_readOne 47 = .ok (.ifCond .eq 30, 3) := by decide +kernel
theorem dX5_readOne_50 : decode cX5_readOne 50 = .ok (.aload_n 0, 1) := by decide +kernel
theorem dX5_readOne_51 : decode cX5_readOne 51 = .ok (.iload_n 1, 1) := by decide +kernel
theorem dX5_readOne_52 : decode cX5_readOne 52 = .ok (.iconst 1, 1) := by decide +kernel
theorem dX5_readOne_53 : decode cX5_readOne 53 = .ok (.iadd, 1) := by decide +kernel
theorem dX5_readOne_54 : decode cX5_readOne 54 = .ok (.invokevirtual 134, 3) := by decide +kernel
theorem dX5_readOne_57 : decode cX5_readOne 57 = .ok (.ifCond .eq 16, 3) := by decide +kernel
theorem dX5_readOne_60 : decode cX5_readOne 60 = .ok (.aload_n 0, 1) := by decide +kernel
theorem dX5_readOne_61 : decode cX5_readOne 61 = .ok (.bipush 35, 2) := by decide +kernel
theorem dX5_readOne_63 : decode cX5_readOne 63 = .ok (.invokevirtual 131, 3) := by decide +kernel
theorem dX5_readOne_66 : decode cX5_readOne 66 = .ok (.ifCond .eq 7, 3) := by decide +kernel
theorem dX5_readOne_69 : decode cX5_readOne 69 = .ok (.iconst 1, 1) := by decide +kernel
theorem dX5_readOne_70 : decode cX5_readOne 70 = .ok (.goto 11, 3) := by decide +kernel
theorem dX5_readOne_73 : decode cX5_readOne 73 = .ok (.iconst 0, 1) := by decide +kernel
theorem dX5_readOne_74 : decode cX5_readOne 74 = .ok (.goto 7, 3) := by decide +kernel
theorem dX5_readOne_77 : decode cX5_readOne 77 = .ok (.aload_n 0, 1) := by decide +kernel
theorem dX5_readOne_78 : decode cX5_readOne 78 = .ok (.invokevirtual 152, 3) := by decide +kernel
theorem dX5_readOne_81 : decode cX5_readOne 81 = .ok (.istore_n 3, 1) := by decide +kernel
theorem dX5_readOne_82 : decode cX5_readOne 82 = .ok (.iload_n 2, 1) := by decide +kernel
theorem dX5_readOne_83 : decode cX5_readOne 83 = .ok (.ifCond .eq 14, 3) := by decide +kernel
theorem dX5_readOne_86 : decode cX5_readOne 86 = .ok (.aload_n 0, 1) := by decide +kernel
theorem dX5_readOne_87 : decode cX5_readOne 87 = .ok (.getfield 12, 3) := by decide +kernel
theorem dX5_readOne_90 : decode cX5_readOne 90 = .ok (.bipush 23, 2) := by decide +kernel
theorem dX5_readOne_92 : decode cX5_readOne 92 = .ok (.iconst 0, 1) := by decide +kernel
theorem dX5_readOne_93 : decode cX5_readOne 93 = .ok (.iconst 0, 1) := by decide +kernel
theorem dX5_readOne_94 : decode cX5_readOne 94 = .ok (.invokevirtual 146, 3) := by decide +kernel
theorem dX5_readOne_97 : decode cX5_readOne 97 = .ok (.iload_n 3, 1) := by decide +kernel
theorem dX5_readOne_98 : decode cX5_readOne 98 = .ok (.ireturn, 1) := by decide +kernel
theorem dX5_readComparison_0 : decode cX5_readComparison 0 = .ok (.aload_n 0, 1) := by decide +kernel
theorem dX5_readComparison_1 : decode cX5_readComparison 1 = .ok (.getfield 28, 3) := by decide +kernel
theorem dX5_readComparison_4 : decode cX5_readComparison 4 = .ok (.aload_n 0, 1) := by decide +kernel
theorem dX5_readComparison_5 : decode cX5_readComparison 5 = .ok (.getfield 41, 3) := by decide +kernel
theorem dX5_readComparison_8 : decode cX5_readComparison 8 = .ok (.iaload, 1) := by decide +kernel
theorem dX5_readComparison_9 : decode cX5_readComparison 9 = .ok (.istore_n 1, 1) := by decide +kernel
theorem dX5_readComparison_10 : decode cX5_readComparison 10 = .ok (.iload_n 1, 1) := by decide +kernel
theorem dX5_readComparison_11 : decode cX5_readComparison 11 = .ok (.ifCond .ge 5, 3) := by decide +kernel
theorem dX5_readComparison_14 : decode cX5_readComparison 14 = .ok (.iconst 0, 1) := by decide +kernel
theorem dX5_readComparison_15 : decode cX5_readComparison 15 = .ok (.ireturn, 1) := by decide +kernel
theorem dX5_readComparison_16 : decode cX5_readComparison 16 = .ok (.aload_n 0, 1) := by decide +kernel
theorem dX5_readComparison_17 : decode cX5_readComparison 17 = .ok (.dup, 1) := by decide +kernel
theorem dX5_readComparison_18 : decode cX5_readComparison 18 = .ok (.getfield 41, 3) := by decide +kernel
theorem dX5_readComparison_21 : decode cX5_readComparison 21 = .ok (.iconst 1, 1) := by decide +kernel
theorem dX5_readComparison_22 : decode cX5_readComparison 22 = .ok (.iadd, 1) := by decide +kernel
theorem dX5_readComparison_23 : decode cX5_readComparison 23 = .ok (.putfield 41, 3) := by decide +kernel
theorem dX5_readComparison_26 : decode cX5_readComparison 26 = .ok (.aload_n 0, 1) := by decide +kernel
theorem dX5_readComparison_27 : decode cX5_readComparison 27 = .ok (.getfield 22, 3) := by decide +kernel
theorem dX5_readComparison_30 : decode cX5_readComparison 30 = .ok (.aload_n 0, 1) := by decide +kernel
theorem dX5_readComparison_31 : decode cX5_readComparison 31 = .ok (.getfield 41, 3) := by decide +kernel
theorem dX5_readComparison_34 : decode cX5_readComparison 34 = .ok (.iaload, 1) := by decide +kernel
theorem dX5_readComparison_35 : decode cX5_readComparison 35 = .ok (.istore_n 2, 1) := by decide +kernel
theorem dX5_readComparison_36 : decode cX5_readComparison 36 = .ok (.iload_n 2, 1) := by decide +kernel
theorem dX5_readComparison_37 : decode cX5_readComparison 37 = .ok (.bipush 31, 2) := by decide +kernel
theorem dX5_readComparison_39 : decode cX5_readComparison 39 = .ok (.bipush 33, 2) := by decide +kernel
theorem dX5_readComparison_41 : decode cX5_readComparison 41 = .ok (.invokestatic 59, 3) := by decide +kernel
theorem dX5_readComparison_44 : decode cX5_readComparison 44 = .ok (.ifCond .ne 5, 3) := by decide +kernel
theorem dX5_readComparison_47 : decode cX5_readComparison 47 = .ok (.iconst 0, 1) := by decide +kernel
theorem dX5_readComparison_48 : decode cX5_readComparison 48 = .ok (.ireturn, 1) := by decide +kernel
theorem dX5_readComparison_49 : decode cX5_readComparison 49 = .ok (.aload_n 0, 1) := by decide +kernel
theorem dX5_readComparison_50 : decode cX5_readComparison 50 = .ok (.dup, 1) := by decide +kernel
theorem dX5_readComparison_51 : decode cX5_readComparison 51 = .ok (.getfield 41, 3) := by decide +kernel
theorem dX5_readComparison_54 : decode cX5_readComparison 54 = .ok (.iconst 1, 1) := by decide +kernel
theorem dX5_readComparison_55 : decode cX5_readComparison 55 = .ok (.iadd, 1) := by decide +kernel
theorem dX5_readComparison_56 : decode cX5_readComparison 56 = .ok (.putfield 41, 3) := by decide +kernel
theorem dX5_readComparison_59 : decode cX5_readComparison 59 = .ok (.aload_n 0, 1) := by decide +kernel
theorem dX5_readComparison_60 : decode cX5_readComparison 60 = .ok (.getfield 28, 3) := by decide +kernel
theorem dX5_readComparison_63 : decode cX5_readComparison 63 = .ok (.aload_n 0, 1) := by decide +kernel
theorem dX5_readComparison_64 : decode cX5_readComparison 64 = .ok (.getfield 41, 3) := by decide +kernel
theorem dX5_readComparison_67 : decode cX5_readComparison 67 = .ok (.iaload, 1) := by decide +kernel
theorem dX5_readComparison_68 : decode cX5_readComparison 68 = .ok (.istore_n 3, 1) := by decide +kernel
theorem dX5_readComparison_69 : decode cX5_readComparison 69 = .ok (.iload_n 3, 1) := by decide +kernel
theorem dX5_readComparison_70 : decode cX5_readComparison 70 = .ok (.ifCond .ge 5, 3) := by decide +kernel
theorem dX5_readComparison_73 : decode cX5_readComparison 73 = .ok (.iconst 0, 1) := by decide +kernel
theorem dX5_readComparison_74 : decode cX5_readComparison 74 = .ok (.ireturn, 1) := by decide +kernel
theorem dX5_readComparison_75 : decode cX5_readComparison 75 = .ok (.aload_n 0, 1) := by decide +kernel
theorem dX5_readComparison_76 : decode cX5_readComparison 76 = .ok (.dup, 1) := by decide +kernel
theorem dX5_readComparison_77 : decode cX5_readComparison 77 = .ok (.getfield 41, 3) := by decide +kernel
theorem dX5_readComparison_80 : decode cX5_readComparison 80 = .ok (.iconst 1, 1) := by decide +kernel
theorem dX5_readComparison_81 : decode cX5_readComparison 81 = .ok (.iadd, 1) := by decide +kernel
theorem dX5_readComparison_82 : decode cX5_readComparison 82 = .ok (.putfield 41, 3) := by decide +kernel
theorem dX5_readComparison_85 : decode cX5_readComparison 85 = .ok (.aload_n 0, 1) := by decide +kernel
theorem dX5_readComparison_86 : decode cX5_readComparison 86 = .ok (.getfield 12, 3) := by decide +kernel
theorem dX5_readComparison_89 : decode cX5_readComparison 89 = .ok (.iload_n 2, 1) := by decide +kernel
theorem dX5_readComparison_90 : decode cX5_readComparison 90 = .ok (.iload_n 1, 1) := by decide +kernel
theorem dX5_readComparison_91 : decode cX5_readComparison 91 = .ok (.iload_n 3, 1) := by decide +kernel
theorem dX5_readComparison_92 : decode cX5_readComparison 92 = .ok (.invokevirtual 146, 3) := by decide +kernel
theorem dX5_readComparison_95 : decode cX5_readComparison 95 = .ok (.iconst 1, 1) := by decide +kernel
theorem dX5_readComparison_96 : decode cX5_readComparison 96 = .ok (.ireturn, 1) := by decide +kernel
theorem dX6_init_0 : decode cX6_init 0 = .ok (.aload_n 0, 1) := by decide +kernel
theorem dX6_init_1 : decode cX6_init 1 = .ok (.invokespecial 3, 3) := by decide +kernel
theorem dX6_init_4 : decode cX6_init 4 = .ok (.aload_n 0, 1) := by decide +kernel
theorem dX6_init_5 : decode cX6_init 5 = .ok (.bipush 8, 2) := by decide +kernel
theorem dX6_init_7 : decode cX6_init 7 = .ok (.newarray .int, 2) := by decide +kernel
theorem dX6_init_9 : decode cX6_init 9 = .ok (.putfield 9, 3) := by decide +kernel
theorem dX6_init_12 : decode cX6_init 12 = .ok (.aload_n 0, 1) := by decide +kernel
theorem dX6_init_13 : decode cX6_init 13 = .ok (.bipush 8, 2) := by decide +kernel
theorem dX6_init_15 : decode cX6_init 15 = .ok (.newarray .int, 2) := by decide +kernel
theorem dX6_init_17 : decode cX6_init 17 = .ok (.putfield 15, 3) := by decide +kernel
theorem dX6_init_20 : decode cX6_init 20 = .ok (.aload_n 0, 1) := by decide +kernel
theorem dX6_init_21 : decode cX6_init 21 = .ok (.bipush 8, 2) := by decide +kernel
theorem dX6_init_23 : decode cX6_init 23 = .ok (.newarray .int, 2) := by decide +kernel
theorem dX6_init_25 : decode cX6_init 25 = .ok (.putfield 18, 3) := by decide +kernel
theorem dX6_init_28 : decode cX6_init 28 = .ok (.aload_n 0, 1) := by decide +kernel
theorem dX6_init_29 : decode cX6_init 29 = .ok (.bipush 8, 2) := by decide +kernel
theorem dX6_init_31 : decode cX6_init 31 = .ok (.newarray .int, 2) := by decide +kernel
theorem dX6_init_33 : decode cX6_init 33 = .ok (.putfield 21, 3) := by decide +kernel
theorem dX6_init_36 : decode cX6_init 36 = .ok (.aload_n 0, 1) := by decide +kernel
theorem dX6_init_37 : decode cX6_init 37 = .ok (.sipush 200, 3) := by decide +kernel
theorem dX6_init_40 : decode cX6_init 40 = .ok (.newarray .int, 2) := by decide +kernel
theorem dX6_init_42 : decode cX6_init 42 = .ok (.putfield 24, 3) := by decide +kernel
theorem dX6_init_45 : decode cX6_init 45 = .ok (.aload_n 0, 1) := by decide +kernel
theorem dX6_init_46 : decode cX6_init 46 = .ok (.sipush 200, 3) := by decide +kernel
theorem dX6_init_49 : decode cX6_init 49 = .ok (.newarray .int, 2) := by decide +kernel
theorem dX6_init_51 : decode cX6_init 51 = .ok (.putfield 27, 3) := by decide +kernel
theorem dX6_init_54 : decode cX6_init 54 = .ok (.aload_n 0, 1) := by decide +kernel
theorem dX6_init_55 : decode cX6_init 55 = .ok (.sipush 200, 3) := by decide +kernel
theorem dX6_init_58 : decode cX6_init 58 = .ok (.newarray .int, 2) := by decide +kernel
theorem dX6_init_60 : decode cX6_init 60 = .ok (.putfield 30, 3) := by decide +kernel
theorem dX6_init_63 : decode cX6_init 63 = .ok (.aload_n 0, 1) := by decide +kernel
theorem dX6_init_64 : decode cX6_init 64 = .ok (.iconst 5, 1) := by decide +kernel
theorem dX6_init_65 : decode cX6_init 65 = .ok (.putfield 33, 3) := by decide +kernel
theorem dX6_init_68 : decode cX6_init 68 = .ok (.aload_n 0, 1) := by decide +kernel
theorem dX6_init_69 : decode cX6_init 69 = .ok (.sipush 205, 3) := by decide +kernel
theorem dX6_init_72 : decode cX6_init 72 = .ok (.newarray .int, 2) := by decide +kernel
theorem dX6_init_74 : decode cX6_init 74 = .ok (.putfield 37, 3) := by decide +kernel
theorem dX6_init_77 : decode cX6_init 77 = .ok (.return_, 1) := by decide +kernel
theorem dX6_clear_0 : decode cX6_clear 0 = .ok (.aload_n 0, 1) := by decide +kernel
theorem dX6_clear_1 : decode cX6_clear 1 = .ok (.iconst 0, 1) := by decide +kernel
theorem dX6_clear_2 : decode cX6_clear 2 = .ok (.putfield 40, 3) := by decide +kernel
theorem dX6_clear_5 : decode cX6_clear 5 = .ok (.aload_n 0, 1) := by decide +kernel
theorem dX6_clear_6 : decode cX6_clear 6 = .ok (.iconst 0, 1) := by decide +kernel
theorem dX6_clear_7 : decode cX6_clear 7 = .ok (.putfield 43, 3) := by decide +kernel
theorem dX6_clear_10 : decode cX6_clear 10 = .ok (.aload_n 0, 1) := by decide +kernel
theorem dX6_clear_11 : decode cX6_clear 11 = .ok (.iconst 5, 1) := by decide +kernel
theorem dX6_clear_12 : decode cX6_clear 12 = .ok (.putfield 33, 3) := by decide +kernel
theorem dX6_clear_15 : decode cX6_clear 15 = .ok (.return_, 1) := by decide +kernel
theorem dX6_addValue_0 : decode cX6_addValue 0 = .ok (.aload_n 0, 1) := by decide +kernel
theorem dX6_addValue_1 : decode cX6_addValue 1 = .ok (.getfield 33, 3) := by decide +kernel
theorem dX6_addValue_4 : decode cX6_addValue 4 = .ok (.aload_n 0, 1) := by decide +kernel
theorem dX6_addValue_5 : decode cX6_addValue 5 = .ok (.getfield 37, 3) := by decide +kernel
theorem dX6_addValue_8 : decode cX6_addValue 8 = .ok (.arraylength, 1) := by decide +kernel
theorem dX6_addValue_9 : decode cX6_addValue 9 = .ok (.if_icmp .ge 23, 3) := by decide +kernel
theorem dX6_addValue_12 : decode cX6_addValue 12 = .ok (.aload_n 0, 1) := by decide +kernel
theorem dX6_addValue_13 : decode cX6_addValue 13 = .ok (.getfield 37, 3) := by decide +kernel
theorem dX6_addValue_16 : decode cX6_addValue 16 = .ok (.aload_n 0, 1) := by decide +kernel
theorem dX6_addValue_17 : decode cX6_addValue 17 = .ok (.getfield 33, 3) := by decide +kernel
theorem dX6_addValue_20 : decode cX6_addValue 20 = .ok (.iload_n 1, 1) := by decide +kernel
theorem dX6_addValue_21 : decode cX6_addValue 21 = .ok (.iastore, 1) := by decide +kernel
theorem dX6_addValue_22 : decode cX6_addValue 22 = .ok (.aload_n 0, 1) := by decide +kernel
theorem dX6_addValue_23 : decode cX6_addValue 23 = .ok (.dup, 1) := by decide +kernel
theorem dX6_addValue_24 : decode cX6_addValue 24 = .ok (.getfield 33, 3) := by decide +kernel
theorem dX6_addValue_27 : decode cX6_addValue 27 = .ok (.iconst 1, 1) := by decide +kernel
theorem dX6_addValue_28 : decode cX6_addValue 28 = .ok (.iadd, 1) := by decide +kernel
theorem dX6_addValue_29 : decode cX6_addValue 29 = .ok (.putfield 33, 3) := by decide +kernel
theorem dX6_addValue_32 : decode cX6_addValue 32 = .ok (.aload_n 0, 1) := by decide +kernel
theorem dX6_addValue_33 : decode cX6_addValue 33 = .ok (.getfield 33, 3) := by decide +kernel
theorem dX6_addValue_36 : decode cX6_addValue 36 = .ok (.iconst 1, 1) := by decide +kernel
theorem dX6_addValue_37 : decode cX6_addValue 37 = .ok (.isub, 1) := by decide +kernel
theorem dX6_addValue_38 : decode cX6_addValue 38 = .ok (.ireturn, 1) := by decide +kernel
theorem dX6_addStep_0 : decode cX6_addStep 0 = .ok (.aload_n 0, 1) := by decide +kernel
theorem dX6_addStep_1 : decode cX6_addStep 1 = .ok (.getfield 43, 3) := by decide +kernel
theorem dX6_addStep_4 : decode cX6_addStep 4 = .ok (.sipush 200, 3) := by decide +kernel
theorem dX6_addStep_7 : decode cX6_addStep 7 = .ok (.if_icmp .ge 43, 3) := by decide +kernel
theorem dX6_addStep_10 : decode cX6_addStep 10 = .ok (.aload_n 0, 1) := by decide +kernel
theorem dX6_addStep_11 : decode cX6_addStep 11 = .ok (.getfield 24, 3) := by decide +kernel
theorem dX6_addStep_14 : decode cX6_addStep 14 = .ok (.aload_n 0, 1) := by decide +kernel
theorem dX6_addStep_15 : decode cX6_addStep 15 = .ok (.getfield 43, 3) := by decide +kernel
theorem dX6_addStep_18 : decode cX6_addStep 18 = .ok (.iload_n 1, 1) := by decide +kernel
theorem dX6_addStep_19 : decode cX6_addStep 19 = .ok (.iastore, 1) := by decide +kernel
theorem dX6_addStep_20 : decode cX6_addStep 20 = .ok (.aload_n 0, 1) := by decide +kernel
theorem dX6_addStep_21 : decode cX6_addStep 21 = .ok (.getfield 27, 3) := by decide +kernel
theorem dX6_addStep_24 : decode cX6_addStep 24 = .ok (.aload_n 0, 1) := by decide +kernel
theorem dX6_addStep_25 : decode cX6_addStep 25 = .ok (.getfield 43, 3) := by decide +kernel
theorem dX6_addStep_28 : decode cX6_addStep 28 = .ok (.iload_n 2, 1) := by decide +kernel
theorem dX6_addStep_29 : decode cX6_addStep 29 = .ok (.iastore, 1) := by decide +kernel
theorem dX6_addStep_30 : decode cX6_addStep 30 = .ok (.aload_n 0, 1) := by decide +kernel
theorem dX6_addStep_31 : decode cX6_addStep 31 = .ok (.getfield 30, 3) := by decide +kernel
theorem dX6_addStep_34 : decode cX6_addStep 34 = .ok (.aload_n 0, 1) := by decide +kernel
theorem dX6_addStep_35 : decode cX6_addStep 35 = .ok (.getfield 43, 3) := by decide +kernel
theorem dX6_addStep_38 : decode cX6_addStep 38 = .ok (.iload_n 3, 1) := by decide +kernel
theorem dX6_addStep_39 : decode cX6_addStep 39 = .ok (.iastore, 1) := by decide +kernel
theorem dX6_addStep_40 : decode cX6_addStep 40 = .ok (.aload_n 0, 1) := by decide +kernel
theorem dX6_addStep_41 : decode cX6_addStep 41 = .ok (.dup, 1) := by decide +kernel
theorem dX6_addStep_42 : decode cX6_addStep 42 = .ok (.getfield 43, 3) := by decide +kernel
theorem dX6_addStep_45 : decode cX6_addStep 45 = .ok (.iconst 1, 1) := by decide +kernel
theorem dX6_addStep_46 : decode cX6_addStep 46 = .ok (.iadd, 1) := by decide +kernel
theorem dX6_addStep_47 : decode cX6_addStep 47 = .ok (.putfield 43, 3) := by decide +kernel
theorem dX6_addStep_50 : decode cX6_addStep 50 = .ok (.return_, 1) := by decide +kernel
theorem dX6_addRule_0 : decode cX6_addRule 0 = .ok (.aload_n 0, 1) := by decide +kernel
theorem dX6_addRule_1 : decode cX6_addRule 1 = .ok (.getfield 40, 3) := by decide +kernel
theorem dX6_addRule_4 : decode cX6_addRule 4 = .ok (.bipush 8, 2) := by decide +kernel
theorem dX6_addRule_6 : decode cX6_addRule 6 = .ok (.if_icmp .ge 56, 3) := by decide +kernel
theorem dX6_addRule_9 : decode cX6_addRule 9 = .ok (.aload_n 0, 1) := by decide +kernel
theorem dX6_addRule_10 : decode cX6_addRule 10 = .ok (.getfield 9, 3) := by decide +kernel
theorem dX6_addRule_13 : decode cX6_addRule 13 = .ok (.aload_n 0, 1) := by decide +kernel
theorem dX6_addRule_14 : decode cX6_addRule 14 = .ok (.getfield 40, 3) := by decide +kernel
theorem dX6_addRule_17 : decode cX6_addRule 17 = .ok (.iload_n 1, 1) := by decide +kernel
theorem dX6_addRule_18 : decode cX6_addRule 18 = .ok (.iastore, 1) := by decide +kernel
theorem dX6_addRule_19 : decode cX6_addRule 19 = .ok (.aload_n 0, 1) := by decide +kernel
theorem dX6_addRule_20 : decode cX6_addRule 20 = .ok (.getfield 15, 3) := by decide +kernel
theorem dX6_addRule_23 : decode cX6_addRule 23 = .ok (.aload_n 0, 1) := by decide +kernel
theorem dX6_addRule_24 : decode cX6_addRule 24 = .ok (.getfield 40, 3) := by decide +kernel
theorem dX6_addRule_27 : decode cX6_addRule 27 = .ok (.iload_n 2, 1) := by decide +kernel
theorem dX6_addRule_28 : decode cX6_addRule 28 = .ok (.iastore, 1) := by decide +kernel
theorem dX6_addRule_29 : decode cX6_addRule 29 = .ok (.aload_n 0, 1) := by decide +kernel
theorem dX6_addRule_30 : decode cX6_addRule 30 = .ok (.getfield 18, 3) := by decide +kernel
theorem dX6_addRule_33 : decode cX6_addRule 33 = .ok (.aload_n 0, 1) := by decide +kernel
theorem dX6_addRule_34 : decode cX6_addRule 34 = .ok (.getfield 40, 3) := by decide +kernel
theorem dX6_addRule_37 : decode cX6_addRule 37 = .ok (.iload_n 3, 1) := by decide +kernel
theorem dX6_addRule_38 : decode cX6_addRule 38 = .ok (.iastore, 1) := by decide +kernel
theorem dX6_addRule_39 : decode cX6_addRule 39 = .ok (.aload_n 0, 1) := by decide +kernel
theorem dX6_addRule_40 : decode cX6_addRule 40 = .ok (.getfield 21, 3) := by decide +kernel
theorem dX6_addRule_43 : decode cX6_addRule 43 = .ok (.aload_n 0, 1) := by decide +kernel
theorem dX6_addRule_44 : decode cX6_addRule 44 = .ok (.getfield 40, 3) := by decide +kernel
theorem dX6_addRule_47 : decode cX6_addRule 47 = .ok (.aload_n 0, 1) := by decide +kernel
theorem dX6_addRule_48 : decode cX6_addRule 48 = .ok (.getfield 43, 3) := by decide +kernel
theorem dX6_addRule_51 : decode cX6_addRule 51 = .ok (.iastore, 1) := by decide +kernel
theorem dX6_addRule_52 : decode cX6_addRule 52 = .ok (.aload_n 0, 1) := by decide +kernel
theorem dX6_addRule_53 : decode cX6_addRule 53 = .ok (.dup, 1) := by decide +kernel
theorem dX6_addRule_54 : decode cX6_addRule 54 = .ok (.getfield 40, 3) := by decide +kernel
theorem dX6_addRule_57 : decode cX6_addRule 57 = .ok (.iconst 1, 1) := by decide +kernel
theorem dX6_addRule_58 : decode cX6_addRule 58 = .ok (.iadd, 1) := by decide +kernel
theorem dX6_addRule_59 : decode cX6_addRule 59 = .ok (.putfield 40, 3) := by decide +kernel
theorem dX6_addRule_62 : decode cX6_addRule 62 = .ok (.return_, 1) := by decide +kernel
theorem dX6_copyFrom_0 : decode cX6_copyFrom 0 = .ok (.aload_n 0, 1) := by decide +kernel
theorem dX6_copyFrom_1 : decode cX6_copyFrom 1 = .ok (.aload_n 1, 1) := by decide +kernel
theorem dX6_copyFrom_2 : decode cX6_copyFrom 2 = .ok (.getfield 40, 3) := by decide +kernel
theorem dX6_copyFrom_5 : decode cX6_copyFrom 5 = .ok (.putfield 40, 3) := by decide +kernel
theorem dX6_copyFrom_8 : decode cX6_copyFrom 8 = .ok (.aload_n 1, 1) := by decide +kernel
theorem dX6_copyFrom_9 : decode cX6_copyFrom 9 = .ok (.getfield 9, 3) := by decide +kernel
theorem dX6_copyFrom_12 : decode cX6_copyFrom 12 = .ok (.iconst 0, 1) := by decide +kernel
theorem dX6_copyFrom_13 : decode cX6_copyFrom 13 = .ok (.aload_n 0, 1) := by decide +kernel
theorem dX6_copyFrom_14 : decode cX6_copyFrom 14 = .ok (.getfield 9, 3) := by decide +kernel
theorem dX6_copyFrom_17 : decode cX6_copyFrom 17 = .ok (.iconst 0, 1) := by decide +kernel
theorem dX6_copyFrom_18 : decode cX6_copyFrom 18 = .ok (.bipush 8, 2) := by decide +kernel
theorem dX6_copyFrom_20 : decode cX6_copyFrom 20 = .ok (.invokestatic 46, 3) := by decide +kernel
theorem dX6_copyFrom_23 : decode cX6_copyFrom 23 = .ok (.aload_n 1, 1) := by decide +kernel
theorem dX6_copyFrom_24 : decode cX6_copyFrom 24 = .ok (.getfield 15, 3) := by decide +kernel
theorem dX6_copyFrom_27 : decode cX6_copyFrom 27 = .ok (.iconst 0, 1) := by decide +kernel
theorem dX6_copyFrom_28 : decode cX6_copyFrom 28 = .ok (.aload_n 0, 1) := by decide +kernel
theorem dX6_copyFrom_29 : decode cX6_copyFrom 29 = .ok (.getfield 15, 3) := by decide +kernel
theorem dX6_copyFrom_32 : decode cX6_copyFrom 32 = .ok (.iconst 0, 1) := by decide +kernel
theorem dX6_copyFrom_33 : decode cX6_copyFrom 33 = .ok (.bipush 8, 2) := by decide +kernel
theorem dX6_copyFrom_35 : decode cX6_copyFrom 35 = .ok (.invokestatic 46, 3) := by decide +kernel
theorem dX6_copyFrom_38 : decode cX6_copyFrom 38 = .ok (.aload_n 1, 1) := by decide +kernel
theorem dX6_copyFrom_39 : decode cX6_copyFrom 39 = .ok (.getfield 18, 3) := by decide +kernel
theorem dX6_copyFrom_42 : decode cX6_copyFrom 42 = .ok (.iconst 0, 1) := by decide +kernel
theorem dX6_copyFrom_43 : decode cX6_copyFrom 43 = .ok (.aload_n 0, 1) := by decide +kernel
theorem dX6_copyFrom_44 : decode cX6_copyFrom 44 = .ok (.getfield 18, 3) := by decide +kernel
theorem dX6_copyFrom_47 : decode cX6_copyFrom 47 = .ok (.iconst 0, 1) := by decide +kernel
theorem dX6_copyFrom_48 : decode cX6_copyFrom 48 = .ok (.bipush 8, 2) := by decide +kernel
theorem dX6_copyFrom_50 : decode cX6_copyFrom 50 = .ok (.invokestatic 46, 3) := by decide +kernel
theorem dX6_copyFrom_53 : decode cX6_copyFrom 53 = .ok (.aload_n 1, 1) := by decide +kernel
theorem dX6_copyFrom_54 : decode cX6_copyFrom 54 = .ok (.getfield 21, 3) := by decide +kernel
theorem dX6_copyFrom_57 : decode cX6_copyFrom 57 = .ok (.iconst 0, 1) := by decide +kernel
theorem dX6_copyFrom_58 : decode cX6_copyFrom 58 = .ok (.aload_n 0, 1) := by decide +kernel
theorem dX6_copyFrom_59 : decode cX6_copyFrom 59 = .ok (.getfield 21, 3) := by decide +kernel
theorem dX6_copyFrom_62 : decode cX6_copyFrom 62 = .ok (.iconst 0, 1) := by decide +kernel
theorem dX6_copyFrom_63 : decode cX6_copyFrom 63 = .ok (.bipush 8, 2) := by decide +kernel
theorem dX6_copyFrom_65 : decode cX6_copyFrom 65 = .ok (.invokestatic 46, 3) := by decide +kernel
theorem dX6_copyFrom_68 : decode cX6_copyFrom 68 = .ok (.aload_n 0, 1) := by decide +kernel
theorem dX6_copyFrom_69 : decode cX6_copyFrom 69 = .ok (.aload_n 1, 1) := by decide +kernel
theorem dX6_copyFrom_70 : decode cX6_copyFrom 70 = .ok (.getfield 43, 3) := by decide +kernel
theorem dX6_copyFrom_73 : decode cX6_copyFrom 73 = .ok (.putfield 43, 3) := by decide +kernel
theorem dX6_copyFrom_76 : decode cX6_copyFrom 76 = .ok (.aload_n 1, 1) := by decide +kernel
theorem dX6_copyFrom_77 : decode cX6_copyFrom 77 = .ok (.getfield 24, 3) := by decide +kernel
theorem dX6_copyFrom_80 : decode cX6_copyFrom 80 = .ok (.iconst 0, 1) := by decide +kernel
theorem dX6_copyFrom_81 : decode cX6_copyFrom 81 = .ok (.aload_n 0, 1) := by decide +kernel
theorem dX6_copyFrom_82 : decode cX6_copyFrom 82 = .ok (.getfield 24, 3) := by decide +kernel
theorem dX6_copyFrom_85 : decode cX6_copyFrom 85 = .ok (.iconst 0, 1) := by decide +kernel
theorem dX6_copyFrom_86 : decode cX6_copyFrom 86 = .ok (.aload_n 0, 1) := by decide +kernel
theorem dX6_copyFrom_87 : decode cX6_copyFrom 87 = .ok (.getfield 43, 3) := by decide +kernel
theorem dX6_copyFrom_90 : decode cX6_copyFrom 90 = .ok (.invokestatic 46, 3) := by decide +kernel
theorem dX6_copyFrom_93 : decode cX6_copyFrom 93 = .ok (.aload_n 1, 1) := by decide +kernel
theorem dX6_copyFrom_94 : decode cX6_copyFrom 94 = .ok (.getfield 27, 3) := by decide +kernel
theorem dX6_copyFrom_97 : decode cX6_copyFrom 97 = .ok (.iconst 0, 1) := by decide +kernel
theorem dX6_copyFrom_98 : decode cX6_copyFrom 98 = .ok (.aload_n 0, 1) := by decide +kernel
theorem dX6_copyFrom_99 : decode cX6_copyFrom 99 = .ok (.getfield 27, 3) := by decide +kernel
theorem dX6_copyFrom_102 : decode cX6_copyFrom 102 = .ok (.iconst 0, 1) := by decide +kernel
theorem dX6_copyFrom_103 : decode cX6_copyFrom 103 = .ok (.aload_n 0, 1) := by decide +kernel
theorem dX6_copyFrom_104 : decode cX6_copyFrom 104 = .ok (.getfield 43, 3) := by decide +kernel
theorem dX6_copyFrom_107 : decode cX6_copyFrom 107 = .ok (.invokestatic 46, 3) := by decide +kernel
theorem dX6_copyFrom_110 : decode cX6_copyFrom 110 = .ok (.aload_n 1, 1) := by decide +kernel
theorem dX6_copyFrom_111 : decode cX6_copyFrom 111 = .ok (.getfield 30, 3) := by decide +kernel
theorem dX6_copyFrom_114 : decode cX6_copyFrom 114 = .ok (.iconst 0, 1) := by decide +kernel
theorem dX6_copyFrom_115 : decode cX6_copyFrom 115 = .ok (.aload_n 0, 1) := by decide +kernel
theorem dX6_copyFrom_116 : decode cX6_copyFrom 116 = .ok (.getfield 30, 3) := by decide +kernel
theorem dX6_copyFrom_119 : decode cX6_copyFrom 119 = .ok (.iconst 0, 1) := by decide +kernel
theorem dX6_copyFrom_120 : decode cX6_copyFrom 120 = .ok (.aload_n 0, 1) := by decide +kernel
theorem dX6_copyFrom_121 : decode cX6_copyFrom 121 = .ok (.getfield 43, 3) := by decide +kernel
theorem dX6_copyFrom_124 : decode cX6_copyFrom 124 = .ok (.invokestatic 46, 3) := by decide +kernel
theorem dX6_copyFrom_127 : decode cX6_copyFrom 127 = .ok (.aload_n 0, 1) := by decide +kernel
theorem dX6_copyFrom_128 : decode cX6_copyFrom 128 = .ok (.aload_n 1, 1) := by decide +kernel
theorem dX6_copyFrom_129 : decode cX6_copyFrom 129 = .ok (.getfield 33, 3) := by decide +kernel
theorem dX6_copyFrom_132 : decode cX6_copyFrom 132 = .ok (.putfield 33, 3) := by decide +kernel
theorem dX6_copyFrom_135 : decode cX6_copyFrom 135 = .ok (.aload_n 1, 1) := by decide +kernel
theorem dX6_copyFrom_136 : decode cX6_copyFrom 136 = .ok (.getfield 37, 3) := by decide +kernel
theorem dX6_copyFrom_139 : decode cX6_copyFrom 139 = .ok (.iconst 0, 1) := by decide +kernel
theorem dX6_copyFrom_140 : decode cX6_copyFrom 140 = .ok (.aload_n 0, 1) := by decide +kernel
theorem dX6_copyFrom_141 : decode cX6_copyFrom 141 = .ok (.getfield 37, 3) := by decide +kernel
theorem dX6_copyFrom_144 : decode cX6_copyFrom 144 = .ok (.iconst 0, 1) := by decide +kernel
theorem dX6_copyFrom_145 : decode cX6_copyFrom 145 = .ok (.aload_n 0, 1) := by decide +kernel
theorem dX6_copyFrom_146 : decode cX6_copyFrom 146 = .ok (.getfield 33, 3) := by decide +kernel
theorem dX6_copyFrom_149 : decode cX6_copyFrom 149 = .ok (.invokestatic 46, 3) := by decide +kernel
theorem dX6_copyFrom_152 : decode cX6_copyFrom 152 = .ok (.return_, 1) := by decide +kernel
theorem dX6_weigh_0 : decode cX6_weigh 0 = .ok (.iconst 0, 1) := by decide +kernel
theorem dX6_weigh_1 : decode cX6_weigh 1 = .ok (.istore_n 3, 1) := by decide +kernel
theorem dX6_weigh_2 : decode cX6_weigh 2 = .ok (.iload_n 3, 1) := by decide +kernel
theorem dX6_weigh_3 : decode cX6_weigh 3 = .ok (.aload_n 0, 1) := by decide +kernel
theorem dX6_weigh_4 : decode cX6_weigh 4 = .ok (.getfield 40, 3) := by decide +kernel
theorem dX6_weigh_7 : decode cX6_weigh 7 = .ok (.if_icmp .ge 80, 3) := by decide +kernel
theorem dX6_weigh_10 : decode cX6_weigh 10 = .ok (.iload_n 1, 1) := by decide +kernel
theorem dX6_weigh_11 : decode cX6_weigh 11 = .ok (.aload_n 0, 1) := by decide +kernel
theorem dX6_weigh_12 : decode cX6_weigh 12 = .ok (.getfield 9, 3) := by decide +kernel
theorem dX6_weigh_15 : decode cX6_weigh 15 = .ok (.iload_n 3, 1) := by decide +kernel
theorem dX6_weigh_16 : decode cX6_weigh 16 = .ok (.iaload, 1) := by decide +kernel
theorem dX6_weigh_17 : decode cX6_weigh 17 = .ok (.invokestatic 52, 3) := by decide +kernel
theorem dX6_weigh_20 : decode cX6_weigh 20 = .ok (.ifCond .eq 61, 3) := by decide +kernel
theorem dX6_weigh_23 : decode cX6_weigh 23 = .ok (.aload_n 0, 1) := by decide +kernel
theorem dX6_weigh_24 : decode cX6_weigh 24 = .ok (.iload_n 3, 1) := by decide +kernel
theorem dX6_weigh_25 : decode cX6_weigh 25 = .ok (.invokevirtual 56, 3) := by decide +kernel
theorem dX6_weigh_28 : decode cX6_weigh 28 = .ok (.ifCond .eq 53, 3) := by decide +kernel
theorem dX6_weigh_31 : decode cX6_weigh 31 = .ok (.aload_n 0, 1) := by decide +kernel
theorem dX6_weigh_32 : decode cX6_weigh 32 = .ok (.getfield 15, 3) := by decide +kernel
theorem dX6_weigh_35 : decode cX6_weigh 35 = .ok (.iload_n 3, 1) := by decide +kernel
theorem dX6_weigh_36 : decode cX6_weigh 36 = .ok (.iaload, 1) := by decide +kernel
theorem dX6_weigh_37 : decode cX6_weigh 37 = .ok (.bipush 24, 2) := by decide +kernel
theorem dX6_weigh_39 : decode cX6_weigh 39 = .ok (.if_icmp .ne 14, 3) := by decide +kernel
theorem dX6_weigh_42 : decode cX6_weigh 42 = .ok (.iload_n 2, 1) := by decide +kernel
theorem dX6_weigh_43 : decode cX6_weigh 43 = .ok (.aload_n 0, 1) := by decide +kernel
theorem dX6_weigh_44 : decode cX6_weigh 44 = .ok (.getfield 18, 3) := by decide +kernel
theorem dX6_weigh_47 : decode cX6_weigh 47 = .ok (.iload_n 3, 1) := by decide +kernel
theorem dX6_weigh_48 : decode cX6_weigh 48 = .ok (.iaload, 1) := by decide +kernel
theorem dX6_weigh_49 : decode cX6_weigh 49 = .ok (.iadd, 1) := by decide +kernel
theorem dX6_weigh_50 : decode cX6_weigh 50 = .ok (.goto 30, 3) := by decide +kernel
theorem dX6_weigh_53 : decode cX6_weigh 53 = .ok (.aload_n 0, 1) := by decide +kernel
theorem dX6_weigh_54 : decode cX6_weigh 54 = .ok (.getfield 15, 3) := by decide +kernel
theorem dX6_weigh_57 : decode cX6_weigh 57 = .ok (.iload_n 3, 1) := by decide +kernel
theorem dX6_weigh_58 : decode cX6_weigh 58 = .ok (.iaload, 1) := by decide +kernel
theorem dX6_weigh_59 : decode cX6_weigh 59 = .ok (.bipush 25, 2) := by decide +kernel
theorem dX6_weigh_61 : decode cX6_weigh 61 = .ok (.if_icmp .ne 18, 3) := by decide +kernel
theorem dX6_weigh_64 : decode cX6_weigh 64 = .ok (.iconst 0, 1) := by decide +kernel
theorem dX6_weigh_65 : decode cX6_weigh 65 = .ok (.iload_n 2, 1) := by decide +kernel
theorem dX6_weigh_66 : decode cX6_weigh 66 = .ok (.aload_n 0, 1) := by decide +kernel
theorem dX6_weigh_67 : decode cX6_weigh 67 = .ok (.getfield 18, 3) := by decide +kernel
theorem dX6_weigh_70 : decode cX6_weigh 70 = .ok (.iload_n 3, 1) := by decide +kernel
theorem dX6_weigh_71 : decode cX6_weigh 71 = .ok (.iaload, 1) := by decide +kernel
theorem dX6_weigh_72 : decode cX6_weigh 72 = .ok (.isub, 1) := by decide +kernel
theorem dX6_weigh_73 : decode cX6_weigh 73 = .ok (.invokestatic 60, 3) := by decide +kernel
theorem dX6_weigh_76 : decode cX6_weigh 76 = .ok (.goto 4, 3) := by decide +kernel
theorem dX6_weigh_79 : decode cX6_weigh 79 = .ok (.iconst 0, 1) := by decide +kernel
theorem dX6_weigh_80 : decode cX6_weigh 80 = .ok (.ireturn, 1) := by decide +kernel
theorem dX6_weigh_81 : decode cX6_weigh 81 = .ok (.iinc 3 1, 3) := by decide +kernel
theorem dX6_weigh_84 : decode cX6_weigh 84 = .ok (.goto (-82), 3) := by decide +kernel
theorem dX6_weigh_87 : decode cX6_weigh 87 = .ok (.iload_n 2, 1) := by decide +kernel
theorem dX6_weigh_88 : decode cX6_weigh 88 = .ok (.ireturn, 1) := by decide +kernel
theorem dX6_holds_0 : decode cX6_holds 0 = .ok (.iconst 1, 1) := by decide +kernel
theorem dX6_holds_1 : decode cX6_holds 1 = .ok (.istore_n 2, 1) := by decide +kernel
theorem dX6_holds_2 : decode cX6_holds 2 = .ok (.iload_n 1, 1) := by decide +kernel
theorem dX6_holds_3 : decode cX6_holds 3 = .ok (.ifCond .ne 7, 3) := by decide +kernel
theorem dX6_holds_6 : decode cX6_holds 6 = .ok (.iconst 0, 1) := by decide +kernel
theorem dX6_holds_7 : decode cX6_holds 7 = .ok (.goto 11, 3) := by decide +kernel
theorem dX6_holds_10 : decode cX6_holds 10 = .ok (.aload_n 0, 1) := by decide +kernel
theorem dX6_holds_11 : decode cX6_holds 11 = .ok (.getfield 21, 3) := by decide +kernel
theorem dX6_holds_14 : decode cX6_holds 14 = .ok (.iload_n 1, 1) := by decide +kernel
theorem dX6_holds_15 : decode cX6_holds 15 = .ok (.iconst 1, 1) := by decide +kernel
theorem dX6_holds_16 : decode cX6_holds 16 = .ok (.isub, 1) := by decide +kernel
theorem dX6_holds_17 : decode cX6_holds 17 = .ok (.iaload, 1) := by decide +kernel
theorem dX6_holds_18 : decode cX6_holds 18 = .ok (.istore_n 3, 1) := by decide +kernel
theorem dX6_holds_19 : decode cX6_holds 19 = .ok (.iload_n 3, 1) := by decide +kernel
theorem dX6_holds_20 : decode cX6_holds 20 = .ok (.aload_n 0, 1) := by decide +kernel
theorem dX6_holds_21 : decode cX6_holds 21 = .ok (.getfield 21, 3) := by decide +kernel
theorem dX6_holds_24 : decode cX6_holds 24 = .ok (.iload_n 1, 1) := by decide +kernel
theorem dX6_holds_25 : decode cX6_holds 25 = .ok (.iaload, 1) := by decide +kernel
theorem dX6_holds_26 : decode cX6_holds 26 = .ok (.if_icmp .ge 195, 3) := by decide +kernel
theorem dX6_holds_29 : decode cX6_holds 29 = .ok (.aload_n 0, 1) := by decide +kernel
theorem dX6_holds_30 : decode cX6_holds 30 = .ok (.getfield 37, 3) := by decide +kernel
theorem dX6_holds_33 : decode cX6_holds 33 = .ok (.aload_n 0, 1) := by decide +kernel
theorem dX6_holds_34 : decode cX6_holds 34 = .ok (.getfield 27, 3) := by decide +kernel
theorem dX6_holds_37 : decode cX6_holds 37 = .ok (.iload_n 3, 1) := by decide +kernel
theorem dX6_holds_38 : decode cX6_holds 38 = .ok (.iaload, 1) := by decide +kernel
theorem dX6_holds_39 : decode cX6_holds 39 = .ok (.iaload, 1) := by decide +kernel
theorem dX6_holds_40 : decode cX6_holds 40 = .ok (.istore 4, 2) := by decide +kernel
theorem dX6_holds_42 : decode cX6_holds 42 = .ok (.aload_n 0, 1) := by decide +kernel
theorem dX6_holds_43 : decode cX6_holds 43 = .ok (.getfield 37, 3) := by decide +kernel
theorem dX6_holds_46 : decode cX6_holds 46 = .ok (.aload_n 0, 1) := by decide +kernel
theorem dX6_holds_47 : decode cX6_holds 47 = .ok (.getfield 30, 3) := by decide +kernel
theorem dX6_holds_50 : decode cX6_holds 50 = .ok (.iload_n 3, 1) := by decide +kernel
theorem dX6_holds_51 : decode cX6_holds 51 = .ok (.iaload, 1) := by decide +kernel
theorem dX6_holds_52 : decode cX6_holds 52 = .ok (.iaload, 1) := by decide +kernel
theorem dX6_holds_53 : decode cX6_holds 53 = .ok (.istore 5, 2) := by decide +kernel
theorem dX6_holds_55 : decode cX6_holds 55 = .ok (.aload_n 0, 1) := by decide +kernel
theorem dX6_holds_56 : decode cX6_holds 56 = .ok (.getfield 24, 3) := by decide +kernel
theorem dX6_holds_59 : decode cX6_holds 59 = .ok (.iload_n 3, 1) := by decide +kernel
theorem dX6_holds_60 : decode cX6_holds 60 = .ok (.iaload, 1) := by decide +kernel
theorem dX6_holds_61 : decode cX6_holds 61 = .ok (.tableswitch 146 21 33 #[134, 146, 127, 146, 146, 146, 146, 146, 146, 146, 67, 87, 107], 67) := by decide +kernel
theorem dX6_holds_128 : decode cX6_holds 128 = .ok (.iload_n 2, 1) := by decide +kernel
theorem dX6_holds_129 : decode cX6_holds 129 = .ok (.iconst 1, 1) := by decide +kernel
theorem dX6_holds_130 : decode cX6_holds 130 = .ok (.ishl, 1) := by decide +kernel
theorem dX6_holds_131 : decode cX6_holds 131 = .ok (.iload 4, 2) := by decide +kernel
theorem dX6_holds_133 : decode cX6_holds 133 = .ok (.iload 5, 2) := by decide +kernel
theorem dX6_holds_135 : decode cX6_holds 135 = .ok (.if_icmp .ge 7, 3) := by decide +kernel
theorem dX6_holds_138 : decode cX6_holds 138 = .ok (.iconst 1, 1) := by decide +kernel
theorem dX6_holds_139 : decode cX6_holds 139 = .ok (.goto 4, 3) := by decide +kernel
theorem dX6_holds_142 : decode cX6_holds 142 = .ok (.iconst 0, 1) := by decide +kernel
theorem dX6_holds_143 : decode cX6_holds 143 = .ok (.ior, 1) := by decide +kernel
theorem dX6_holds_144 : decode cX6_holds 144 = .ok (.istore_n 2, 1) := by decide +kernel
theorem dX6_holds_145 : decode cX6_holds 145 = .ok (.goto 70, 3) := by decide +kernel
theorem dX6_holds_148 : decode cX6_holds 148 = .ok (.iload_n 2, 1) := by decide +kernel
theorem dX6_holds_149 : decode cX6_holds 149 = .ok (.iconst 1, 1) := by decide +kernel
theorem dX6_holds_150 : decode cX6_holds 150 = .ok (.ishl, 1) := by decide +kernel
theorem dX6_holds_151 : decode cX6_holds 151 = .ok (.iload 4, 2) := by decide +kernel
theorem dX6_holds_153 : decode cX6_holds 153 = .ok (.iload 5, 2) := by decide +kernel
theorem dX6_holds_155 : decode cX6_holds 155 = .ok (.if_icmp .ne 7, 3) := by decide +kernel
theorem dX6_holds_158 : decode cX6_holds 158 = .ok (.iconst 1, 1) := by decide +kernel
theorem dX6_holds_159 : decode cX6_holds 159 = .ok (.goto 4, 3) := by decide +kernel
theorem dX6_holds_162 : decode cX6_holds 162 = .ok (.iconst 0, 1) := by decide +kernel
theorem dX6_holds_163 : decode cX6_holds 163 = .ok (.ior, 1) := by decide +kernel
theorem dX6_holds_164 : decode cX6_holds 164 = .ok (.istore_n 2, 1) := by decide +kernel
theorem dX6_holds_165 : decode cX6_holds 165 = .ok (.goto 50, 3) := by decide +kernel
theorem dX6_holds_168 : decode cX6_holds 168 = .ok (.iload_n 2, 1) := by decide +kernel
theorem dX6_holds_169 : decode cX6_holds 169 = .ok (.iconst 1, 1) := by decide +kernel
theorem dX6_holds_170 : decode cX6_holds 170 = .ok (.ishl, 1) := by decide +kernel
theorem dX6_holds_171 : decode cX6_holds 171 = .ok (.iload 4, 2) := by decide +kernel
theorem dX6_holds_173 : decode cX6_holds 173 = .ok (.iload 5, 2) := by decide +kernel
theorem dX6_holds_175 : decode cX6_holds 175 = .ok (.if_icmp .le 7, 3) := by decide +kernel
theorem dX6_holds_178 : decode cX6_holds 178 = .ok (.iconst 1, 1) := by decide +kernel
theorem dX6_holds_179 : decode cX6_holds 179 = .ok (.goto 4, 3) := by decide +kernel
theorem dX6_holds_182 : decode cX6_holds 182 = .ok (.iconst 0, 1) := by decide +kernel
theorem dX6_holds_183 : decode cX6_holds 183 = .ok (.ior, 1) := by decide +kernel
theorem dX6_holds_184 : decode cX6_holds 184 = .ok (.istore_n 2, 1) := by decide +kernel
theorem dX6_holds_185 : decode cX6_holds 185 = .ok (.goto 30, 3) := by decide +kernel
theorem dX6_holds_188 : decode cX6_holds 188 = .ok (.iload_n 2, 1) := by decide +kernel
theorem dX6_holds_189 : decode cX6_holds 189 = .ok (.iconst 1, 1) := by decide +kernel
theorem dX6_holds_190 : decode cX6_holds 190 = .ok (.ixor, 1) := by decide +kernel
theorem dX6_holds_191 : decode cX6_holds 191 = .ok (.istore_n 2, 1) := by decide +kernel
theorem dX6_holds_192 : decode cX6_holds 192 = .ok (.goto 23, 3) := by decide +kernel
theorem dX6_holds_195 : decode cX6_holds 195 = .ok (.iload_n 2, 1) := by decide +kernel
theorem dX6_holds_196 : decode cX6_holds 196 = .ok (.iconst 1, 1) := by decide +kernel
theorem dX6_holds_197 : decode cX6_holds 197 = .ok (.ishr, 1) := by decide +kernel
theorem dX6_holds_198 : decode cX6_holds 198 = .ok (.iload_n 2, 1) := by decide +kernel
theorem dX6_holds_199 : decode cX6_holds 199 = .ok (.bipush (-2), 2) := by decide +kernel
theorem dX6_holds_201 : decode cX6_holds 201 = .ok (.ior, 1) := by decide +kernel
theorem dX6_holds_202 : decode cX6_holds 202 = .ok (.iand, 1) := by decide +kernel
theorem dX6_holds_203 : decode cX6_holds 203 = .ok (.istore_n 2, 1) := by decide +kernel
theorem dX6_holds_204 : decode cX6_holds 204 = .ok (.goto 11, 3) := by decide +kernel
theorem dX6_holds_207 : decode cX6_holds 207 = .ok (.iload_n 2, 1) := by decide +kernel
theorem dX6_holds_208 : decode cX6_holds 208 = .ok (.iconst 1, 1) := by decide +kernel
theorem dX6_holds_209 : decode cX6_holds 209 = .ok (.ishr, 1) := by decide +kernel
theorem dX6_holds_210 : decode cX6_holds 210 = .ok (.iload_n 2, 1) := by decide +kernel
theorem dX6_holds_211 : decode cX6_holds 211 = .ok (.iconst 1, 1) := by decide +kernel
theorem dX6_holds_212 : decode cX6_holds 212 = .ok (.iand, 1) := by decide +kernel
theorem dX6_holds_213 : decode cX6_holds 213 = .ok (.ior, 1) := by decide +kernel
theorem dX6_holds_214 : decode cX6_holds 214 = .ok (.istore_n 2, 1) := by decide +kernel
theorem dX6_holds_215 : decode cX6_holds 215 = .ok (.iinc 3 1, 3) := by decide +kernel
theorem dX6_holds_218 : decode cX6_holds 218 = .ok (.goto (-199), 3) := by decide +kernel
theorem dX6_holds_221 : decode cX6_holds 221 = .ok (.iload_n 2, 1) := by decide +kernel
theorem dX6_holds_222 : decode cX6_holds 222 = .ok (.iconst 1, 1) := by decide +kernel
theorem dX6_holds_223 : decode cX6_holds 223 = .ok (.iand, 1) := by decide +kernel
theorem dX6_holds_224 : decode cX6_holds 224 = .ok (.iconst 1, 1) := by decide +kernel
theorem dX6_holds_225 : decode cX6_holds 225 = .ok (.if_icmp .ne 7, 3) := by decide +kernel
theorem dX6_holds_228 : decode cX6_holds 228 = .ok (.iconst 1, 1) := by decide +kernel
theorem dX6_holds_229 : decode cX6_holds 229 = .ok (.goto 4, 3) := by decide +kernel
theorem dX6_holds_232 : decode cX6_holds 232 = .ok (.iconst 0, 1) := by decide +kernel
theorem dX6_holds_233 : decode cX6_holds 233 = .ok (.ireturn, 1) := by decide +kernel
theorem dX7_init_0 : decode cX7_init 0 = .ok (.aload_n 0, 1) := by decide +kernel
theorem dX7_init_1 : decode cX7_init 1 = .ok (.aload_n 1, 1) := by decide +kernel
theorem dX7_init_2 : decode cX7_init 2 = .ok (.invokespecial 1, 3) := by decide +kernel
theorem dX7_init_5 : decode cX7_init 5 = .ok (.return_, 1) := by decide +kernel
theorem dX7_powerOf_0 : decode cX7_powerOf 0 = .ok (.iconst 3, 1) := by decide +kernel
theorem dX7_powerOf_1 : decode cX7_powerOf 1 = .ok (.aload_n 0, 1) := by decide +kernel
theorem dX7_powerOf_2 : decode cX7_powerOf 2 = .ok (.iload_n 1, 1) := by decide +kernel
theorem dX7_powerOf_3 : decode cX7_powerOf 3 = .ok (.iload_n 2, 1) := by decide +kernel
theorem dX7_powerOf_4 : decode cX7_powerOf 4 = .ok (.invokespecial 7, 3) := by decide +kernel
theorem dX7_powerOf_7 : decode cX7_powerOf 7 = .ok (.imul, 1) := by decide +kernel
theorem dX7_powerOf_8 : decode cX7_powerOf 8 = .ok (.ireturn, 1) := by decide +kernel
theorem dX7_wishes_0 : decode cX7_wishes 0 = .ok (.aload_n 0, 1) := by decide +kernel
theorem dX7_wishes_1 : decode cX7_wishes 1 = .ok (.getfield 11, 3) := by decide +kernel
theorem dX7_wishes_4 : decode cX7_wishes 4 = .ok (.bipush 50, 2) := by decide +kernel
theorem dX7_wishes_6 : decode cX7_wishes 6 = .ok (.invokevirtual 17, 3) := by decide +kernel
theorem dX7_wishes_9 : decode cX7_wishes 9 = .ok (.aload_n 0, 1) := by decide +kernel
theorem dX7_wishes_10 : decode cX7_wishes 10 = .ok (.iload_n 1, 1) := by decide +kernel
theorem dX7_wishes_11 : decode cX7_wishes 11 = .ok (.invokespecial 23, 3) := by decide +kernel
theorem dX7_wishes_14 : decode cX7_wishes 14 = .ok (.iconst 1, 1) := by decide +kernel
theorem dX7_wishes_15 : decode cX7_wishes 15 = .ok (.isub, 1) := by decide +kernel
theorem dX7_wishes_16 : decode cX7_wishes 16 = .ok (.ireturn, 1) := by decide +kernel
theorem dX7_tells_0 : decode cX7_tells 0 = .ok (.aload_n 0, 1) := by decide +kernel
theorem dX7_tells_1 : decode cX7_tells 1 = .ok (.getfield 11, 3) := by decide +kernel
theorem dX7_tells_4 : decode cX7_tells 4 = .ok (.bipush 51, 2) := by decide +kernel
theorem dX7_tells_6 : decode cX7_tells 6 = .ok (.invokevirtual 17, 3) := by decide +kernel
theorem dX7_tells_9 : decode cX7_tells 9 = .ok (.aload_n 0, 1) := by decide +kernel
theorem dX7_tells_10 : decode cX7_tells 10 = .ok (.iload_n 1, 1) := by decide +kernel
theorem dX7_tells_11 : decode cX7_tells 11 = .ok (.invokespecial 27, 3) := by decide +kernel
theorem dX7_tells_14 : decode cX7_tells 14 = .ok (.aload_n 0, 1) := by decide +kernel
theorem dX7_tells_15 : decode cX7_tells 15 = .ok (.aload_n 0, 1) := by decide +kernel
theorem dX7_tells_16 : decode cX7_tells 16 = .ok (.getfield 30, 3) := by decide +kernel
theorem dX7_tells_19 : decode cX7_tells 19 = .ok (.invokevirtual 34, 3) := by decide +kernel
theorem dX7_tells_22 : decode cX7_tells 22 = .ok (.iadd, 1) := by decide +kernel
theorem dX7_tells_23 : decode cX7_tells 23 = .ok (.ireturn, 1) := by decide +kernel
theorem dX8_init_0 : decode cX8_init 0 = .ok (.aload_n 0, 1) := by decide +kernel
theorem dX8_init_1 : decode cX8_init 1 = .ok (.aload_n 1, 1) := by decide +kernel
theorem dX8_init_2 : decode cX8_init 2 = .ok (.invokespecial 1, 3) := by decide +kernel
theorem dX8_init_5 : decode cX8_init 5 = .ok (.return_, 1) := by decide +kernel
theorem dX8_powerOf_0 : decode cX8_powerOf 0 = .ok (.iload_n 2, 1) := by decide +kernel
theorem dX8_powerOf_1 : decode cX8_powerOf 1 = .ok (.bipush 6, 2) := by decide +kernel
theorem dX8_powerOf_3 : decode cX8_powerOf 3 = .ok (.if_icmp .ge 7, 3) := by decide +kernel
theorem dX8_powerOf_6 : decode cX8_powerOf 6 = .ok (.iconst 0, 1) := by decide +kernel
theorem dX8_powerOf_7 : decode cX8_powerOf 7 = .ok (.goto 9, 3) := by decide +kernel
theorem dX8_powerOf_10 : decode cX8_powerOf 10 = .ok (.aload_n 0, 1) := by decide +kernel
theorem dX8_powerOf_11 : decode cX8_powerOf 11 = .ok (.iload_n 1, 1) := by decide +kernel
theorem dX8_powerOf_12 : decode cX8_powerOf 12 = .ok (.iload_n 2, 1) := by decide +kernel
theorem dX8_powerOf_13 : decode cX8_powerOf 13 = .ok (.invokespecial 7, 3) := by decide +kernel
theorem dX8_powerOf_16 : decode cX8_powerOf 16 = .ok (.ireturn, 1) := by decide +kernel
theorem dX8_sways_0 : decode cX8_sways 0 = .ok (.aload_n 0, 1) := by decide +kernel
theorem dX8_sways_1 : decode cX8_sways 1 = .ok (.getfield 11, 3) := by decide +kernel
theorem dX8_sways_4 : decode cX8_sways 4 = .ok (.bipush 60, 2) := by decide +kernel
theorem dX8_sways_6 : decode cX8_sways 6 = .ok (.invokevirtual 17, 3) := by decide +kernel
theorem dX8_sways_9 : decode cX8_sways 9 = .ok (.iconst 0, 1) := by decide +kernel
theorem dX8_sways_10 : decode cX8_sways 10 = .ok (.aload_n 0, 1) := by decide +kernel
theorem dX8_sways_11 : decode cX8_sways 11 = .ok (.iload_n 1, 1) := by decide +kernel
theorem dX8_sways_12 : decode cX8_sways 12 = .ok (.invokespecial 23, 3) := by decide +kernel
theorem dX8_sways_15 : decode cX8_sways 15 = .ok (.isub, 1) := by decide +kernel
theorem dX8_sways_16 : decode cX8_sways 16 = .ok (.ireturn, 1) := by decide +kernel
theorem dX8_shares_0 : decode cX8_shares 0 = .ok (.aload_n 0, 1) := by decide +kernel
theorem dX8_shares_1 : decode cX8_shares 1 = .ok (.getfield 11, 3) := by decide +kernel
theorem dX8_shares_4 : decode cX8_shares 4 = .ok (.bipush 61, 2) := by decide +kernel
theorem dX8_shares_6 : decode cX8_shares 6 = .ok (.invokevirtual 17, 3) := by decide +kernel
theorem dX8_shares_9 : decode cX8_shares 9 = .ok (.aload_n 0, 1) := by decide +kernel
theorem dX8_shares_10 : decode cX8_shares 10 = .ok (.iload_n 1, 1) := by decide +kernel
theorem dX8_shares_11 : decode cX8_shares 11 = .ok (.invokespecial 27, 3) := by decide +kernel
theorem dX8_shares_14 : decode cX8_shares 14 = .ok (.istore_n 2, 1) := by decide +kernel
theorem dX8_shares_15 : decode cX8_shares 15 = .ok (.aload_n 0, 1) := by decide +kernel
theorem dX8_shares_16 : decode cX8_shares 16 = .ok (.getfield 11, 3) := by decide +kernel
theorem dX8_shares_19 : decode cX8_shares 19 = .ok (.getfield 30, 3) := by decide +kernel
theorem dX8_shares_22 : decode cX8_shares 22 = .ok (.ifCond .eq 7, 3) := by decide +kernel
theorem dX8_shares_25 : decode cX8_shares 25 = .ok (.iconst 0, 1) := by decide +kernel
theorem dX8_shares_26 : decode cX8_shares 26 = .ok (.goto 13, 3) := by decide +kernel
theorem dX8_shares_29 : decode cX8_shares 29 = .ok (.iload_n 2, 1) := by decide +kernel
theorem dX8_shares_30 : decode cX8_shares 30 = .ok (.aload_n 0, 1) := by decide +kernel
theorem dX8_shares_31 : decode cX8_shares 31 = .ok (.aload_n 0, 1) := by decide +kernel
theorem dX8_shares_32 : decode cX8_shares 32 = .ok (.getfield 34, 3) := by decide +kernel
theorem dX8_shares_35 : decode cX8_shares 35 = .ok (.invokevirtual 38, 3) := by decide +kernel
theorem dX8_shares_38 : decode cX8_shares 38 = .ok (.isub, 1) := by decide +kernel
theorem dX8_shares_39 : decode cX8_shares 39 = .ok (.ireturn, 1) := by decide +kernel
theorem dX9_init_0 : decode cX9_init 0 = .ok (.aload_n 0, 1) := by decide +kernel
theorem dX9_init_1 : decode cX9_init 1 = .ok (.invokespecial 1, 3) := by decide +kernel
theorem dX9_init_4 : decode cX9_init 4 = .ok (.aload_n 0, 1) := by decide +kernel
theorem dX9_init_5 : decode cX9_init 5 = .ok (.aload_n 1, 1) := by decide +kernel
theorem dX9_init_6 : decode cX9_init 6 = .ok (.putfield 7, 3) := by decide +kernel
theorem dX9_init_9 : decode cX9_init 9 = .ok (.return_, 1) := by decide +kernel
theorem dX9_powerOf_0 : decode cX9_powerOf 0 = .ok (.iload_n 1, 1) := by decide +kernel
theorem dX9_powerOf_1 : decode cX9_powerOf 1 = .ok (.ireturn, 1) := by decide +kernel
theorem dX9_wishes_0 : decode cX9_wishes 0 = .ok (.aload_n 0, 1) := by decide +kernel
theorem dX9_wishes_1 : decode cX9_wishes 1 = .ok (.getfield 7, 3) := by decide +kernel
theorem dX9_wishes_4 : decode cX9_wishes 4 = .ok (.bipush 10, 2) := by decide +kernel
theorem dX9_wishes_6 : decode cX9_wishes 6 = .ok (.invokevirtual 13, 3) := by decide +kernel
theorem dX9_wishes_9 : decode cX9_wishes 9 = .ok (.iload_n 1, 1) := by decide +kernel
theorem dX9_wishes_10 : decode cX9_wishes 10 = .ok (.aload_n 0, 1) := by decide +kernel
theorem dX9_wishes_11 : decode cX9_wishes 11 = .ok (.getfield 19, 3) := by decide +kernel
theorem dX9_wishes_14 : decode cX9_wishes 14 = .ok (.iadd, 1) := by decide +kernel
theorem dX9_wishes_15 : decode cX9_wishes 15 = .ok (.ireturn, 1) := by decide +kernel
theorem dX9_sways_0 : decode cX9_sways 0 = .ok (.aload_n 0, 1) := by decide +kernel
theorem dX9_sways_1 : decode cX9_sways 1 = .ok (.getfield 7, 3) := by decide +kernel
theorem dX9_sways_4 : decode cX9_sways 4 = .ok (.bipush 11, 2) := by decide +kernel
theorem dX9_sways_6 : decode cX9_sways 6 = .ok (.invokevirtual 13, 3) := by decide +kernel
theorem dX9_sways_9 : decode cX9_sways 9 = .ok (.aload_n 0, 1) := by decide +kernel
theorem dX9_sways_10 : decode cX9_sways 10 = .ok (.iload_n 1, 1) := by decide +kernel
theorem dX9_sways_11 : decode cX9_sways 11 = .ok (.invokevirtual 23, 3) := by decide +kernel
theorem dX9_sways_14 : decode cX9_sways 14 = .ok (.aload_n 0, 1) := by decide +kernel
theorem dX9_sways_15 : decode cX9_sways 15 = .ok (.getfield 27, 3) := by decide +kernel
theorem dX9_sways_18 : decode cX9_sways 18 = .ok (.isub, 1) := by decide +kernel
theorem dX9_sways_19 : decode cX9_sways 19 = .ok (.ireturn, 1) := by decide +kernel
theorem dX9_shares_0 : decode cX9_shares 0 = .ok (.aload_n 0, 1) := by decide +kernel
theorem dX9_shares_1 : decode cX9_shares 1 = .ok (.getfield 7, 3) := by decide +kernel
theorem dX9_shares_4 : decode cX9_shares 4 = .ok (.bipush 12, 2) := by decide +kernel
theorem dX9_shares_6 : decode cX9_shares 6 = .ok (.invokevirtual 13, 3) := by decide +kernel
theorem dX9_shares_9 : decode cX9_shares 9 = .ok (.aload_n 0, 1) := by decide +kernel
theorem dX9_shares_10 : decode cX9_shares 10 = .ok (.getfield 19, 3) := by decide +kernel
theorem dX9_shares_13 : decode cX9_shares 13 = .ok (.aload_n 0, 1) := by decide +kernel
theorem dX9_shares_14 : decode cX9_shares 14 = .ok (.getfield 27, 3) := by decide +kernel
theorem dX9_shares_17 : decode cX9_shares 17 = .ok (.isub, 1) := by decide +kernel
theorem dX9_shares_18 : decode cX9_shares 18 = .ok (.istore_n 2, 1) := by decide +kernel
theorem dX9_shares_19 : decode cX9_shares 19 = .ok (.iload_n 2, 1) := by decide +kernel
theorem dX9_shares_20 : decode cX9_shares 20 = .ok (.ifCond .ne 13, 3) := by decide +kernel
theorem dX9_shares_23 : decode cX9_shares 23 = .ok (.aload_n 0, 1) := by decide +kernel
theorem dX9_shares_24 : decode cX9_shares 24 = .ok (.getfield 7, 3) := by decide +kernel
theorem dX9_shares_27 : decode cX9_shares 27 = .ok (.iconst 1, 1) := by decide +kernel
theorem dX9_shares_28 : decode cX9_shares 28 = .ok (.putfield 30, 3) := by decide +kernel
theorem dX9_shares_31 : decode cX9_shares 31 = .ok (.iconst 0, 1) := by decide +kernel
theorem dX9_shares_32 : decode cX9_shares 32 = .ok (.ireturn, 1) := by decide +kernel
theorem dX9_shares_33 : decode cX9_shares 33 = .ok (.iload_n 1, 1) := by decide +kernel
theorem dX9_shares_34 : decode cX9_shares 34 = .ok (.iload_n 2, 1) := by decide +kernel
theorem dX9_shares_35 : decode cX9_shares 35 = .ok (.idiv, 1) := by decide +kernel
theorem dX9_shares_36 : decode cX9_shares 36 = .ok (.ireturn, 1) := by decide +kernel
theorem dX9_tells_0 : decode cX9_tells 0 = .ok (.aload_n 0, 1) := by decide +kernel
theorem dX9_tells_1 : decode cX9_tells 1 = .ok (.getfield 7, 3) := by decide +kernel
theorem dX9_tells_4 : decode cX9_tells 4 = .ok (.bipush 13, 2) := by decide +kernel
theorem dX9_tells_6 : decode cX9_tells 6 = .ok (.invokevirtual 13, 3) := by decide +kernel
theorem dX9_tells_9 : decode cX9_tells 9 = .ok (.aload_n 0, 1) := by decide +kernel
theorem dX9_tells_10 : decode cX9_tells 10 = .ok (.iload_n 1, 1) := by decide +kernel
theorem dX9_tells_11 : decode cX9_tells 11 = .ok (.invokevirtual 34, 3) := by decide +kernel
theorem dX9_tells_14 : decode cX9_tells 14 = .ok (.aload_n 0, 1) := by decide +kernel
theorem dX9_tells_15 : decode cX9_tells 15 = .ok (.getfield 19, 3) := by decide +kernel
theorem dX9_tells_18 : decode cX9_tells 18 = .ok (.ixor, 1) := by decide +kernel
theorem dX9_tells_19 : decode cX9_tells 19 = .ok (.ireturn, 1) := by decide +kernel
theorem dX10_init_0 : decode cX10_init 0 = .ok (.aload_n 0, 1) := by decide +kernel
theorem dX10_init_1 : decode cX10_init 1 = .ok (.invokespecial 3, 3) := by decide +kernel
theorem dX10_init_4 : decode cX10_init 4 = .ok (.aload_n 0, 1) := by decide +kernel
theorem dX10_init_5 : decode cX10_init 5 = .ok (.bipush 30, 2) := by decide +kernel
theorem dX10_init_7 : decode cX10_init 7 = .ok (.newarray .int, 2) := by decide +kernel
theorem dX10_init_9 : decode cX10_init 9 = .ok (.putfield 9, 3) := by decide +kernel
theorem dX10_init_12 : decode cX10_init 12 = .ok (.return_, 1) := by decide +kernel
theorem dX10_begins_0 : decode cX10_begins 0 = .ok (.aload_n 0, 1) := by decide +kernel
theorem dX10_begins_1 : decode cX10_begins 1 = .ok (.getfield 15, 3) := by decide +kernel
theorem dX10_begins_4 : decode cX10_begins 4 = .ok (.bipush 30, 2) := by decide +kernel
theorem dX10_begins_6 : decode cX10_begins 6 = .ok (.if_icmp .ge 23, 3) := by decide +kernel
theorem dX10_begins_9 : decode cX10_begins 9 = .ok (.aload_n 0, 1) := by decide +kernel
theorem dX10_begins_10 : decode cX10_begins 10 = .ok (.getfield 9, 3) := by decide +kernel
theorem dX10_begins_13 : decode cX10_begins 13 = .ok (.aload_n 0, 1) := by decide +kernel
theorem dX10_begins_14 : decode cX10_begins 14 = .ok (.getfield 15, 3) := by decide +kernel
theorem dX10_begins_17 : decode cX10_begins 17 = .ok (.iload_n 1, 1) := by decide +kernel
theorem dX10_begins_18 : decode cX10_begins 18 = .ok (.iastore, 1) := by decide +kernel
theorem dX10_begins_19 : decode cX10_begins 19 = .ok (.aload_n 0, 1) := by decide +kernel
theorem dX10_begins_20 : decode cX10_begins 20 = .ok (.dup, 1) := by decide +kernel
theorem dX10_begins_21 : decode cX10_begins 21 = .ok (.getfield 15, 3) := by decide +kernel
theorem dX10_begins_24 : decode cX10_begins 24 = .ok (.iconst 1, 1) := by decide +kernel
theorem dX10_begins_25 : decode cX10_begins 25 = .ok (.iadd, 1) := by decide +kernel
theorem dX10_begins_26 : decode cX10_begins 26 = .ok (.putfield 15, 3) := by decide +kernel
theorem dX10_begins_29 : decode cX10_begins 29 = .ok (.return_, 1) := by decide +kernel
theorem dX11_init_0 : decode cX11_init 0 = .ok (.aload_n 0, 1) := by decide +kernel
theorem dX11_init_1 : decode cX11_init 1 = .ok (.invokespecial 3, 3) := by decide +kernel
theorem dX11_init_4 : decode cX11_init 4 = .ok (.new 9, 3) := by decide +kernel
theorem dX11_init_7 : decode cX11_init 7 = .ok (.dup, 1) := by decide +kernel
theorem dX11_init_8 : decode cX11_init 8 = .ok (.invokespecial 11, 3) := by decide +kernel
theorem dX11_init_11 : decode cX11_init 11 = .ok (.astore_n 1, 1) := by decide +kernel
theorem dX11_init_12 : decode cX11_init 12 = .ok (.aload_n 0, 1) := by decide +kernel
theorem dX11_init_13 : decode cX11_init 13 = .ok (.new 12, 3) := by decide +kernel
theorem dX11_init_16 : decode cX11_init 16 = .ok (.dup, 1) := by decide +kernel
theorem dX11_init_17 : decode cX11_init 17 = .ok (.invokespecial 14, 3) := by decide +kernel
theorem dX11_init_20 : decode cX11_init 20 = .ok (.putfield 15, 3) := by decide +kernel
theorem dX11_init_23 : decode cX11_init 23 = .ok (.aload_n 0, 1) := by decide +kernel
theorem dX11_init_24 : decode cX11_init 24 = .ok (.new 12, 3) := by decide +kernel
theorem dX11_init_27 : decode cX11_init 27 = .ok (.dup, 1) := by decide +kernel
theorem dX11_init_28 : decode cX11_init 28 = .ok (.invokespecial 14, 3) := by decide +kernel
theorem dX11_init_31 : decode cX11_init 31 = .ok (.putfield 19, 3) := by decide +kernel
theorem dX11_init_34 : decode cX11_init 34 = .ok (.aload_n 0, 1) := by decide +kernel
theorem dX11_init_35 : decode cX11_init 35 = .ok (.new 22, 3) := by decide +kernel
theorem dX11_init_38 : decode cX11_init 38 = .ok (.dup, 1) := by decide +kernel
theorem dX11_init_39 : decode cX11_init 39 = .ok (.invokespecial 24, 3) := by decide +kernel
theorem dX11_init_42 : decode cX11_init 42 = .ok (.putfield 25, 3) := by decide +kernel
theorem dX11_init_45 : decode cX11_init 45 = .ok (.aload_n 0, 1) := by decide +kernel
theorem dX11_init_46 : decode cX11_init 46 = .ok (.aload_n 1, 1) := by decide +kernel
theorem dX11_init_47 : decode cX11_init 47 = .ok (.putfield 29, 3) := by decide +kernel
theorem dX11_init_50 : decode cX11_init 50 = .ok (.aload_n 0, 1) := by decide +kernel
theorem dX11_init_51 : decode cX11_init 51 = .ok (.bipush 6, 2) := by decide +kernel
theorem dX11_init_53 : decode cX11_init 53 = .ok (.anewarray 33, 3) := by decide +kernel
theorem dX11_init_56 : decode cX11_init 56 = .ok (.dup, 1) := by decide +kernel
theorem dX11_init_57 : decode cX11_init 57 = .ok (.iconst 0, 1) := by decide +kernel
theorem dX11_init_58 : decode cX11_init 58 = .ok (.new 33, 3) := by decide +kernel
theorem dX11_init_61 : decode cX11_init 61 = .ok (.dup, 1) := by decide +kernel
theorem dX11_init_62 : decode cX11_init 62 = .ok (.aload_n 1, 1) := by decide +kernel
theorem dX11_init_63 : decode cX11_init 63 = .ok (.invokespecial 35, 3) := by decide +kernel
theorem dX11_init_66 : decode cX11_init 66 = .ok (.aastore, 1) := by decide +kernel
theorem dX11_init_67 : decode cX11_init 67 = .ok (.dup, 1) := by decide +kernel
theorem dX11_init_68 : decode cX11_init 68 = .ok (.iconst 1, 1) := by decide +kernel
theorem dX11_init_69 : decode cX11_init 69 = .ok (.new 38, 3) := by decide +kernel
theorem dX11_init_72 : decode cX11_init 72 = .ok (.dup, 1) := by decide +kernel
theorem dX11_init_73 : decode cX11_init 73 = .ok (.aload_n 1, 1) := by decide +kernel
theorem dX11_init_74 : decode cX11_init 74 = .ok (.invokespecial 40, 3) := by decide +kernel
theorem dX11_init_77 : decode cX11_init 77 = .ok (.aastore, 1) := by decide +kernel
theorem dX11_init_78 : decode cX11_init 78 = .ok (.dup, 1) := by decide +kernel
theorem dX11_init_79 : decode cX11_init 79 = .ok (.iconst 2, 1) := by decide +kernel
theorem dX11_init_80 : decode cX11_init 80 = .ok (.new 41, 3) := by decide +kernel
theorem dX11_init_83 : decode cX11_init 83 = .ok (.dup, 1) := by decide +kernel
theorem dX11_init_84 : decode cX11_init 84 = .ok (.aload_n 1, 1) := by decide +kernel
theorem dX11_init_85 : decode cX11_init 85 = .ok (.invokespecial 43, 3) := by decide +kernel
theorem dX11_init_88 : decode cX11_init 88 = .ok (.aastore, 1) := by decide +kernel
theorem dX11_init_89 : decode cX11_init 89 = .ok (.dup, 1) := by decide +kernel
theorem dX11_init_90 : decode cX11_init 90 = .ok (.iconst 3, 1) := by decide +kernel
theorem dX11_init_91 : decode cX11_init 91 = .ok (.new 44, 3) := by decide +kernel
theorem dX11_init_94 : decode cX11_init 94 = .ok (.dup, 1) := by decide +kernel
theorem dX11_init_95 : decode cX11_init 95 = .ok (.aload_n 1, 1) := by decide +kernel
theorem dX11_init_96 : decode cX11_init 96 = .ok (.invokespecial 46, 3) := by decide +kernel
theorem dX11_init_99 : decode cX11_init 99 = .ok (.aastore, 1) := by decide +kernel
theorem dX11_init_100 : decode cX11_init 100 = .ok (.dup, 1) := by decide +kernel
theorem dX11_init_101 : decode cX11_init 101 = .ok (.iconst 4, 1) := by decide +kernel
theorem dX11_init_102 : decode cX11_init 102 = .ok (.new 47, 3) := by decide +kernel
theorem dX11_init_105 : decode cX11_init 105 = .ok (.dup, 1) := by decide +kernel
theorem dX11_init_106 : decode cX11_init 106 = .ok (.aload_n 1, 1) := by decide +kernel
theorem dX11_init_107 : decode cX11_init 107 = .ok (.invokespecial 49, 3) := by decide +kernel
theorem dX11_init_110 : decode cX11_init 110 = .ok (.aastore, 1) := by decide +kernel
theorem dX11_init_111 : decode cX11_init 111 = .ok (.dup, 1) := by decide +kernel
theorem dX11_init_112 : decode cX11_init 112 = .ok (.iconst 5, 1) := by decide +kernel
theorem dX11_init_113 : decode cX11_init 113 = .ok (.new 50, 3) := by decide +kernel
theorem dX11_init_116 : decode cX11_init 116 = .ok (.dup, 1) := by decide +kernel
theorem dX11_init_117 : decode cX11_init 117 = .ok (.aload_n 1, 1) := by decide +kernel
theorem dX11_init_118 : decode cX11_init 118 = .ok (.invokespecial 52, 3) := by decide +kernel
theorem dX11_init_121 : decode cX11_init 121 = .ok (.aastore, 1) := by decide +kernel
theorem dX11_init_122 : decode cX11_init 122 = .ok (.putfield 53, 3) := by decide +kernel
theorem dX11_init_125 : decode cX11_init 125 = .ok (.aload_n 0, 1) := by decide +kernel
theorem dX11_init_126 : decode cX11_init 126 = .ok (.new 57, 3) := by decide +kernel
theorem dX11_init_129 : decode cX11_init 129 = .ok (.dup, 1) := by decide +kernel
theorem dX11_init_130 : decode cX11_init 130 = .ok (.invokespecial 59, 3) := by decide +kernel
theorem dX11_init_133 : decode cX11_init 133 = .ok (.putfield 60, 3) := by decide +kernel
theorem dX11_init_136 : decode cX11_init 136 = .ok (.aload_n 0, 1) := by decide +kernel
theorem dX11_init_137 : decode cX11_init 137 = .ok (.sipush 3072, 3) := by decide +kernel
theorem dX11_init_140 : decode cX11_init 140 = .ok (.newarray .int, 2) := by decide +kernel
theorem dX11_init_142 : decode cX11_init 142 = .ok (.putfield 64, 3) := by decide +kernel
theorem dX11_init_145 : decode cX11_init 145 = .ok (.aload_n 0, 1) := by decide +kernel
theorem dX11_init_146 : decode cX11_init 146 = .ok (.bipush 7, 2) := by decide +kernel
theorem dX11_init_148 : decode cX11_init 148 = .ok (.newarray .int, 2) := by decide +kernel
theorem dX11_init_150 : decode cX11_init 150 = .ok (.putfield 68, 3) := by decide +kernel
theorem dX11_init_153 : decode cX11_init 153 = .ok (.aload_n 0, 1) := by decide +kernel
theorem dX11_init_154 : decode cX11_init 154 = .ok (.bipush 24, 2) := by decide +kernel
theorem dX11_init_156 : decode cX11_init 156 = .ok (.newarray .int, 2) := by decide +kernel
theorem dX11_init_158 : decode cX11_init 158 = .ok (.putfield 71, 3) := by decide +kernel
theorem dX11_init_161 : decode cX11_init 161 = .ok (.aload_n 0, 1) := by decide +kernel
theorem dX11_init_162 : decode cX11_init 162 = .ok (.iconst 4, 1) := by decide +kernel
theorem dX11_init_163 : decode cX11_init 163 = .ok (.newarray .int, 2) := by decide +kernel
theorem dX11_init_165 : decode cX11_init 165 = .ok (.putfield 74, 3) := by decide +kernel
theorem dX11_init_168 : decode cX11_init 168 = .ok (.aload_n 0, 1) := by decide +kernel
theorem dX11_init_169 : decode cX11_init 169 = .ok (.bipush 12, 2) := by decide +kernel
theorem dX11_init_171 : decode cX11_init 171 = .ok (.newarray .int, 2) := by decide +kernel
theorem dX11_init_173 : decode cX11_init 173 = .ok (.putfield 77, 3) := by decide +kernel
theorem dX11_init_176 : decode cX11_init 176 = .ok (.aload_n 0, 1) := by decide +kernel
theorem dX11_init_177 : decode cX11_init 177 = .ok (.invokevirtual 80, 3) := by decide +kernel
theorem dX11_init_180 : decode cX11_init 180 = .ok (.return_, 1) := by decide +kernel
theorem dX11_voter_0 : decode cX11_voter 0 = .ok (.iload_n 1, 1) := by decide +kernel
theorem dX11_voter_1 : decode cX11_voter 1 = .ok (.iconst 1, 1) := by decide +kernel
theorem dX11_voter_2 : decode cX11_voter 2 = .ok (.iconst 5, 1) := by decide +kernel
theorem dX11_voter_3 : decode cX11_voter 3 = .ok (.invokestatic 83, 3) := by decide +kernel
theorem dX11_voter_6 : decode cX11_voter 6 = .ok (.ifCond .eq 28, 3) := by decide +kernel
theorem dX11_voter_9 : decode cX11_voter 9 = .ok (.iconst 1, 1) := by decide +kernel
theorem dX11_voter_10 : decode cX11_voter 10 = .ok (.iload_n 2, 1) := by decide +kernel
theorem dX11_voter_11 : decode cX11_voter 11 = .ok (.invokestatic 87, 3) := by decide +kernel
theorem dX11_voter_14 : decode cX11_voter 14 = .ok (.ifCond .eq 20, 3) := by decide +kernel
theorem dX11_voter_17 : decode cX11_voter 17 = .ok (.iconst 2, 1) := by decide +kernel
theorem dX11_voter_18 : decode cX11_voter 18 = .ok (.iload_n 3, 1) := by decide +kernel
theorem dX11_voter_19 : decode cX11_voter 19 = .ok (.invokestatic 87, 3) := by decide +kernel
theorem dX11_voter_22 : decode cX11_voter 22 = .ok (.ifCond .eq 12, 3) := by decide +kernel
theorem dX11_voter_25 : decode cX11_voter 25 = .ok (.iconst 3, 1) := by decide +kernel
theorem dX11_voter_26 : decode cX11_voter 26 = .ok (.iload 4, 2) := by decide +kernel
theorem dX11_voter_28 : decode cX11_voter 28 = .ok (.invokestatic 87, 3) := by decide +kernel
theorem dX11_voter_31 : decode cX11_voter 31 = .ok (.ifCond .ne 5, 3) := by decide +kernel
theorem dX11_voter_34 : decode cX11_voter 34 = .ok (.iconst (-1), 1) := by decide +kernel
theorem dX11_voter_35 : decode cX11_voter 35 = .ok (.ireturn, 1) := by decide +kernel
theorem dX11_voter_36 : decode cX11_voter 36 = .ok (.aload_n 0, 1) := by decide +kernel
theorem dX11_voter_37 : decode cX11_voter 37 = .ok (.getfield 15, 3) := by decide +kernel
theorem dX11_voter_40 : decode cX11_voter 40 = .ok (.getfield 91, 3) := by decide +kernel
theorem dX11_voter_43 : decode cX11_voter 43 = .ok (.bipush 7, 2) := by decide +kernel
theorem dX11_voter_45 : decode cX11_voter 45 = .ok (.if_icmp .lt 6, 3) := by decide +kernel
theorem dX11_voter_48 : decode cX11_voter 48 = .ok (.bipush (-2), 2) := by decide +kernel
theorem dX11_voter_50 : decode cX11_voter 50 = .ok (.ireturn, 1) := by decide +kernel
theorem dX11_voter_51 : decode cX11_voter 51 = .ok (.aload_n 0, 1) := by decide +kernel
theorem dX11_voter_52 : decode cX11_voter 52 = .ok (.getfield 15, 3) := by decide +kernel
theorem dX11_voter_55 : decode cX11_voter 55 = .ok (.getfield 91, 3) := by decide +kernel
theorem dX11_voter_58 : decode cX11_voter 58 = .ok (.istore 5, 2) := by decide +kernel
theorem dX11_voter_60 : decode cX11_voter 60 = .ok (.aload_n 0, 1) := by decide +kernel
theorem dX11_voter_61 : decode cX11_voter 61 = .ok (.getfield 15, 3) := by decide +kernel
theorem dX11_voter_64 : decode cX11_voter 64 = .ok (.getfield 95, 3) := by decide +kernel
theorem dX11_voter_67 : decode cX11_voter 67 = .ok (.iload 5, 2) := by decide +kernel
theorem dX11_voter_69 : decode cX11_voter 69 = .ok (.iload_n 1, 1) := by decide +kernel
theorem dX11_voter_70 : decode cX11_voter 70 = .ok (.iastore, 1) := by decide +kernel
theorem dX11_voter_71 : decode cX11_voter 71 = .ok (.aload_n 0, 1) := by decide +kernel
theorem dX11_voter_72 : decode cX11_voter 72 = .ok (.getfield 15, 3) := by decide +kernel
theorem dX11_voter_75 : decode cX11_voter 75 = .ok (.getfield 98, 3) := by decide +kernel
theorem dX11_voter_78 : decode cX11_voter 78 = .ok (.iload 5, 2) := by decide +kernel
theorem dX11_voter_80 : decode cX11_voter 80 = .ok (.iload_n 2, 1) := by decide +kernel
theorem dX11_voter_81 : decode cX11_voter 81 = .ok (.iastore, 1) := by decide +kernel
theorem dX11_voter_82 : decode cX11_voter 82 = .ok (.aload_n 0, 1) := by decide +kernel
theorem dX11_voter_83 : decode cX11_voter 83 = .ok (.getfield 15, 3) := by decide +kernel
theorem dX11_voter_86 : decode cX11_voter 86 = .ok (.getfield 101, 3) := by decide +kernel
theorem dX11_voter_89 : decode cX11_voter 89 = .ok (.iload 5, 2) := by decide +kernel
theorem dX11_voter_91 : decode cX11_voter 91 = .ok (.iload_n 3, 1) := by decide +kernel
theorem dX11_voter_92 : decode cX11_voter 92 = .ok (.iastore, 1) := by decide +kernel
theorem dX11_voter_93 : decode cX11_voter 93 = .ok (.aload_n 0, 1) := by decide +kernel
theorem dX11_voter_94 : decode cX11_voter 94 = .ok (.getfield 15, 3) := by decide +kernel
theorem dX11_voter_97 : decode cX11_voter 97 = .ok (.getfield 104, 3) := by decide +kernel
theorem dX11_voter_100 : decode cX11_voter 100 = .ok (.iload 5, 2) := by decide +kernel
theorem dX11_voter_102 : decode cX11_voter 102 = .ok (.iload 4, 2) := by decide +kernel
theorem dX11_voter_104 : decode cX11_voter 104 = .ok (.iastore, 1) := by decide +kernel
theorem dX11_voter_105 : decode cX11_voter 105 = .ok (.aload_n 0, 1) := by decide +kernel
theorem dX11_voter_106 : decode cX11_voter 106 = .ok (.getfield 15, 3) := by decide +kernel
theorem dX11_voter_109 : decode cX11_voter 109 = .ok (.dup, 1) := by decide +kernel
theorem dX11_voter_110 : decode cX11_voter 110 = .ok (.getfield 107, 3) := by decide +kernel
theorem dX11_voter_113 : decode cX11_voter 113 = .ok (.iconst 1, 1) := by decide +kernel
theorem dX11_voter_114 : decode cX11_voter 114 = .ok (.iload 5, 2) := by decide +kernel
theorem dX11_voter_116 : decode cX11_voter 116 = .ok (.ishl, 1) := by decide +kernel
theorem dX11_voter_117 : decode cX11_voter 117 = .ok (.ior, 1) := by decide +kernel
theorem dX11_voter_118 : decode cX11_voter 118 = .ok (.putfield 107, 3) := by decide +kernel
theorem dX11_voter_121 : decode cX11_voter 121 = .ok (.aload_n 0, 1) := by decide +kernel
theorem dX11_voter_122 : decode cX11_voter 122 = .ok (.getfield 15, 3) := by decide +kernel
theorem dX11_voter_125 : decode cX11_voter 125 = .ok (.dup, 1) := by decide +kernel
theorem dX11_voter_126 : decode cX11_voter 126 = .ok (.getfield 91, 3) := by decide +kernel
theorem dX11_voter_129 : decode cX11_voter 129 = .ok (.iconst 1, 1) := by decide +kernel
theorem dX11_voter_130 : decode cX11_voter 130 = .ok (.iadd, 1) := by decide +kernel
theorem dX11_voter_131 : decode cX11_voter 131 = .ok (.putfield 91, 3) := by decide +kernel
theorem dX11_voter_134 : decode cX11_voter 134 = .ok (.aload_n 0, 1) := by decide +kernel
theorem dX11_voter_135 : decode cX11_voter 135 = .ok (.invokevirtual 80, 3) := by decide +kernel
theorem dX11_voter_138 : decode cX11_voter 138 = .ok (.iload 5, 2) := by decide +kernel
theorem dX11_voter_140 : decode cX11_voter 140 = .ok (.ireturn, 1) := by decide +kernel
theorem dX11_voterOf_0 : decode cX11_voterOf 0 = .ok (.aload_n 0, 1) := by decide +kernel
theorem dX11_voterOf_1 : decode cX11_voterOf 1 = .ok (.iload_n 1, 1) := by decide +kernel
theorem dX11_voterOf_2 : decode cX11_voterOf 2 = .ok (.invokevirtual 110, 3) := by decide +kernel
theorem dX11_voterOf_5 : decode cX11_voterOf 5 = .ok (.ifCond .ne 5, 3) := by decide +kernel
theorem dX11_voterOf_8 : decode cX11_voterOf 8 = .ok (.iconst (-1), 1) := by decide +kernel
theorem dX11_voterOf_9 : decode cX11_voterOf 9 = .ok (.ireturn, 1) := by decide +kernel
theorem dX11_voterOf_10 : decode cX11_voterOf 10 = .ok (.iload_n 2, 1) := by decide +kernel
theorem dX11_voterOf_11 : decode cX11_voterOf 11 = .ok (.tableswitch 133 0 6 #[41, 51, 61, 71, 81, 95, 110], 41) := by decide +kernel
theorem dX11_voterOf_52 : decode cX11_voterOf 52 = .ok (.aload_n 0, 1) := by decide +kernel
theorem dX11_voterOf_53 : decode cX11_voterOf 53 = .ok (.getfield 15, 3) := by decide +kernel
theorem dX11_voterOf_56 : decode cX11_voterOf 56 = .ok (.getfield 95, 3) := by decide +kernel
theorem dX11_voterOf_59 : decode cX11_voterOf 59 = .ok (.iload_n 1, 1) := by decide +kernel
theorem dX11_voterOf_60 : decode cX11_voterOf 60 = .ok (.iaload, 1) := by decide +kernel
theorem dX11_voterOf_61 : decode cX11_voterOf 61 = .ok (.ireturn, 1) := by decide +kernel
theorem dX11_voterOf_62 : decode cX11_voterOf 62 = .ok (.aload_n 0, 1) := by decide +kernel
theorem dX11_voterOf_63 : decode cX11_voterOf 63 = .ok (.getfield 15, 3) := by decide +kernel
theorem dX11_voterOf_66 : decode cX11_voterOf 66 = .ok (.getfield 98, 3) := by decide +kernel
theorem dX11_voterOf_69 : decode cX11_voterOf 69 = .ok (.iload_n 1, 1) := by decide +kernel
theorem dX11_voterOf_70 : decode cX11_voterOf 70 = .ok (.iaload, 1) := by decide +kernel
theorem dX11_voterOf_71 : decode cX11_voterOf 71 = .ok (.ireturn, 1) := by decide +kernel
theorem dX11_voterOf_72 : decode cX11_voterOf 72 = .ok (.aload_n 0, 1) := by decide +kernel
theorem dX11_voterOf_73 : decode cX11_voterOf 73 = .ok (.getfield 15, 3) := by decide +kernel
theorem dX11_voterOf_76 : decode cX11_voterOf 76 = .ok (.getfield 101, 3) := by decide +kernel
theorem dX11_voterOf_79 : decode cX11_voterOf 79 = .ok (.iload_n 1, 1) := by decide +kernel
theorem dX11_voterOf_80 : decode cX11_voterOf 80 = .ok (.iaload, 1) := by decide +kernel
theorem dX11_voterOf_81 : decode cX11_voterOf 81 = .ok (.ireturn, 1) := by decide +kernel
theorem dX11_voterOf_82 : decode cX11_voterOf 82 = .ok (.aload_n 0, 1) := by decide +kernel
theorem dX11_voterOf_83 : decode cX11_voterOf 83 = .ok (.getfield 15, 3) := by decide +kernel
theorem dX11_voterOf_86 : decode cX11_voterOf 86 = .ok (.getfield 104, 3) := by decide +kernel
theorem dX11_voterOf_89 : decode cX11_voterOf 89 = .ok (.iload_n 1, 1) := by decide +kernel
theorem dX11_voterOf_90 : decode cX11_voterOf 90 = .ok (.iaload, 1) := by decide +kernel
theorem dX11_voterOf_91 : decode cX11_voterOf 91 = .ok (.ireturn, 1) := by decide +kernel
theorem dX11_voterOf_92 : decode cX11_voterOf 92 = .ok (.aload_n 0, 1) := by decide +kernel
theorem dX11_voterOf_93 : decode cX11_voterOf 93 = .ok (.iload_n 1, 1) := by decide +kernel
theorem dX11_voterOf_94 : decode cX11_voterOf 94 = .ok (.invokevirtual 114, 3) := by decide +kernel
theorem dX11_voterOf_97 : decode cX11_voterOf 97 = .ok (.ifCond .eq 7, 3) := by decide +kernel
theorem dX11_voterOf_100 : decode cX11_voterOf 100 = .ok (.iconst 1, 1) := by decide +kernel
theorem dX11_voterOf_101 : decode cX11_voterOf 101 = .ok (.goto 4, 3) := by decide +kernel
theorem dX11_voterOf_104 : decode cX11_voterOf 104 = .ok (.iconst 0, 1) := by decide +kernel
theorem dX11_voterOf_105 : decode cX11_voterOf 105 = .ok (.ireturn, 1) := by decide +kernel
theorem dX11_voterOf_106 : decode cX11_voterOf 106 = .ok (.aload_n 0, 1) := by decide +kernel
theorem dX11_voterOf_107 : decode cX11_voterOf 107 = .ok (.iload_n 1, 1) := by decide +kernel
theorem dX11_voterOf_108 : decode cX11_voterOf 108 = .ok (.aload_n 0, 1) := by decide +kernel
theorem dX11_voterOf_109 : decode cX11_voterOf 109 = .ok (.getfield 15, 3) := by decide +kernel
theorem dX11_voterOf_112 : decode cX11_voterOf 112 = .ok (.getfield 117, 3) := by decide +kernel
theorem dX11_voterOf_115 : decode cX11_voterOf 115 = .ok (.invokevirtual 120, 3) := by decide +kernel
theorem dX11_voterOf_118 : decode cX11_voterOf 118 = .ok (.iconst 1, 1) := by decide +kernel
theorem dX11_voterOf_119 : decode cX11_voterOf 119 = .ok (.iadd, 1) := by decide +kernel
theorem dX11_voterOf_120 : decode cX11_voterOf 120 = .ok (.ireturn, 1) := by decide +kernel
theorem dX11_voterOf_121 : decode cX11_voterOf 121 = .ok (.aload_n 0, 1) := by decide +kernel
theorem dX11_voterOf_122 : decode cX11_voterOf 122 = .ok (.iload_n 1, 1) := by decide +kernel
theorem dX11_voterOf_123 : decode cX11_voterOf 123 = .ok (.aload_n 0, 1) := by decide +kernel
theorem dX11_voterOf_124 : decode cX11_voterOf 124 = .ok (.getfield 15, 3) := by decide +kernel
theorem dX11_voterOf_127 : decode cX11_voterOf 127 = .ok (.getfield 117, 3) := by decide +kernel
theorem dX11_voterOf_130 : decode cX11_voterOf 130 = .ok (.aload_n 0, 1) := by decide +kernel
theorem dX11_voterOf_131 : decode cX11_voterOf 131 = .ok (.getfield 15, 3) := by decide +kernel
theorem dX11_voterOf_134 : decode cX11_voterOf 134 = .ok (.getfield 107, 3) := by decide +kernel
theorem dX11_voterOf_137 : decode cX11_voterOf 137 = .ok (.invokestatic 124, 3) := by decide +kernel
theorem dX11_voterOf_140 : decode cX11_voterOf 140 = .ok (.invokevirtual 130, 3) := by decide +kernel
theorem dX11_voterOf_143 : decode cX11_voterOf 143 = .ok (.ireturn, 1) := by decide +kernel
theorem dX11_voterOf_144 : decode cX11_voterOf 144 = .ok (.iconst (-1), 1) := by decide +kernel
theorem dX11_voterOf_145 : decode cX11_voterOf 145 = .ok (.ireturn, 1) := by decide +kernel
theorem dX11_change_0 : decode cX11_change 0 = .ok (.aload_n 0, 1) := by decide +kernel
theorem dX11_change_1 : decode cX11_change 1 = .ok (.iload_n 1, 1) := by decide +kernel
theorem dX11_change_2 : decode cX11_change 2 = .ok (.invokevirtual 110, 3) := by decide +kernel
theorem dX11_change_5 : decode cX11_change 5 = .ok (.ifCond .eq 11, 3) := by decide +kernel
theorem dX11_change_8 : decode cX11_change 8 = .ok (.iload_n 2, 1) := by decide +kernel
theorem dX11_change_9 : decode cX11_change 9 = .ok (.iload_n 3, 1) := by decide +kernel
theorem dX11_change_10 : decode cX11_change 10 = .ok (.invokestatic 87, 3) := by decide +kernel
theorem dX11_change_13 : decode cX11_change 13 = .ok (.ifCond .ne 5, 3) := by decide +kernel
theorem dX11_change_16 : decode cX11_change 16 = .ok (.iconst (-1), 1) := by decide +kernel
theorem dX11_change_17 : decode cX11_change 17 = .ok (.ireturn, 1) := by decide +kernel
theorem dX11_change_18 : decode cX11_change 18 = .ok (.iload_n 2, 1) := by decide +kernel
theorem dX11_change_19 : decode cX11_change 19 = .ok (.iconst 1, 1) := by decide +kernel
theorem dX11_change_20 : decode cX11_change 20 = .ok (.if_icmp .ne 13, 3) := by decide +kernel
theorem dX11_change_23 : decode cX11_change 23 = .ok (.aload_n 0, 1) := by decide +kernel
theorem dX11_change_24 : decode cX11_change 24 = .ok (.getfield 15, 3) := by decide +kernel
theorem dX11_change_27 : decode cX11_change 27 = .ok (.getfield 98, 3) := by decide +kernel
theorem dX11_change_30 : decode cX11_change 30 = .ok (.goto 25, 3) := by decide +kernel
theorem dX11_change_33 : decode cX11_change 33 = .ok (.iload_n 2, 1) := by decide +kernel
theorem dX11_change_34 : decode cX11_change 34 = .ok (.iconst 2, 1) := by decide +kernel
theorem dX11_change_35 : decode cX11_change 35 = .ok (.if_icmp .ne 13, 3) := by decide +kernel
theorem dX11_change_38 : decode cX11_change 38 = .ok (.aload_n 0, 1) := by decide +kernel
theorem dX11_change_39 : decode cX11_change 39 = .ok (.getfield 15, 3) := by decide +kernel
theorem dX11_change_42 : decode cX11_change 42 = .ok (.getfield 101, 3) := by decide +kernel
theorem dX11_change_45 : decode cX11_change 45 = .ok (.goto 10, 3) := by decide +kernel
theorem dX11_change_48 : decode cX11_change 48 = .ok (.aload_n 0, 1) := by decide +kernel
theorem dX11_change_49 : decode cX11_change 49 = .ok (.getfield 15, 3) := by decide +kernel
theorem dX11_change_52 : decode cX11_change 52 = .ok (.getfield 104, 3) := by decide +kernel
theorem dX11_change_55 : decode cX11_change 55 = .ok (.astore 4, 2) := by decide +kernel
theorem dX11_change_57 : decode cX11_change 57 = .ok (.aload 4, 2) := by decide +kernel
theorem dX11_change_59 : decode cX11_change 59 = .ok (.iload_n 1, 1) := by decide +kernel
theorem dX11_change_60 : decode cX11_change 60 = .ok (.iaload, 1) := by decide +kernel
theorem dX11_change_61 : decode cX11_change 61 = .ok (.istore 5, 2) := by decide +kernel
theorem dX11_change_63 : decode cX11_change 63 = .ok (.aload 4, 2) := by decide +kernel
theorem dX11_change_65 : decode cX11_change 65 = .ok (.iload_n 1, 1) := by decide +kernel
theorem dX11_change_66 : decode cX11_change 66 = .ok (.iload_n 3, 1) := by decide +kernel
theorem dX11_change_67 : decode cX11_change 67 = .ok (.iastore, 1) := by decide +kernel
theorem dX11_change_68 : decode cX11_change 68 = .ok (.aload_n 0, 1) := by decide +kernel
theorem dX11_change_69 : decode cX11_change 69 = .ok (.invokevirtual 80, 3) := by decide +kernel
theorem dX11_change_72 : decode cX11_change 72 = .ok (.iload 5, 2) := by decide +kernel
theorem dX11_change_74 : decode cX11_change 74 = .ok (.ireturn, 1) := by decide +kernel
theorem dX11_remake_0 : decode cX11_remake 0 = .ok (.aload_n 0, 1) := by decide +kernel
theorem dX11_remake_1 : decode cX11_remake 1 = .ok (.iload_n 1, 1) := by decide +kernel
theorem dX11_remake_2 : decode cX11_remake 2 = .ok (.invokevirtual 110, 3) := by decide +kernel
theorem dX11_remake_5 : decode cX11_remake 5 = .ok (.ifCond .eq 12, 3) := by decide +kernel
theorem dX11_remake_8 : decode cX11_remake 8 = .ok (.iload_n 2, 1) := by decide +kernel
theorem dX11_remake_9 : decode cX11_remake 9 = .ok (.iconst 1, 1) := by decide +kernel
theorem dX11_remake_10 : decode cX11_remake 10 = .ok (.iconst 5, 1) := by decide +kernel
theorem dX11_remake_11 : decode cX11_remake 11 = .ok (.invokestatic 83, 3) := by decide +kernel
theorem dX11_remake_14 : decode cX11_remake 14 = .ok (.ifCond .ne 5, 3) := by decide +kernel
theorem dX11_remake_17 : decode cX11_remake 17 = .ok (.iconst (-1), 1) := by decide +kernel
theorem dX11_remake_18 : decode cX11_remake 18 = .ok (.ireturn, 1) := by decide +kernel
theorem dX11_remake_19 : decode cX11_remake 19 = .ok (.aload_n 0, 1) := by decide +kernel
theorem dX11_remake_20 : decode cX11_remake 20 = .ok (.getfield 15, 3) := by decide +kernel
theorem dX11_remake_23 : decode cX11_remake 23 = .ok (.getfield 95, 3) := by decide +kernel
theorem dX11_remake_26 : decode cX11_remake 26 = .ok (.iload_n 1, 1) := by decide +kernel
theorem dX11_remake_27 : decode cX11_remake 27 = .ok (.iaload, 1) := by decide +kernel
theorem dX11_remake_28 : decode cX11_remake 28 = .ok (.istore_n 3, 1) := by decide +kernel
theorem dX11_remake_29 : decode cX11_remake 29 = .ok (.aload_n 0, 1) := by decide +kernel
theorem dX11_remake_30 : decode cX11_remake 30 = .ok (.getfield 15, 3) := by decide +kernel
theorem dX11_remake_33 : decode cX11_remake 33 = .ok (.getfield 95, 3) := by decide +kernel
theorem dX11_remake_36 : decode cX11_remake 36 = .ok (.iload_n 1, 1) := by decide +kernel
theorem dX11_remake_37 : decode cX11_remake 37 = .ok (.iload_n 2, 1) := by decide +kernel
theorem dX11_remake_38 : decode cX11_remake 38 = .ok (.iastore, 1) := by decide +kernel
theorem dX11_remake_39 : decode cX11_remake 39 = .ok (.aload_n 0, 1) := by decide +kernel
theorem dX11_remake_40 : decode cX11_remake 40 = .ok (.invokevirtual 80, 3) := by decide +kernel
theorem dX11_remake_43 : decode cX11_remake 43 = .ok (.iload_n 3, 1) := by decide +kernel
theorem dX11_remake_44 : decode cX11_remake 44 = .ok (.ireturn, 1) := by decide +kernel
theorem dX11_wakes_0 : decode cX11_wakes 0 = .ok (.aload_n 0, 1) := by decide +kernel
theorem dX11_wakes_1 : decode cX11_wakes 1 = .ok (.iload_n 1, 1) := by decide +kernel
theorem dX11_wakes_2 : decode cX11_wakes 2 = .ok (.invokevirtual 110, 3) := by decide +kernel
theorem dX11_wakes_5 : decode cX11_wakes 5 = .ok (.ifCond .ne 5, 3) := by decide +kernel
theorem dX11_wakes_8 : decode cX11_wakes 8 = .ok (.iconst (-1), 1) := by decide +kernel
theorem dX11_wakes_9 : decode cX11_wakes 9 = .ok (.ireturn, 1) := by decide +kernel
theorem dX11_wakes_10 : decode cX11_wakes 10 = .ok (.aload_n 0, 1) := by decide +kernel
theorem dX11_wakes_11 : decode cX11_wakes 11 = .ok (.iload_n 1, 1) := by decide +kernel
theorem dX11_wakes_12 : decode cX11_wakes 12 = .ok (.invokevirtual 114, 3) := by decide +kernel
theorem dX11_wakes_15 : decode cX11_wakes 15 = .ok (.ifCond .eq 7, 3) := by decide +kernel
theorem dX11_wakes_18 : decode cX11_wakes 18 = .ok (.iconst 1, 1) := by decide +kernel
theorem dX11_wakes_19 : decode cX11_wakes 19 = .ok (.goto 4, 3) := by decide +kernel
theorem dX11_wakes_22 : decode cX11_wakes 22 = .ok (.iconst 0, 1) := by decide +kernel
theorem dX11_wakes_23 : decode cX11_wakes 23 = .ok (.istore_n 3, 1) := by decide +kernel
theorem dX11_wakes_24 : decode cX11_wakes 24 = .ok (.aload_n 0, 1) := by decide +kernel
theorem dX11_wakes_25 : decode cX11_wakes 25 = .ok (.getfield 15, 3) := by decide +kernel
theorem dX11_wakes_28 : decode cX11_wakes 28 = .ok (.iload_n 2, 1) := by decide +kernel
theorem dX11_wakes_29 : decode cX11_wakes 29 = .ok (.ifCond .eq 17, 3) := by decide +kernel
theorem dX11_wakes_32 : decode cX11_wakes 32 = .ok (.aload_n 0, 1) := by decide +kernel
theorem dX11_wakes_33 : decode cX11_wakes 33 = .ok (.getfield 15, 3) := by decide +kernel
theorem dX11_wakes_36 : decode cX11_wakes 36 = .ok (.getfield 107, 3) := by decide +kernel
theorem dX11_wakes_39 : decode cX11_wakes 39 = .ok (.iconst 1, 1) := by decide +kernel
theorem dX11_wakes_40 : decode cX11_wakes 40 = .ok (.iload_n 1, 1) := by decide +kernel
theorem dX11_wakes_41 : decode cX11_wakes 41 = .ok (.ishl, 1) := by decide +kernel
theorem dX11_wakes_42 : decode cX11_wakes 42 = .ok (.ior, 1) := by decide +kernel
theorem dX11_wakes_43 : decode cX11_wakes 43 = .ok (.goto 16, 3) := by decide +kernel
theorem dX11_wakes_46 : decode cX11_wakes 46 = .ok (.aload_n 0, 1) := by decide +kernel
theorem dX11_wakes_47 : decode cX11_wakes 47 = .ok (.getfield 15, 3) := by decide +kernel
theorem dX11_wakes_50 : decode cX11_wakes 50 = .ok (.getfield 107, 3) := by decide +kernel
theorem dX11_wakes_53 : decode cX11_wakes 53 = .ok (.iconst 1, 1) := by decide +kernel
theorem dX11_wakes_54 : decode cX11_wakes 54 = .ok (.iload_n 1, 1) := by decide +kernel
theorem dX11_wakes_55 : decode cX11_wakes 55 = .ok (.ishl, 1) := by decide +kernel
theorem dX11_wakes_56 : decode cX11_wakes 56 = .ok (.iconst (-1), 1) := by decide +kernel
theorem dX11_wakes_57 : decode cX11_wakes 57 = .ok (.ixor, 1) := by decide +kernel
theorem dX11_wakes_58 : decode cX11_wakes 58 = .ok (.iand, 1) := by decide +kernel
theorem dX11_wakes_59 : decode cX11_wakes 59 = .ok (.putfield 107, 3) := by decide +kernel
theorem dX11_wakes_62 : decode cX11_wakes 62 = .ok (.iload_n 3, 1) := by decide +kernel
theorem dX11_wakes_63 : decode cX11_wakes 63 = .ok (.ireturn, 1) := by decide +kernel
theorem dX11_clock_0 : decode cX11_clock 0 = .ok (.iload_n 1, 1) := by decide +kernel
theorem dX11_clock_1 : decode cX11_clock 1 = .ok (.invokestatic 134, 3) := by decide +kernel
theorem dX11_clock_4 : decode cX11_clock 4 = .ok (.ifCond .ne 5, 3) := by decide +kernel
theorem dX11_clock_7 : decode cX11_clock 7 = .ok (.iconst (-1), 1) := by decide +kernel
theorem dX11_clock_8 : decode cX11_clock 8 = .ok (.ireturn, 1) := by decide +kernel
theorem dX11_clock_9 : decode cX11_clock 9 = .ok (.aload_n 0, 1) := by decide +kernel
theorem dX11_clock_10 : decode cX11_clock 10 = .ok (.getfield 15, 3) := by decide +kernel
theorem dX11_clock_13 : decode cX11_clock 13 = .ok (.getfield 117, 3) := by decide +kernel
theorem dX11_clock_16 : decode cX11_clock 16 = .ok (.istore_n 2, 1) := by decide +kernel
theorem dX11_clock_17 : decode cX11_clock 17 = .ok (.aload_n 0, 1) := by decide +kernel
theorem dX11_clock_18 : decode cX11_clock 18 = .ok (.getfield 15, 3) := by decide +kernel
theorem dX11_clock_21 : decode cX11_clock 21 = .ok (.iload_n 1, 1) := by decide +kernel
theorem dX11_clock_22 : decode cX11_clock 22 = .ok (.putfield 117, 3) := by decide +kernel
theorem dX11_clock_25 : decode cX11_clock 25 = .ok (.iload_n 2, 1) := by decide +kernel
theorem dX11_clock_26 : decode cX11_clock 26 = .ok (.ireturn, 1) := by decide +kernel
theorem dX11_limit_0 : decode cX11_limit 0 = .ok (.iload_n 1, 1) := by decide +kernel
theorem dX11_limit_1 : decode cX11_limit 1 = .ok (.iconst 0, 1) := by decide +kernel
theorem dX11_limit_2 : decode cX11_limit 2 = .ok (.bipush 99, 2) := by decide +kernel
theorem dX11_limit_4 : decode cX11_limit 4 = .ok (.invokestatic 83, 3) := by decide +kernel
theorem dX11_limit_7 : decode cX11_limit 7 = .ok (.ifCond .ne 5, 3) := by decide +kernel
theorem dX11_limit_10 : decode cX11_limit 10 = .ok (.iconst (-1), 1) := by decide +kernel
theorem dX11_limit_11 : decode cX11_limit 11 = .ok (.ireturn, 1) := by decide +kernel
theorem dX11_limit_12 : decode cX11_limit 12 = .ok (.aload_n 0, 1) := by decide +kernel
theorem dX11_limit_13 : decode cX11_limit 13 = .ok (.getfield 15, 3) := by decide +kernel
theorem dX11_limit_16 : decode cX11_limit 16 = .ok (.getfield 137, 3) := by decide +kernel
theorem dX11_limit_19 : decode cX11_limit 19 = .ok (.istore_n 2, 1) := by decide +kernel
theorem dX11_limit_20 : decode cX11_limit 20 = .ok (.aload_n 0, 1) := by decide +kernel
theorem dX11_limit_21 : decode cX11_limit 21 = .ok (.getfield 15, 3) := by decide +kernel
theorem dX11_limit_24 : decode cX11_limit 24 = .ok (.iload_n 1, 1) := by decide +kernel
theorem dX11_limit_25 : decode cX11_limit 25 = .ok (.putfield 137, 3) := by decide +kernel
theorem dX11_limit_28 : decode cX11_limit 28 = .ok (.iload_n 2, 1) := by decide +kernel
theorem dX11_limit_29 : decode cX11_limit 29 = .ok (.ireturn, 1) := by decide +kernel
theorem dX11_state_0 : decode cX11_state 0 = .ok (.iload_n 1, 1) := by decide +kernel
theorem dX11_state_1 : decode cX11_state 1 = .ok (.tableswitch 75 0 4 #[35, 43, 51, 59, 67], 35) := by decide +kernel
theorem dX11_state_36 : decode cX11_state 36 = .ok (.aload_n 0, 1) := by decide +kernel
theorem dX11_state_37 : decode cX11_state 37 = .ok (.getfield 15, 3) := by decide +kernel
theorem dX11_state_40 : decode cX11_state 40 = .ok (.getfield 117, 3) := by decide +kernel
theorem dX11_state_43 : decode cX11_state 43 = .ok (.ireturn, 1) := by decide +kernel
theorem dX11_state_44 : decode cX11_state 44 = .ok (.aload_n 0, 1) := by decide +kernel
theorem dX11_state_45 : decode cX11_state 45 = .ok (.getfield 15, 3) := by decide +kernel
theorem dX11_state_48 : decode cX11_state 48 = .ok (.getfield 140, 3) := by decide +kernel
theorem dX11_state_51 : decode cX11_state 51 = .ok (.ireturn, 1) := by decide +kernel
theorem dX11_state_52 : decode cX11_state 52 = .ok (.aload_n 0, 1) := by decide +kernel
theorem dX11_state_53 : decode cX11_state 53 = .ok (.getfield 15, 3) := by decide +kernel
theorem dX11_state_56 : decode cX11_state 56 = .ok (.getfield 137, 3) := by decide +kernel
theorem dX11_state_59 : decode cX11_state 59 = .ok (.ireturn, 1) := by decide +kernel
theorem dX11_state_60 : decode cX11_state 60 = .ok (.aload_n 0, 1) := by decide +kernel
theorem dX11_state_61 : decode cX11_state 61 = .ok (.getfield 15, 3) := by decide +kernel
theorem dX11_state_64 : decode cX11_state 64 = .ok (.getfield 107, 3) := by decide +kernel
theorem dX11_state_67 : decode cX11_state 67 = .ok (.ireturn, 1) := by decide +kernel
theorem dX11_state_68 : decode cX11_state 68 = .ok (.aload_n 0, 1) := by decide +kernel
theorem dX11_state_69 : decode cX11_state 69 = .ok (.getfield 15, 3) := by decide +kernel
theorem dX11_state_72 : decode cX11_state 72 = .ok (.getfield 143, 3) := by decide +kernel
theorem dX11_state_75 : decode cX11_state 75 = .ok (.ireturn, 1) := by decide +kernel
theorem dX11_state_76 : decode cX11_state 76 = .ok (.iconst (-1), 1) := by decide +kernel
theorem dX11_state_77 : decode cX11_state 77 = .ok (.ireturn, 1) := by decide +kernel
theorem dX11_isVoter_0 : decode cX11_isVoter 0 = .ok (.iload_n 1, 1) := by decide +kernel
theorem dX11_isVoter_1 : decode cX11_isVoter 1 = .ok (.ifCond .lt 18, 3) := by decide +kernel
theorem dX11_isVoter_4 : decode cX11_isVoter 4 = .ok (.iload_n 1, 1) := by decide +kernel
theorem dX11_isVoter_5 : decode cX11_isVoter 5 = .ok (.aload_n 0, 1) := by decide +kernel
theorem dX11_isVoter_6 : decode cX11_isVoter 6 = .ok (.getfield 15, 3) := by decide +kernel
theorem dX11_isVoter_9 : decode cX11_isVoter 9 = .ok (.getfield 91, 3) := by decide +kernel
theorem dX11_isVoter_12 : decode cX11_isVoter 12 = .ok (.if_icmp .ge 7, 3) := by decide +kernel
theorem dX11_isVoter_15 : decode cX11_isVoter 15 = .ok (.iconst 1, 1) := by decide +kernel
theorem dX11_isVoter_16 : decode cX11_isVoter 16 = .ok (.goto 4, 3) := by decide +kernel
theorem dX11_isVoter_19 : decode cX11_isVoter 19 = .ok (.iconst 0, 1) := by decide +kernel
theorem dX11_isVoter_20 : decode cX11_isVoter 20 = .ok (.ireturn, 1) := by decide +kernel
theorem dX11_isAwake_0 : decode cX11_isAwake 0 = .ok (.aload_n 0, 1) := by decide +kernel
theorem dX11_isAwake_1 : decode cX11_isAwake 1 = .ok (.getfield 15, 3) := by decide +kernel
theorem dX11_isAwake_4 : decode cX11_isAwake 4 = .ok (.getfield 107, 3) := by decide +kernel
theorem dX11_isAwake_7 : decode cX11_isAwake 7 = .ok (.iload_n 1, 1) := by decide +kernel
theorem dX11_isAwake_8 : decode cX11_isAwake 8 = .ok (.ishr, 1) := by decide +kernel
theorem dX11_isAwake_9 : decode cX11_isAwake 9 = .ok (.iconst 1, 1) := by decide +kernel
theorem dX11_isAwake_10 : decode cX11_isAwake 10 = .ok (.iand, 1) := by decide +kernel
theorem dX11_isAwake_11 : decode cX11_isAwake 11 = .ok (.iconst 1, 1) := by decide +kernel
theorem dX11_isAwake_12 : decode cX11_isAwake 12 = .ok (.if_icmp .ne 7, 3) := by decide +kernel
theorem dX11_isAwake_15 : decode cX11_isAwake 15 = .ok (.iconst 1, 1) := by decide +kernel
theorem dX11_isAwake_16 : decode cX11_isAwake 16 = .ok (.goto 4, 3) := by decide +kernel
theorem dX11_isAwake_19 : decode cX11_isAwake 19 = .ok (.iconst 0, 1) := by decide +kernel
theorem dX11_isAwake_20 : decode cX11_isAwake 20 = .ok (.ireturn, 1) := by decide +kernel
theorem dX11_isHour_0 : decode cX11_isHour 0 = .ok (.iload_n 0, 1) := by decide +kernel
theorem dX11_isHour_1 : decode cX11_isHour 1 = .ok (.iconst 0, 1) := by decide +kernel
theorem dX11_isHour_2 : decode cX11_isHour 2 = .ok (.bipush 23, 2) := by decide +kernel
theorem dX11_isHour_4 : decode cX11_isHour 4 = .ok (.invokestatic 83, 3) := by decide +kernel
theorem dX11_isHour_7 : decode cX11_isHour 7 = .ok (.ireturn, 1) := by decide +kernel
theorem dX11_isIn_0 : decode cX11_isIn 0 = .ok (.iload_n 0, 1) := by decide +kernel
theorem dX11_isIn_1 : decode cX11_isIn 1 = .ok (.iload_n 1, 1) := by decide +kernel
theorem dX11_isIn_2 : decode cX11_isIn 2 = .ok (.if_icmp .lt 12, 3) := by decide +kernel
theorem dX11_isIn_5 : decode cX11_isIn 5 = .ok (.iload_n 0, 1) := by decide +kernel
theorem dX11_isIn_6 : decode cX11_isIn 6 = .ok (.iload_n 2, 1) := by decide +kernel
theorem dX11_isIn_7 : decode cX11_isIn 7 = .ok (.if_icmp .gt 7, 3) := by decide +kernel
theorem dX11_isIn_10 : decode cX11_isIn 10 = .ok (.iconst 1, 1) := by decide +kernel
theorem dX11_isIn_11 : decode cX11_isIn 11 = .ok (.goto 4, 3) := by decide +kernel
theorem dX11_isIn_14 : decode cX11_isIn 14 = .ok (.iconst 0, 1) := by decide +kernel
theorem dX11_isIn_15 : decode cX11_isIn 15 = .ok (.ireturn, 1) := by decide +kernel
theorem dX11_suits_0 : decode cX11_suits 0 = .ok (.iload_n 0, 1) := by decide +kernel
theorem dX11_suits_1 : decode cX11_suits 1 = .ok (.tableswitch 48 1 3 #[27, 32, 40], 27) := by decide +kernel
theorem dX11_suits_28 : decode cX11_suits 28 = .ok (.iload_n 1, 1) := by decide +kernel
theorem dX11_suits_29 : decode cX11_suits 29 = .ok (.invokestatic 134, 3) := by decide +kernel
theorem dX11_suits_32 : decode cX11_suits 32 = .ok (.ireturn, 1) := by decide +kernel
theorem dX11_suits_33 : decode cX11_suits 33 = .ok (.iload_n 1, 1) := by decide +kernel
theorem dX11_suits_34 : decode cX11_suits 34 = .ok (.iconst 1, 1) := by decide +kernel
theorem dX11_suits_35 : decode cX11_suits 35 = .ok (.bipush 9, 2) := by decide +kernel
theorem dX11_suits_37 : decode cX11_suits 37 = .ok (.invokestatic 83, 3) := by decide +kernel
theorem dX11_suits_40 : decode cX11_suits 40 = .ok (.ireturn, 1) := by decide +kernel
theorem dX11_suits_41 : decode cX11_suits 41 = .ok (.iload_n 1, 1) := by decide +kernel
theorem dX11_suits_42 : decode cX11_suits 42 = .ok (.iconst 0, 1) := by decide +kernel
theorem dX11_suits_43 : decode cX11_suits 43 = .ok (.bipush 99, 2) := by decide +kernel
theorem dX11_suits_45 : decode cX11_suits 45 = .ok (.invokestatic 83, 3) := by decide +kernel
theorem dX11_suits_48 : decode cX11_suits 48 = .ok (.ireturn, 1) := by decide +kernel
theorem dX11_suits_49 : decode cX11_suits 49 = .ok (.iconst 0, 1) := by decide +kernel
theorem dX11_suits_50 : decode cX11_suits 50 = .ok (.ireturn, 1) := by decide +kernel
theorem dX11_feed_0 : decode cX11_feed 0 = .ok (.iload_n 3, 1) := by decide +kernel
theorem dX11_feed_1 : decode cX11_feed 1 = .ok (.iconst 1, 1) := by decide +kernel
theorem dX11_feed_2 : decode cX11_feed 2 = .ok (.bipush 8, 2) := by decide +kernel
theorem dX11_feed_4 : decode cX11_feed 4 = .ok (.invokestatic 83, 3) := by decide +kernel
theorem dX11_feed_7 : decode cX11_feed 7 = .ok (.ifCond .ne 5, 3) := by decide +kernel
theorem dX11_feed_10 : decode cX11_feed 10 = .ok (.iconst (-1), 1) := by decide +kernel
theorem dX11_feed_11 : decode cX11_feed 11 = .ok (.ireturn, 1) := by decide +kernel
theorem dX11_feed_12 : decode cX11_feed 12 = .ok (.aload_n 0, 1) := by decide +kernel
theorem dX11_feed_13 : decode cX11_feed 13 = .ok (.getfield 25, 3) := by decide +kernel
theorem dX11_feed_16 : decode cX11_feed 16 = .ok (.getfield 146, 3) := by decide +kernel
theorem dX11_feed_19 : decode cX11_feed 19 = .ok (.iload_n 3, 1) := by decide +kernel
theorem dX11_feed_20 : decode cX11_feed 20 = .ok (.iadd, 1) := by decide +kernel
theorem dX11_feed_21 : decode cX11_feed 21 = .ok (.sipush 200, 3) := by decide +kernel
theorem dX11_feed_24 : decode cX11_feed 24 = .ok (.if_icmp .le 6, 3) := by decide +kernel
theorem dX11_feed_27 : decode cX11_feed 27 = .ok (.bipush (-2), 2) := by decide +kernel
theorem dX11_feed_29 : decode cX11_feed 29 = .ok (.ireturn, 1) := by decide +kernel
theorem dX11_feed_30 : decode cX11_feed 30 = .ok (.aload_n 0, 1) := by decide +kernel
theorem dX11_feed_31 : decode cX11_feed 31 = .ok (.getfield 25, 3) := by decide +kernel
theorem dX11_feed_34 : decode cX11_feed 34 = .ok (.lload_n 1, 1) := by decide +kernel
theorem dX11_feed_35 : decode cX11_feed 35 = .ok (.iload_n 3, 1) := by decide +kernel
theorem dX11_feed_36 : decode cX11_feed 36 = .ok (.invokevirtual 149, 3) := by decide +kernel
theorem dX11_feed_39 : decode cX11_feed 39 = .ok (.ireturn, 1) := by decide +kernel
theorem dX11_rules_0 : decode cX11_rules 0 = .ok (.aload_n 0, 1) := by decide +kernel
theorem dX11_rules_1 : decode cX11_rules 1 = .ok (.getfield 25, 3) := by decide +kernel
theorem dX11_rules_4 : decode cX11_rules 4 = .ok (.invokevirtual 153, 3) := by decide +kernel
theorem dX11_rules_7 : decode cX11_rules 7 = .ok (.istore_n 1, 1) := by decide +kernel
theorem dX11_rules_8 : decode cX11_rules 8 = .ok (.iload_n 1, 1) := by decide +kernel
theorem dX11_rules_9 : decode cX11_rules 9 = .ok (.ifCond .lt 8, 3) := by decide +kernel
theorem dX11_rules_12 : decode cX11_rules 12 = .ok (.bipush (-100), 2) := by decide +kernel
theorem dX11_rules_14 : decode cX11_rules 14 = .ok (.iload_n 1, 1) := by decide +kernel
theorem dX11_rules_15 : decode cX11_rules 15 = .ok (.isub, 1) := by decide +kernel
theorem dX11_rules_16 : decode cX11_rules 16 = .ok (.ireturn, 1) := by decide +kernel
theorem dX11_rules_17 : decode cX11_rules 17 = .ok (.aload_n 0, 1) := by decide +kernel
theorem dX11_rules_18 : decode cX11_rules 18 = .ok (.getfield 15, 3) := by decide +kernel
theorem dX11_rules_21 : decode cX11_rules 21 = .ok (.getfield 157, 3) := by decide +kernel
theorem dX11_rules_24 : decode cX11_rules 24 = .ok (.aload_n 0, 1) := by decide +kernel
theorem dX11_rules_25 : decode cX11_rules 25 = .ok (.getfield 25, 3) := by decide +kernel
theorem dX11_rules_28 : decode cX11_rules 28 = .ok (.getfield 161, 3) := by decide +kernel
theorem dX11_rules_31 : decode cX11_rules 31 = .ok (.invokevirtual 164, 3) := by decide +kernel
theorem dX11_rules_34 : decode cX11_rules 34 = .ok (.aload_n 0, 1) := by decide +kernel
theorem dX11_rules_35 : decode cX11_rules 35 = .ok (.invokevirtual 80, 3) := by decide +kernel
theorem dX11_rules_38 : decode cX11_rules 38 = .ok (.aload_n 0, 1) := by decide +kernel
theorem dX11_rules_39 : decode cX11_rules 39 = .ok (.getfield 15, 3) := by decide +kernel
theorem dX11_rules_42 : decode cX11_rules 42 = .ok (.getfield 157, 3) := by decide +kernel
theorem dX11_rules_45 : decode cX11_rules 45 = .ok (.getfield 170, 3) := by decide +kernel
theorem dX11_rules_48 : decode cX11_rules 48 = .ok (.ireturn, 1) := by decide +kernel
theorem dX11_sum_0 : decode cX11_sum 0 = .ok (.aload_n 0, 1) := by decide +kernel
theorem dX11_sum_1 : decode cX11_sum 1 = .ok (.aload_n 0, 1) := by decide +kernel
theorem dX11_sum_2 : decode cX11_sum 2 = .ok (.getfield 15, 3) := by decide +kernel
theorem dX11_sum_5 : decode cX11_sum 5 = .ok (.getfield 117, 3) := by decide +kernel
theorem dX11_sum_8 : decode cX11_sum 8 = .ok (.aload_n 0, 1) := by decide +kernel
theorem dX11_sum_9 : decode cX11_sum 9 = .ok (.getfield 15, 3) := by decide +kernel
theorem dX11_sum_12 : decode cX11_sum 12 = .ok (.getfield 107, 3) := by decide +kernel
theorem dX11_sum_15 : decode cX11_sum 15 = .ok (.invokevirtual 173, 3) := by decide +kernel
theorem dX11_sum_18 : decode cX11_sum 18 = .ok (.ireturn, 1) := by decide +kernel
theorem dX11_noon_0 : decode cX11_noon 0 = .ok (.aload_n 0, 1) := by decide +kernel
theorem dX11_noon_1 : decode cX11_noon 1 = .ok (.getfield 15, 3) := by decide +kernel
theorem dX11_noon_4 : decode cX11_noon 4 = .ok (.getfield 140, 3) := by decide +kernel
theorem dX11_noon_7 : decode cX11_noon 7 = .ok (.sipush 9999, 3) := by decide +kernel
theorem dX11_noon_10 : decode cX11_noon 10 = .ok (.if_icmp .lt 6, 3) := by decide +kernel
theorem dX11_noon_13 : decode cX11_noon 13 = .ok (.bipush (-4), 2) := by decide +kernel
theorem dX11_noon_15 : decode cX11_noon 15 = .ok (.ireturn, 1) := by decide +kernel
theorem dX11_noon_16 : decode cX11_noon 16 = .ok (.aload_n 0, 1) := by decide +kernel
theorem dX11_noon_17 : decode cX11_noon 17 = .ok (.getfield 15, 3) := by decide +kernel
theorem dX11_noon_20 : decode cX11_noon 20 = .ok (.aload_n 0, 1) := by decide +kernel
theorem dX11_noon_21 : decode cX11_noon 21 = .ok (.invokevirtual 176, 3) := by decide +kernel
theorem dX11_noon_24 : decode cX11_noon 24 = .ok (.invokevirtual 179, 3) := by decide +kernel
theorem dX11_noon_27 : decode cX11_noon 27 = .ok (.ireturn, 1) := by decide +kernel
theorem dX11_on_0 : decode cX11_on 0 = .ok (.iload_n 1, 1) := by decide +kernel
theorem dX11_on_1 : decode cX11_on 1 = .ok (.iconst 0, 1) := by decide +kernel
theorem dX11_on_2 : decode cX11_on 2 = .ok (.bipush 60, 2) := by decide +kernel
theorem dX11_on_4 : decode cX11_on 4 = .ok (.invokestatic 83, 3) := by decide +kernel
theorem dX11_on_7 : decode cX11_on 7 = .ok (.ifCond .ne 5, 3) := by decide +kernel
theorem dX11_on_10 : decode cX11_on 10 = .ok (.iconst (-1), 1) := by decide +kernel
theorem dX11_on_11 : decode cX11_on 11 = .ok (.ireturn, 1) := by decide +kernel
theorem dX11_on_12 : decode cX11_on 12 = .ok (.aload_n 0, 1) := by decide +kernel
theorem dX11_on_13 : decode cX11_on 13 = .ok (.aload_n 0, 1) := by decide +kernel
theorem dX11_on_14 : decode cX11_on 14 = .ok (.getfield 15, 3) := by decide +kernel
theorem dX11_on_17 : decode cX11_on 17 = .ok (.getfield 117, 3) := by decide +kernel
theorem dX11_on_20 : decode cX11_on 20 = .ok (.iload_n 1, 1) := by decide +kernel
theorem dX11_on_21 : decode cX11_on 21 = .ok (.invokevirtual 182, 3) := by decide +kernel
theorem dX11_on_24 : decode cX11_on 24 = .ok (.ireturn, 1) := by decide +kernel
theorem dX11_when_0 : decode cX11_when 0 = .ok (.iload_n 1, 1) := by decide +kernel
theorem dX11_when_1 : decode cX11_when 1 = .ok (.invokestatic 134, 3) := by decide +kernel
theorem dX11_when_4 : decode cX11_when 4 = .ok (.ifCond .ne 5, 3) := by decide +kernel
theorem dX11_when_7 : decode cX11_when 7 = .ok (.iconst (-1), 1) := by decide +kernel
theorem dX11_when_8 : decode cX11_when 8 = .ok (.ireturn, 1) := by decide +kernel
theorem dX11_when_9 : decode cX11_when 9 = .ok (.aload_n 0, 1) := by decide +kernel
theorem dX11_when_10 : decode cX11_when 10 = .ok (.getfield 15, 3) := by decide +kernel
theorem dX11_when_13 : decode cX11_when 13 = .ok (.getfield 117, 3) := by decide +kernel
theorem dX11_when_16 : decode cX11_when 16 = .ok (.istore_n 2, 1) := by decide +kernel
theorem dX11_when_17 : decode cX11_when 17 = .ok (.iconst 0, 1) := by decide +kernel
theorem dX11_when_18 : decode cX11_when 18 = .ok (.istore_n 3, 1) := by decide +kernel
theorem dX11_when_19 : decode cX11_when 19 = .ok (.iload_n 3, 1) := by decide +kernel
theorem dX11_when_20 : decode cX11_when 20 = .ok (.bipush 60, 2) := by decide +kernel
theorem dX11_when_22 : decode cX11_when 22 = .ok (.if_icmp .gt 23, 3) := by decide +kernel
theorem dX11_when_25 : decode cX11_when 25 = .ok (.iload_n 2, 1) := by decide +kernel
theorem dX11_when_26 : decode cX11_when 26 = .ok (.iload_n 1, 1) := by decide +kernel
theorem dX11_when_27 : decode cX11_when 27 = .ok (.if_icmp .ne 5, 3) := by decide +kernel
theorem dX11_when_30 : decode cX11_when 30 = .ok (.iload_n 3, 1) := by decide +kernel
theorem dX11_when_31 : decode cX11_when 31 = .ok (.ireturn, 1) := by decide +kernel
theorem dX11_when_32 : decode cX11_when 32 = .ok (.aload_n 0, 1) := by decide +kernel
theorem dX11_when_33 : decode cX11_when 33 = .ok (.iload_n 2, 1) := by decide +kernel
theorem dX11_when_34 : decode cX11_when 34 = .ok (.iconst 1, 1) := by decide +kernel
theorem dX11_when_35 : decode cX11_when 35 = .ok (.invokevirtual 182, 3) := by decide +kernel
theorem dX11_when_38 : decode cX11_when 38 = .ok (.istore_n 2, 1) := by decide +kernel
theorem dX11_when_39 : decode cX11_when 39 = .ok (.iinc 3 1, 3) := by decide +kernel
theorem dX11_when_42 : decode cX11_when 42 = .ok (.goto (-23), 3) := by decide +kernel
theorem dX11_when_45 : decode cX11_when 45 = .ok (.bipush (-3), 2) := by decide +kernel
theorem dX11_when_47 : decode cX11_when 47 = .ok (.ireturn, 1) := by decide +kernel
theorem dX11_cycle_0 : decode cX11_cycle 0 = .ok (.iload_n 1, 1) := by decide +kernel
theorem dX11_cycle_1 : decode cX11_cycle 1 = .ok (.iconst 0, 1) := by decide +kernel
theorem dX11_cycle_2 : decode cX11_cycle 2 = .ok (.iconst 1, 1) := by decide +kernel
theorem dX11_cycle_3 : decode cX11_cycle 3 = .ok (.invokestatic 83, 3) := by decide +kernel
theorem dX11_cycle_6 : decode cX11_cycle 6 = .ok (.ifCond .ne 5, 3) := by decide +kernel
theorem dX11_cycle_9 : decode cX11_cycle 9 = .ok (.iconst (-1), 1) := by decide +kernel
theorem dX11_cycle_10 : decode cX11_cycle 10 = .ok (.ireturn, 1) := by decide +kernel
theorem dX11_cycle_11 : decode cX11_cycle 11 = .ok (.aload_n 0, 1) := by decide +kernel
theorem dX11_cycle_12 : decode cX11_cycle 12 = .ok (.aload_n 0, 1) := by decide +kernel
theorem dX11_cycle_13 : decode cX11_cycle 13 = .ok (.getfield 15, 3) := by decide +kernel
theorem dX11_cycle_16 : decode cX11_cycle 16 = .ok (.getfield 117, 3) := by decide +kernel
theorem dX11_cycle_19 : decode cX11_cycle 19 = .ok (.bipush 24, 2) := by decide +kernel
theorem dX11_cycle_21 : decode cX11_cycle 21 = .ok (.invokevirtual 182, 3) := by decide +kernel
theorem dX11_cycle_24 : decode cX11_cycle 24 = .ok (.istore_n 2, 1) := by decide +kernel
theorem dX11_cycle_25 : decode cX11_cycle 25 = .ok (.iconst 1, 1) := by decide +kernel
theorem dX11_cycle_26 : decode cX11_cycle 26 = .ok (.istore_n 3, 1) := by decide +kernel
theorem dX11_cycle_27 : decode cX11_cycle 27 = .ok (.aload_n 0, 1) := by decide +kernel
theorem dX11_cycle_28 : decode cX11_cycle 28 = .ok (.iload_n 2, 1) := by decide +kernel
theorem dX11_cycle_29 : decode cX11_cycle 29 = .ok (.iconst 1, 1) := by decide +kernel
theorem dX11_cycle_30 : decode cX11_cycle 30 = .ok (.invokevirtual 182, 3) := by decide +kernel
theorem dX11_cycle_33 : decode cX11_cycle 33 = .ok (.istore 4, 2) := by decide +kernel
theorem dX11_cycle_35 : decode cX11_cycle 35 = .ok (.iload 4, 2) := by decide +kernel
theorem dX11_cycle_37 : decode cX11_cycle 37 = .ok (.iload_n 2, 1) := by decide +kernel
theorem dX11_cycle_38 : decode cX11_cycle 38 = .ok (.if_icmp .eq 24, 3) := by decide +kernel
theorem dX11_cycle_41 : decode cX11_cycle 41 = .ok (.iload_n 3, 1) := by decide +kernel
theorem dX11_cycle_42 : decode cX11_cycle 42 = .ok (.bipush 24, 2) := by decide +kernel
theorem dX11_cycle_44 : decode cX11_cycle 44 = .ok (.if_icmp .ge 18, 3) := by decide +kernel
theorem dX11_cycle_47 : decode cX11_cycle 47 = .ok (.aload_n 0, 1) := by decide +kernel
theorem dX11_cycle_48 : decode cX11_cycle 48 = .ok (.iload 4, 2) := by decide +kernel
theorem dX11_cycle_50 : decode cX11_cycle 50 = .ok (.iconst 1, 1) := by decide +kernel
theorem dX11_cycle_51 : decode cX11_cycle 51 = .ok (.invokevirtual 182, 3) := by decide +kernel
theorem dX11_cycle_54 : decode cX11_cycle 54 = .ok (.istore 4, 2) := by decide +kernel
theorem dX11_cycle_56 : decode cX11_cycle 56 = .ok (.iinc 3 1, 3) := by decide +kernel
theorem dX11_cycle_59 : decode cX11_cycle 59 = .ok (.goto (-24), 3) := by decide +kernel
theorem dX11_cycle_62 : decode cX11_cycle 62 = .ok (.iload_n 1, 1) := by decide +kernel
theorem dX11_cycle_63 : decode cX11_cycle 63 = .ok (.iconst 1, 1) := by decide +kernel
theorem dX11_cycle_64 : decode cX11_cycle 64 = .ok (.if_icmp .ne 7, 3) := by decide +kernel
theorem dX11_cycle_67 : decode cX11_cycle 67 = .ok (.iload_n 3, 1) := by decide +kernel
theorem dX11_cycle_68 : decode cX11_cycle 68 = .ok (.goto 8, 3) := by decide +kernel
theorem dX11_cycle_71 : decode cX11_cycle 71 = .ok (.aload_n 0, 1) := by decide +kernel
theorem dX11_cycle_72 : decode cX11_cycle 72 = .ok (.iload_n 3, 1) := by decide +kernel
theorem dX11_cycle_73 : decode cX11_cycle 73 = .ok (.invokevirtual 185, 3) := by decide +kernel
theorem dX11_cycle_76 : decode cX11_cycle 76 = .ok (.ireturn, 1) := by decide +kernel
theorem dX11_noonsUntilRound_0 : decode cX11_noonsUntilRound 0 = .ok (.aload_n 0, 1) := by decide +kernel
theorem dX11_noonsUntilRound_1 : decode cX11_noonsUntilRound 1 = .ok (.getfield 15, 3) := by decide +kernel
theorem dX11_noonsUntilRound_4 : decode cX11_noonsUntilRound 4 = .ok (.getfield 117, 3) := by decide +kernel
theorem dX11_noonsUntilRound_7 : decode cX11_noonsUntilRound 7 = .ok (.istore_n 2, 1) := by decide +kernel
theorem dX11_noonsUntilRound_8 : decode cX11_noonsUntilRound 8 = .ok (.aload_n 0, 1) := by decide +kernel
theorem dX11_noonsUntilRound_9 : decode cX11_noonsUntilRound 9 = .ok (.aload_n 0, 1) := by decide +kernel
theorem dX11_noonsUntilRound_10 : decode cX11_noonsUntilRound 10 = .ok (.getfield 15, 3) := by decide +kernel
theorem dX11_noonsUntilRound_13 : decode cX11_noonsUntilRound 13 = .ok (.getfield 117, 3) := by decide +kernel
theorem dX11_noonsUntilRound_16 : decode cX11_noonsUntilRound 16 = .ok (.iload_n 1, 1) := by decide +kernel
theorem dX11_noonsUntilRound_17 : decode cX11_noonsUntilRound 17 = .ok (.invokevirtual 182, 3) := by decide +kernel
theorem dX11_noonsUntilRound_20 : decode cX11_noonsUntilRound 20 = .ok (.istore_n 3, 1) := by decide +kernel
theorem dX11_noonsUntilRound_21 : decode cX11_noonsUntilRound 21 = .ok (.iconst 0, 1) := by decide +kernel
theorem dX11_noonsUntilRound_22 : decode cX11_noonsUntilRound 22 = .ok (.istore 4, 2) := by decide +kernel
theorem dX11_noonsUntilRound_24 : decode cX11_noonsUntilRound 24 = .ok (.iload_n 2, 1) := by decide +kernel
theorem dX11_noonsUntilRound_25 : decode cX11_noonsUntilRound 25 = .ok (.iload_n 3, 1) := by decide +kernel
theorem dX11_noonsUntilRound_26 : decode cX11_noonsUntilRound 26 = .ok (.if_icmp .eq 30, 3) := by decide +kernel
theorem dX11_noonsUntilRound_29 : decode cX11_noonsUntilRound 29 = .ok (.iload 4, 2) := by decide +kernel
theorem dX11_noonsUntilRound_31 : decode cX11_noonsUntilRound 31 = .ok (.bipush 24, 2) := by decide +kernel
theorem dX11_noonsUntilRound_33 : decode cX11_noonsUntilRound 33 = .ok (.if_icmp .ge 23, 3) := by decide +kernel
theorem dX11_noonsUntilRound_36 : decode cX11_noonsUntilRound 36 = .ok (.aload_n 0, 1) := by decide +kernel
theorem dX11_noonsUntilRound_37 : decode cX11_noonsUntilRound 37 = .ok (.iload_n 2, 1) := by decide +kernel
theorem dX11_noonsUntilRound_38 : decode cX11_noonsUntilRound 38 = .ok (.iconst 1, 1) := by decide +kernel
theorem dX11_noonsUntilRound_39 : decode cX11_noonsUntilRound 39 = .ok (.invokevirtual 182, 3) := by decide +kernel
theorem dX11_noonsUntilRound_42 : decode cX11_noonsUntilRound 42 = .ok (.istore_n 2, 1) := by decide +kernel
theorem dX11_noonsUntilRound_43 : decode cX11_noonsUntilRound 43 = .ok (.aload_n 0, 1) := by decide +kernel
theorem dX11_noonsUntilRound_44 : decode cX11_noonsUntilRound 44 = .ok (.iload_n 3, 1) := by decide +kernel
theorem dX11_noonsUntilRound_45 : decode cX11_noonsUntilRound 45 = .ok (.iconst 1, 1) := by decide +kernel
theorem dX11_noonsUntilRound_46 : decode cX11_noonsUntilRound 46 = .ok (.invokevirtual 182, 3) := by decide +kernel
theorem dX11_noonsUntilRound_49 : decode cX11_noonsUntilRound 49 = .ok (.istore_n 3, 1) := by decide +kernel
theorem dX11_noonsUntilRound_50 : decode cX11_noonsUntilRound 50 = .ok (.iinc 4 1, 3) := by decide +kernel
theorem dX11_noonsUntilRound_53 : decode cX11_noonsUntilRound 53 = .ok (.goto (-29), 3) := by decide +kernel
theorem dX11_noonsUntilRound_56 : decode cX11_noonsUntilRound 56 = .ok (.iload 4, 2) := by decide +kernel
theorem dX11_noonsUntilRound_58 : decode cX11_noonsUntilRound 58 = .ok (.ireturn, 1) := by decide +kernel
theorem dX11_hourAfter_0 : decode cX11_hourAfter 0 = .ok (.iload_n 1, 1) := by decide +kernel
theorem dX11_hourAfter_1 : decode cX11_hourAfter 1 = .ok (.istore_n 3, 1) := by decide +kernel
theorem dX11_hourAfter_2 : decode cX11_hourAfter 2 = .ok (.iconst 0, 1) := by decide +kernel
theorem dX11_hourAfter_3 : decode cX11_hourAfter 3 = .ok (.istore 4, 2) := by decide +kernel
theorem dX11_hourAfter_5 : decode cX11_hourAfter 5 = .ok (.iload 4, 2) := by decide +kernel
theorem dX11_hourAfter_7 : decode cX11_hourAfter 7 = .ok (.iload_n 2, 1) := by decide +kernel
theorem dX11_hourAfter_8 : decode cX11_hourAfter 8 = .ok (.if_icmp .ge 22, 3) := by decide +kernel
theorem dX11_hourAfter_11 : decode cX11_hourAfter 11 = .ok (.aload_n 0, 1) := by decide +kernel
theorem dX11_hourAfter_12 : decode cX11_hourAfter 12 = .ok (.iload_n 3, 1) := by decide +kernel
theorem dX11_hourAfter_13 : decode cX11_hourAfter 13 = .ok (.aload_n 0, 1) := by decide +kernel
theorem dX11_hourAfter_14 : decode cX11_hourAfter 14 = .ok (.getfield 15, 3) := by decide +kernel
theorem dX11_hourAfter_17 : decode cX11_hourAfter 17 = .ok (.getfield 107, 3) := by decide +kernel
theorem dX11_hourAfter_20 : decode cX11_hourAfter 20 = .ok (.invokevirtual 188, 3) := by decide +kernel
theorem dX11_hourAfter_23 : decode cX11_hourAfter 23 = .ok (.istore_n 3, 1) := by decide +kernel
theorem dX11_hourAfter_24 : decode cX11_hourAfter 24 = .ok (.iinc 4 1, 3) := by decide +kernel
theorem dX11_hourAfter_27 : decode cX11_hourAfter 27 = .ok (.goto (-22), 3) := by decide +kernel
theorem dX11_hourAfter_30 : decode cX11_hourAfter 30 = .ok (.iload_n 3, 1) := by decide +kernel
theorem dX11_hourAfter_31 : decode cX11_hourAfter 31 = .ok (.ireturn, 1) := by decide +kernel
theorem dX11_hourBehind_0 : decode cX11_hourBehind 0 = .ok (.iload_n 1, 1) := by decide +kernel
theorem dX11_hourBehind_1 : decode cX11_hourBehind 1 = .ok (.aload_n 0, 1) := by decide +kernel
theorem dX11_hourBehind_2 : decode cX11_hourBehind 2 = .ok (.iload_n 1, 1) := by decide +kernel
theorem dX11_hourBehind_3 : decode cX11_hourBehind 3 = .ok (.iload_n 2, 1) := by decide +kernel
theorem dX11_hourBehind_4 : decode cX11_hourBehind 4 = .ok (.invokevirtual 173, 3) := by decide +kernel
theorem dX11_hourBehind_7 : decode cX11_hourBehind 7 = .ok (.aload_n 0, 1) := by decide +kernel
theorem dX11_hourBehind_8 : decode cX11_hourBehind 8 = .ok (.getfield 15, 3) := by decide +kernel
theorem dX11_hourBehind_11 : decode cX11_hourBehind 11 = .ok (.getfield 137, 3) := by decide +kernel
theorem dX11_hourBehind_14 : decode cX11_hourBehind 14 = .ok (.invokestatic 191, 3) := by decide +kernel
theorem dX11_hourBehind_17 : decode cX11_hourBehind 17 = .ok (.invokestatic 194, 3) := by decide +kernel
theorem dX11_hourBehind_20 : decode cX11_hourBehind 20 = .ok (.ireturn, 1) := by decide +kernel
theorem dX11_turnNow_0 : decode cX11_turnNow 0 = .ok (.aload_n 0, 1) := by decide +kernel
theorem dX11_turnNow_1 : decode cX11_turnNow 1 = .ok (.aload_n 0, 1) := by decide +kernel
theorem dX11_turnNow_2 : decode cX11_turnNow 2 = .ok (.getfield 15, 3) := by decide +kernel
theorem dX11_turnNow_5 : decode cX11_turnNow 5 = .ok (.getfield 117, 3) := by decide +kernel
theorem dX11_turnNow_8 : decode cX11_turnNow 8 = .ok (.aload_n 0, 1) := by decide +kernel
theorem dX11_turnNow_9 : decode cX11_turnNow 9 = .ok (.getfield 15, 3) := by decide +kernel
theorem dX11_turnNow_12 : decode cX11_turnNow 12 = .ok (.getfield 107, 3) := by decide +kernel
theorem dX11_turnNow_15 : decode cX11_turnNow 15 = .ok (.invokevirtual 173, 3) := by decide +kernel
theorem dX11_turnNow_18 : decode cX11_turnNow 18 = .ok (.aload_n 0, 1) := by decide +kernel
theorem dX11_turnNow_19 : decode cX11_turnNow 19 = .ok (.getfield 15, 3) := by decide +kernel
theorem dX11_turnNow_22 : decode cX11_turnNow 22 = .ok (.getfield 137, 3) := by decide +kernel
theorem dX11_turnNow_25 : decode cX11_turnNow 25 = .ok (.invokestatic 191, 3) := by decide +kernel
theorem dX11_turnNow_28 : decode cX11_turnNow 28 = .ok (.ireturn, 1) := by decide +kernel
theorem dX11_turnOf_0 : decode cX11_turnOf 0 = .ok (.iload_n 0, 1) := by decide +kernel
theorem dX11_turnOf_1 : decode cX11_turnOf 1 = .ok (.iload_n 1, 1) := by decide +kernel
theorem dX11_turnOf_2 : decode cX11_turnOf 2 = .ok (.if_icmp .le 7, 3) := by decide +kernel
theorem dX11_turnOf_5 : decode cX11_turnOf 5 = .ok (.iconst 1, 1) := by decide +kernel
theorem dX11_turnOf_6 : decode cX11_turnOf 6 = .ok (.goto 14, 3) := by decide +kernel
theorem dX11_turnOf_9 : decode cX11_turnOf 9 = .ok (.iload_n 0, 1) := by decide +kernel
theorem dX11_turnOf_10 : decode cX11_turnOf 10 = .ok (.iload_n 1, 1) := by decide +kernel
theorem dX11_turnOf_11 : decode cX11_turnOf 11 = .ok (.ineg, 1) := by decide +kernel
theorem dX11_turnOf_12 : decode cX11_turnOf 12 = .ok (.if_icmp .ge 7, 3) := by decide +kernel
theorem dX11_turnOf_15 : decode cX11_turnOf 15 = .ok (.iconst (-1), 1) := by decide +kernel
theorem dX11_turnOf_16 : decode cX11_turnOf 16 = .ok (.goto 4, 3) := by decide +kernel
theorem dX11_turnOf_19 : decode cX11_turnOf 19 = .ok (.iconst 0, 1) := by decide +kernel
theorem dX11_turnOf_20 : decode cX11_turnOf 20 = .ok (.ireturn, 1) := by decide +kernel
theorem dX11_moved_0 : decode cX11_moved 0 = .ok (.iload_n 0, 1) := by decide +kernel
theorem dX11_moved_1 : decode cX11_moved 1 = .ok (.iload_n 1, 1) := by decide +kernel
theorem dX11_moved_2 : decode cX11_moved 2 = .ok (.iadd, 1) := by decide +kernel
theorem dX11_moved_3 : decode cX11_moved 3 = .ok (.bipush 24, 2) := by decide +kernel
theorem dX11_moved_5 : decode cX11_moved 5 = .ok (.invokestatic 197, 3) := by decide +kernel
theorem dX11_moved_8 : decode cX11_moved 8 = .ok (.ireturn, 1) := by decide +kernel
theorem dX11_apart_0 : decode cX11_apart 0 = .ok (.iload_n 1, 1) := by decide +kernel
theorem dX11_apart_1 : decode cX11_apart 1 = .ok (.iload_n 0, 1) := by decide +kernel
theorem dX11_apart_2 : decode cX11_apart 2 = .ok (.isub, 1) := by decide +kernel
theorem dX11_apart_3 : decode cX11_apart 3 = .ok (.bipush 24, 2) := by decide +kernel
theorem dX11_apart_5 : decode cX11_apart 5 = .ok (.invokestatic 197, 3) := by decide +kernel
theorem dX11_apart_8 : decode cX11_apart 8 = .ok (.istore_n 2, 1) := by decide +kernel
theorem dX11_apart_9 : decode cX11_apart 9 = .ok (.iload_n 2, 1) := by decide +kernel
theorem dX11_apart_10 : decode cX11_apart 10 = .ok (.bipush 24, 2) := by decide +kernel
theorem dX11_apart_12 : decode cX11_apart 12 = .ok (.iload_n 2, 1) := by decide +kernel
theorem dX11_apart_13 : decode cX11_apart 13 = .ok (.isub, 1) := by decide +kernel
theorem dX11_apart_14 : decode cX11_apart 14 = .ok (.invokestatic 202, 3) := by decide +kernel
theorem dX11_apart_17 : decode cX11_apart 17 = .ok (.ireturn, 1) := by decide +kernel
theorem dX11_sumAt_0 : decode cX11_sumAt 0 = .ok (.iload_n 1, 1) := by decide +kernel
theorem dX11_sumAt_1 : decode cX11_sumAt 1 = .ok (.sipush 128, 3) := by decide +kernel
theorem dX11_sumAt_4 : decode cX11_sumAt 4 = .ok (.imul, 1) := by decide +kernel
theorem dX11_sumAt_5 : decode cX11_sumAt 5 = .ok (.iload_n 2, 1) := by decide +kernel
theorem dX11_sumAt_6 : decode cX11_sumAt 6 = .ok (.iadd, 1) := by decide +kernel
theorem dX11_sumAt_7 : decode cX11_sumAt 7 = .ok (.istore_n 3, 1) := by decide +kernel
theorem dX11_sumAt_8 : decode cX11_sumAt 8 = .ok (.aload_n 0, 1) := by decide +kernel
theorem dX11_sumAt_9 : decode cX11_sumAt 9 = .ok (.getfield 64, 3) := by decide +kernel
theorem dX11_sumAt_12 : decode cX11_sumAt 12 = .ok (.iload_n 3, 1) := by decide +kernel
theorem dX11_sumAt_13 : decode cX11_sumAt 13 = .ok (.iaload, 1) := by decide +kernel
theorem dX11_sumAt_14 : decode cX11_sumAt 14 = .ok (.ldc 205, 2) := by decide +kernel
theorem dX11_sumAt_16 : decode cX11_sumAt 16 = .ok (.if_icmp .ne 69, 3) := by decide +kernel
theorem dX11_sumAt_19 : decode cX11_sumAt 19 = .ok (.iconst 0, 1) := by decide +kernel
theorem dX11_sumAt_20 : decode cX11_sumAt 20 = .ok (.istore 4, 2) := by decide +kernel
theorem dX11_sumAt_22 : decode cX11_sumAt 22 = .ok (.iconst 0, 1) := by decide +kernel
theorem dX11_sumAt_23 : decode cX11_sumAt 23 = .ok (.istore 5, 2) := by decide +kernel
theorem dX11_sumAt_25 : decode cX11_sumAt 25 = .ok (.iload 5, 2) := by decide +kernel
theorem dX11_sumAt_27 : decode cX11_sumAt 27 = .ok (.aload_n 0, 1) := by decide +kernel
theorem dX11_sumAt_28 : decode cX11_sumAt 28 = .ok (.getfield 15, 3) := by decide +kernel
theorem dX11_sumAt_31 : decode cX11_sumAt 31 = .ok (.getfield 91, 3) := by decide +kernel
theorem dX11_sumAt_34 : decode cX11_sumAt 34 = .ok (.if_icmp .ge 43, 3) := by decide +kernel
theorem dX11_sumAt_37 : decode cX11_sumAt 37 = .ok (.iload_n 2, 1) := by decide +kernel
theorem dX11_sumAt_38 : decode cX11_sumAt 38 = .ok (.iload 5, 2) := by decide +kernel
theorem dX11_sumAt_40 : decode cX11_sumAt 40 = .ok (.ishr, 1) := by decide +kernel
theorem dX11_sumAt_41 : decode cX11_sumAt 41 = .ok (.iconst 1, 1) := by decide +kernel
theorem dX11_sumAt_42 : decode cX11_sumAt 42 = .ok (.iand, 1) := by decide +kernel
theorem dX11_sumAt_43 : decode cX11_sumAt 43 = .ok (.iconst 1, 1) := by decide +kernel
theorem dX11_sumAt_44 : decode cX11_sumAt 44 = .ok (.if_icmp .ne 27, 3) := by decide +kernel
theorem dX11_sumAt_47 : decode cX11_sumAt 47 = .ok (.iload 4, 2) := by decide +kernel
theorem dX11_sumAt_49 : decode cX11_sumAt 49 = .ok (.aload_n 0, 1) := by decide +kernel
theorem dX11_sumAt_50 : decode cX11_sumAt 50 = .ok (.iload 5, 2) := by decide +kernel
theorem dX11_sumAt_52 : decode cX11_sumAt 52 = .ok (.iload_n 1, 1) := by decide +kernel
theorem dX11_sumAt_53 : decode cX11_sumAt 53 = .ok (.invokevirtual 120, 3) := by decide +kernel
theorem dX11_sumAt_56 : decode cX11_sumAt 56 = .ok (.aload_n 0, 1) := by decide +kernel
theorem dX11_sumAt_57 : decode cX11_sumAt 57 = .ok (.iload 5, 2) := by decide +kernel
theorem dX11_sumAt_59 : decode cX11_sumAt 59 = .ok (.iload_n 1, 1) := by decide +kernel
theorem dX11_sumAt_60 : decode cX11_sumAt 60 = .ok (.iload_n 2, 1) := by decide +kernel
theorem dX11_sumAt_61 : decode cX11_sumAt 61 = .ok (.invokestatic 124, 3) := by decide +kernel
theorem dX11_sumAt_64 : decode cX11_sumAt 64 = .ok (.invokevirtual 130, 3) := by decide +kernel
theorem dX11_sumAt_67 : decode cX11_sumAt 67 = .ok (.imul, 1) := by decide +kernel
theorem dX11_sumAt_68 : decode cX11_sumAt 68 = .ok (.iadd, 1) := by decide +kernel
theorem dX11_sumAt_69 : decode cX11_sumAt 69 = .ok (.istore 4, 2) := by decide +kernel
theorem dX11_sumAt_71 : decode cX11_sumAt 71 = .ok (.iinc 5 1, 3) := by decide +kernel
theorem dX11_sumAt_74 : decode cX11_sumAt 74 = .ok (.goto (-49), 3) := by decide +kernel
theorem dX11_sumAt_77 : decode cX11_sumAt 77 = .ok (.aload_n 0, 1) := by decide +kernel
theorem dX11_sumAt_78 : decode cX11_sumAt 78 = .ok (.getfield 64, 3) := by decide +kernel
theorem dX11_sumAt_81 : decode cX11_sumAt 81 = .ok (.iload_n 3, 1) := by decide +kernel
theorem dX11_sumAt_82 : decode cX11_sumAt 82 = .ok (.iload 4, 2) := by decide +kernel
theorem dX11_sumAt_84 : decode cX11_sumAt 84 = .ok (.iastore, 1) := by decide +kernel
theorem dX11_sumAt_85 : decode cX11_sumAt 85 = .ok (.aload_n 0, 1) := by decide +kernel
theorem dX11_sumAt_86 : decode cX11_sumAt 86 = .ok (.getfield 64, 3) := by decide +kernel
theorem dX11_sumAt_89 : decode cX11_sumAt 89 = .ok (.iload_n 3, 1) := by decide +kernel
theorem dX11_sumAt_90 : decode cX11_sumAt 90 = .ok (.iaload, 1) := by decide +kernel
theorem dX11_sumAt_91 : decode cX11_sumAt 91 = .ok (.ireturn, 1) := by decide +kernel
theorem dX11_forgetSums_0 : decode cX11_forgetSums 0 = .ok (.aload_n 0, 1) := by decide +kernel
theorem dX11_forgetSums_1 : decode cX11_forgetSums 1 = .ok (.getfield 64, 3) := by decide +kernel
theorem dX11_forgetSums_4 : decode cX11_forgetSums 4 = .ok (.ldc 205, 2) := by decide +kernel
theorem dX11_forgetSums_6 : decode cX11_forgetSums 6 = .ok (.invokestatic 206, 3) := by decide +kernel
theorem dX11_forgetSums_9 : decode cX11_forgetSums 9 = .ok (.return_, 1) := by decide +kernel
theorem dX11_voteAt_0 : decode cX11_voteAt 0 = .ok (.aload_n 0, 1) := by decide +kernel
theorem dX11_voteAt_1 : decode cX11_voteAt 1 = .ok (.getfield 15, 3) := by decide +kernel
theorem dX11_voteAt_4 : decode cX11_voteAt 4 = .ok (.getfield 98, 3) := by decide +kernel
theorem dX11_voteAt_7 : decode cX11_voteAt 7 = .ok (.iload_n 1, 1) := by decide +kernel
theorem dX11_voteAt_8 : decode cX11_voteAt 8 = .ok (.iaload, 1) := by decide +kernel
theorem dX11_voteAt_9 : decode cX11_voteAt 9 = .ok (.iload_n 2, 1) := by decide +kernel
theorem dX11_voteAt_10 : decode cX11_voteAt 10 = .ok (.isub, 1) := by decide +kernel
theorem dX11_voteAt_11 : decode cX11_voteAt 11 = .ok (.bipush 24, 2) := by decide +kernel
theorem dX11_voteAt_13 : decode cX11_voteAt 13 = .ok (.invokestatic 197, 3) := by decide +kernel
theorem dX11_voteAt_16 : decode cX11_voteAt 16 = .ok (.istore_n 3, 1) := by decide +kernel
theorem dX11_voteAt_17 : decode cX11_voteAt 17 = .ok (.iload_n 3, 1) := by decide +kernel
theorem dX11_voteAt_18 : decode cX11_voteAt 18 = .ok (.ifCond .ne 7, 3) := by decide +kernel
theorem dX11_voteAt_21 : decode cX11_voteAt 21 = .ok (.iconst 0, 1) := by decide +kernel
theorem dX11_voteAt_22 : decode cX11_voteAt 22 = .ok (.goto 14, 3) := by decide +kernel
theorem dX11_voteAt_25 : decode cX11_voteAt 25 = .ok (.iload_n 3, 1) := by decide +kernel
theorem dX11_voteAt_26 : decode cX11_voteAt 26 = .ok (.bipush 12, 2) := by decide +kernel
theorem dX11_voteAt_28 : decode cX11_voteAt 28 = .ok (.if_icmp .gt 7, 3) := by decide +kernel
theorem dX11_voteAt_31 : decode cX11_voteAt 31 = .ok (.iconst 1, 1) := by decide +kernel
theorem dX11_voteAt_32 : decode cX11_voteAt 32 = .ok (.goto 4, 3) := by decide +kernel
theorem dX11_voteAt_35 : decode cX11_voteAt 35 = .ok (.iconst (-1), 1) := by decide +kernel
theorem dX11_voteAt_36 : decode cX11_voteAt 36 = .ok (.ireturn, 1) := by decide +kernel
theorem dX11_powerAt_0 : decode cX11_powerAt 0 = .ok (.aload_n 0, 1) := by decide +kernel
theorem dX11_powerAt_1 : decode cX11_powerAt 1 = .ok (.getfield 15, 3) := by decide +kernel
theorem dX11_powerAt_4 : decode cX11_powerAt 4 = .ok (.getfield 157, 3) := by decide +kernel
theorem dX11_powerAt_7 : decode cX11_powerAt 7 = .ok (.getfield 212, 3) := by decide +kernel
theorem dX11_powerAt_10 : decode cX11_powerAt 10 = .ok (.astore 4, 2) := by decide +kernel
theorem dX11_powerAt_12 : decode cX11_powerAt 12 = .ok (.aload 4, 2) := by decide +kernel
theorem dX11_powerAt_14 : decode cX11_powerAt 14 = .ok (.iconst 0, 1) := by decide +kernel
theorem dX11_powerAt_15 : decode cX11_powerAt 15 = .ok (.iload_n 2, 1) := by decide +kernel
theorem dX11_powerAt_16 : decode cX11_powerAt 16 = .ok (.iastore, 1) := by decide +kernel
theorem dX11_powerAt_17 : decode cX11_powerAt 17 = .ok (.aload 4, 2) := by decide +kernel
theorem dX11_powerAt_19 : decode cX11_powerAt 19 = .ok (.iconst 1, 1) := by decide +kernel
theorem dX11_powerAt_20 : decode cX11_powerAt 20 = .ok (.aload_n 0, 1) := by decide +kernel
theorem dX11_powerAt_21 : decode cX11_powerAt 21 = .ok (.getfield 15, 3) := by decide +kernel
theorem dX11_powerAt_24 : decode cX11_powerAt 24 = .ok (.getfield 98, 3) := by decide +kernel
theorem dX11_powerAt_27 : decode cX11_powerAt 27 = .ok (.iload_n 1, 1) := by decide +kernel
theorem dX11_powerAt_28 : decode cX11_powerAt 28 = .ok (.iaload, 1) := by decide +kernel
theorem dX11_powerAt_29 : decode cX11_powerAt 29 = .ok (.iastore, 1) := by decide +kernel
theorem dX11_powerAt_30 : decode cX11_powerAt 30 = .ok (.aload 4, 2) := by decide +kernel
theorem dX11_powerAt_32 : decode cX11_powerAt 32 = .ok (.iconst 2, 1) := by decide +kernel
theorem dX11_powerAt_33 : decode cX11_powerAt 33 = .ok (.aload_n 0, 1) := by decide +kernel
theorem dX11_powerAt_34 : decode cX11_powerAt 34 = .ok (.getfield 15, 3) := by decide +kernel
theorem dX11_powerAt_37 : decode cX11_powerAt 37 = .ok (.getfield 101, 3) := by decide +kernel
theorem dX11_powerAt_40 : decode cX11_powerAt 40 = .ok (.iload_n 1, 1) := by decide +kernel
theorem dX11_powerAt_41 : decode cX11_powerAt 41 = .ok (.iaload, 1) := by decide +kernel
theorem dX11_powerAt_42 : decode cX11_powerAt 42 = .ok (.iastore, 1) := by decide +kernel
theorem dX11_powerAt_43 : decode cX11_powerAt 43 = .ok (.aload 4, 2) := by decide +kernel
theorem dX11_powerAt_45 : decode cX11_powerAt 45 = .ok (.iconst 3, 1) := by decide +kernel
theorem dX11_powerAt_46 : decode cX11_powerAt 46 = .ok (.iload_n 3, 1) := by decide +kernel
theorem dX11_powerAt_47 : decode cX11_powerAt 47 = .ok (.iastore, 1) := by decide +kernel
theorem dX11_powerAt_48 : decode cX11_powerAt 48 = .ok (.aload 4, 2) := by decide +kernel
theorem dX11_powerAt_50 : decode cX11_powerAt 50 = .ok (.iconst 4, 1) := by decide +kernel
theorem dX11_powerAt_51 : decode cX11_powerAt 51 = .ok (.iload_n 1, 1) := by decide +kernel
theorem dX11_powerAt_52 : decode cX11_powerAt 52 = .ok (.iastore, 1) := by decide +kernel
theorem dX11_powerAt_53 : decode cX11_powerAt 53 = .ok (.aload_n 0, 1) := by decide +kernel
theorem dX11_powerAt_54 : decode cX11_powerAt 54 = .ok (.getfield 15, 3) := by decide +kernel
theorem dX11_powerAt_57 : decode cX11_powerAt 57 = .ok (.getfield 95, 3) := by decide +kernel
theorem dX11_powerAt_60 : decode cX11_powerAt 60 = .ok (.iload_n 1, 1) := by decide +kernel
theorem dX11_powerAt_61 : decode cX11_powerAt 61 = .ok (.iaload, 1) := by decide +kernel
theorem dX11_powerAt_62 : decode cX11_powerAt 62 = .ok (.istore 5, 2) := by decide +kernel
theorem dX11_powerAt_64 : decode cX11_powerAt 64 = .ok (.aload_n 0, 1) := by decide +kernel
theorem dX11_powerAt_65 : decode cX11_powerAt 65 = .ok (.getfield 53, 3) := by decide +kernel
theorem dX11_powerAt_68 : decode cX11_powerAt 68 = .ok (.iload 5, 2) := by decide +kernel
theorem dX11_powerAt_70 : decode cX11_powerAt 70 = .ok (.aaload, 1) := by decide +kernel
theorem dX11_powerAt_71 : decode cX11_powerAt 71 = .ok (.aload_n 0, 1) := by decide +kernel
theorem dX11_powerAt_72 : decode cX11_powerAt 72 = .ok (.getfield 15, 3) := by decide +kernel
theorem dX11_powerAt_75 : decode cX11_powerAt 75 = .ok (.getfield 157, 3) := by decide +kernel
theorem dX11_powerAt_78 : decode cX11_powerAt 78 = .ok (.iload 5, 2) := by decide +kernel
theorem dX11_powerAt_80 : decode cX11_powerAt 80 = .ok (.aload_n 0, 1) := by decide +kernel
theorem dX11_powerAt_81 : decode cX11_powerAt 81 = .ok (.getfield 15, 3) := by decide +kernel
theorem dX11_powerAt_84 : decode cX11_powerAt 84 = .ok (.getfield 101, 3) := by decide +kernel
theorem dX11_powerAt_87 : decode cX11_powerAt 87 = .ok (.iload_n 1, 1) := by decide +kernel
theorem dX11_powerAt_88 : decode cX11_powerAt 88 = .ok (.iaload, 1) := by decide +kernel
theorem dX11_powerAt_89 : decode cX11_powerAt 89 = .ok (.invokevirtual 215, 3) := by decide +kernel
theorem dX11_powerAt_92 : decode cX11_powerAt 92 = .ok (.iload_n 2, 1) := by decide +kernel
theorem dX11_powerAt_93 : decode cX11_powerAt 93 = .ok (.invokevirtual 218, 3) := by decide +kernel
theorem dX11_powerAt_96 : decode cX11_powerAt 96 = .ok (.ireturn, 1) := by decide +kernel
theorem dX11_buys_0 : decode cX11_buys 0 = .ok (.iload_n 1, 1) := by decide +kernel
theorem dX11_buys_1 : decode cX11_buys 1 = .ok (.iconst 0, 1) := by decide +kernel
theorem dX11_buys_2 : decode cX11_buys 2 = .ok (.iconst 2, 1) := by decide +kernel
theorem dX11_buys_3 : decode cX11_buys 3 = .ok (.invokestatic 83, 3) := by decide +kernel
theorem dX11_buys_6 : decode cX11_buys 6 = .ok (.ifCond .ne 5, 3) := by decide +kernel
theorem dX11_buys_9 : decode cX11_buys 9 = .ok (.iconst (-1), 1) := by decide +kernel
theorem dX11_buys_10 : decode cX11_buys 10 = .ok (.ireturn, 1) := by decide +kernel
theorem dX11_buys_11 : decode cX11_buys 11 = .ok (.aload_n 0, 1) := by decide +kernel
theorem dX11_buys_12 : decode cX11_buys 12 = .ok (.iload_n 1, 1) := by decide +kernel
theorem dX11_buys_13 : decode cX11_buys 13 = .ok (.invokevirtual 221, 3) := by decide +kernel
theorem dX11_buys_16 : decode cX11_buys 16 = .ok (.istore_n 2, 1) := by decide +kernel
theorem dX11_buys_17 : decode cX11_buys 17 = .ok (.iload_n 2, 1) := by decide +kernel
theorem dX11_buys_18 : decode cX11_buys 18 = .ok (.ifCond .ge 8, 3) := by decide +kernel
theorem dX11_buys_21 : decode cX11_buys 21 = .ok (.bipush (-3), 2) := by decide +kernel
theorem dX11_buys_23 : decode cX11_buys 23 = .ok (.goto 8, 3) := by decide +kernel
theorem dX11_buys_26 : decode cX11_buys 26 = .ok (.aload_n 0, 1) := by decide +kernel
theorem dX11_buys_27 : decode cX11_buys 27 = .ok (.iload_n 2, 1) := by decide +kernel
theorem dX11_buys_28 : decode cX11_buys 28 = .ok (.invokevirtual 224, 3) := by decide +kernel
theorem dX11_buys_31 : decode cX11_buys 31 = .ok (.ireturn, 1) := by decide +kernel
theorem dX11_whom_0 : decode cX11_whom 0 = .ok (.iload_n 1, 1) := by decide +kernel
theorem dX11_whom_1 : decode cX11_whom 1 = .ok (.iconst 0, 1) := by decide +kernel
theorem dX11_whom_2 : decode cX11_whom 2 = .ok (.iconst 2, 1) := by decide +kernel
theorem dX11_whom_3 : decode cX11_whom 3 = .ok (.invokestatic 83, 3) := by decide +kernel
theorem dX11_whom_6 : decode cX11_whom 6 = .ok (.ifCond .eq 11, 3) := by decide +kernel
theorem dX11_whom_9 : decode cX11_whom 9 = .ok (.aload_n 0, 1) := by decide +kernel
theorem dX11_whom_10 : decode cX11_whom 10 = .ok (.iload_n 1, 1) := by decide +kernel
theorem dX11_whom_11 : decode cX11_whom 11 = .ok (.invokevirtual 221, 3) := by decide +kernel
theorem dX11_whom_14 : decode cX11_whom 14 = .ok (.goto 4, 3) := by decide +kernel
theorem dX11_whom_17 : decode cX11_whom 17 = .ok (.iconst (-1), 1) := by decide +kernel
theorem dX11_whom_18 : decode cX11_whom 18 = .ok (.ireturn, 1) := by decide +kernel
theorem dX11_liars_0 : decode cX11_liars 0 = .ok (.iconst 0, 1) := by decide +kernel
theorem dX11_liars_1 : decode cX11_liars 1 = .ok (.istore_n 1, 1) := by decide +kernel
theorem dX11_liars_2 : decode cX11_liars 2 = .ok (.iconst 0, 1) := by decide +kernel
theorem dX11_liars_3 : decode cX11_liars 3 = .ok (.istore_n 2, 1) := by decide +kernel
theorem dX11_liars_4 : decode cX11_liars 4 = .ok (.iload_n 2, 1) := by decide +kernel
theorem dX11_liars_5 : decode cX11_liars 5 = .ok (.aload_n 0, 1) := by decide +kernel
theorem dX11_liars_6 : decode cX11_liars 6 = .ok (.getfield 15, 3) := by decide +kernel
theorem dX11_liars_9 : decode cX11_liars 9 = .ok (.getfield 91, 3) := by decide +kernel
theorem dX11_liars_12 : decode cX11_liars 12 = .ok (.if_icmp .ge 31, 3) := by decide +kernel
theorem dX11_liars_15 : decode cX11_liars 15 = .ok (.aload_n 0, 1) := by decide +kernel
theorem dX11_liars_16 : decode cX11_liars 16 = .ok (.iload_n 2, 1) := by decide +kernel
theorem dX11_liars_17 : decode cX11_liars 17 = .ok (.invokevirtual 114, 3) := by decide +kernel
theorem dX11_liars_20 : decode cX11_liars 20 = .ok (.ifCond .eq 17, 3) := by decide +kernel
theorem dX11_liars_23 : decode cX11_liars 23 = .ok (.aload_n 0, 1) := by decide +kernel
theorem dX11_liars_24 : decode cX11_liars 24 = .ok (.iload_n 2, 1) := by decide +kernel
theorem dX11_liars_25 : decode cX11_liars 25 = .ok (.invokevirtual 227, 3) := by decide +kernel
theorem dX11_liars_28 : decode cX11_liars 28 = .ok (.ifCond .eq 9, 3) := by decide +kernel
theorem dX11_liars_31 : decode cX11_liars 31 = .ok (.iload_n 1, 1) := by decide +kernel
theorem dX11_liars_32 : decode cX11_liars 32 = .ok (.iconst 1, 1) := by decide +kernel
theorem dX11_liars_33 : decode cX11_liars 33 = .ok (.iload_n 2, 1) := by decide +kernel
theorem dX11_liars_34 : decode cX11_liars 34 = .ok (.ishl, 1) := by decide +kernel
theorem dX11_liars_35 : decode cX11_liars 35 = .ok (.ior, 1) := by decide +kernel
theorem dX11_liars_36 : decode cX11_liars 36 = .ok (.istore_n 1, 1) := by decide +kernel
theorem dX11_liars_37 : decode cX11_liars 37 = .ok (.iinc 2 1, 3) := by decide +kernel
theorem dX11_liars_40 : decode cX11_liars 40 = .ok (.goto (-36), 3) := by decide +kernel
theorem dX11_liars_43 : decode cX11_liars 43 = .ok (.iload_n 1, 1) := by decide +kernel
theorem dX11_liars_44 : decode cX11_liars 44 = .ok (.ireturn, 1) := by decide +kernel
theorem dX11_power_0 : decode cX11_power 0 = .ok (.aload_n 0, 1) := by decide +kernel
theorem dX11_power_1 : decode cX11_power 1 = .ok (.iload_n 1, 1) := by decide +kernel
theorem dX11_power_2 : decode cX11_power 2 = .ok (.invokevirtual 110, 3) := by decide +kernel
theorem dX11_power_5 : decode cX11_power 5 = .ok (.ifCond .ne 5, 3) := by decide +kernel
theorem dX11_power_8 : decode cX11_power 8 = .ok (.iconst (-1), 1) := by decide +kernel
theorem dX11_power_9 : decode cX11_power 9 = .ok (.ireturn, 1) := by decide +kernel
theorem dX11_power_10 : decode cX11_power 10 = .ok (.aload_n 0, 1) := by decide +kernel
theorem dX11_power_11 : decode cX11_power 11 = .ok (.iload_n 1, 1) := by decide +kernel
theorem dX11_power_12 : decode cX11_power 12 = .ok (.invokevirtual 114, 3) := by decide +kernel
theorem dX11_power_15 : decode cX11_power 15 = .ok (.ifCond .ne 5, 3) := by decide +kernel
theorem dX11_power_18 : decode cX11_power 18 = .ok (.iconst 0, 1) := by decide +kernel
theorem dX11_power_19 : decode cX11_power 19 = .ok (.ireturn, 1) := by decide +kernel
theorem dX11_power_20 : decode cX11_power 20 = .ok (.aload_n 0, 1) := by decide +kernel
theorem dX11_power_21 : decode cX11_power 21 = .ok (.invokevirtual 230, 3) := by decide +kernel
theorem dX11_power_24 : decode cX11_power 24 = .ok (.iconst 0, 1) := by decide +kernel
theorem dX11_power_25 : decode cX11_power 25 = .ok (.istore_n 2, 1) := by decide +kernel
theorem dX11_power_26 : decode cX11_power 26 = .ok (.iconst 0, 1) := by decide +kernel
theorem dX11_power_27 : decode cX11_power 27 = .ok (.istore_n 3, 1) := by decide +kernel
theorem dX11_power_28 : decode cX11_power 28 = .ok (.iload_n 3, 1) := by decide +kernel
theorem dX11_power_29 : decode cX11_power 29 = .ok (.sipush 128, 3) := by decide +kernel
theorem dX11_power_32 : decode cX11_power 32 = .ok (.if_icmp .ge 41, 3) := by decide +kernel
theorem dX11_power_35 : decode cX11_power 35 = .ok (.iload_n 3, 1) := by decide +kernel
theorem dX11_power_36 : decode cX11_power 36 = .ok (.aload_n 0, 1) := by decide +kernel
theorem dX11_power_37 : decode cX11_power 37 = .ok (.getfield 15, 3) := by decide +kernel
theorem dX11_power_40 : decode cX11_power 40 = .ok (.getfield 107, 3) := by decide +kernel
theorem dX11_power_43 : decode cX11_power 43 = .ok (.iconst 1, 1) := by decide +kernel
theorem dX11_power_44 : decode cX11_power 44 = .ok (.iload_n 1, 1) := by decide +kernel
theorem dX11_power_45 : decode cX11_power 45 = .ok (.ishl, 1) := by decide +kernel
theorem dX11_power_46 : decode cX11_power 46 = .ok (.iconst (-1), 1) := by decide +kernel
theorem dX11_power_47 : decode cX11_power 47 = .ok (.ixor, 1) := by decide +kernel
theorem dX11_power_48 : decode cX11_power 48 = .ok (.iand, 1) := by decide +kernel
theorem dX11_power_49 : decode cX11_power 49 = .ok (.invokestatic 233, 3) := by decide +kernel
theorem dX11_power_52 : decode cX11_power 52 = .ok (.ifCond .eq 15, 3) := by decide +kernel
theorem dX11_power_55 : decode cX11_power 55 = .ok (.aload_n 0, 1) := by decide +kernel
theorem dX11_power_56 : decode cX11_power 56 = .ok (.iload_n 1, 1) := by decide +kernel
theorem dX11_power_57 : decode cX11_power 57 = .ok (.iload_n 3, 1) := by decide +kernel
theorem dX11_power_58 : decode cX11_power 58 = .ok (.invokevirtual 236, 3) := by decide +kernel
theorem dX11_power_61 : decode cX11_power 61 = .ok (.ifCond .eq 6, 3) := by decide +kernel
theorem dX11_power_64 : decode cX11_power 64 = .ok (.iinc 2 1, 3) := by decide +kernel
theorem dX11_power_67 : decode cX11_power 67 = .ok (.iinc 3 1, 3) := by decide +kernel
theorem dX11_power_70 : decode cX11_power 70 = .ok (.goto (-42), 3) := by decide +kernel
theorem dX11_power_73 : decode cX11_power 73 = .ok (.iload_n 2, 1) := by decide +kernel
theorem dX11_power_74 : decode cX11_power 74 = .ok (.ireturn, 1) := by decide +kernel
theorem dX11_bestLulled_0 : decode cX11_bestLulled 0 = .ok (.bipush (-3), 2) := by decide +kernel
theorem dX11_bestLulled_2 : decode cX11_bestLulled 2 = .ok (.istore_n 2, 1) := by decide +kernel
theorem dX11_bestLulled_3 : decode cX11_bestLulled 3 = .ok (.iconst 0, 1) := by decide +kernel
theorem dX11_bestLulled_4 : decode cX11_bestLulled 4 = .ok (.istore_n 3, 1) := by decide +kernel
theorem dX11_bestLulled_5 : decode cX11_bestLulled 5 = .ok (.iload_n 3, 1) := by decide +kernel
theorem dX11_bestLulled_6 : decode cX11_bestLulled 6 = .ok (.sipush 128, 3) := by decide +kernel
theorem dX11_bestLulled_9 : decode cX11_bestLulled 9 = .ok (.if_icmp .ge 76, 3) := by decide +kernel
theorem dX11_bestLulled_12 : decode cX11_bestLulled 12 = .ok (.iload_n 3, 1) := by decide +kernel
theorem dX11_bestLulled_13 : decode cX11_bestLulled 13 = .ok (.aload_n 0, 1) := by decide +kernel
theorem dX11_bestLulled_14 : decode cX11_bestLulled 14 = .ok (.getfield 15, 3) := by decide +kernel
theorem dX11_bestLulled_17 : decode cX11_bestLulled 17 = .ok (.getfield 107, 3) := by decide +kernel
theorem dX11_bestLulled_20 : decode cX11_bestLulled 20 = .ok (.invokestatic 233, 3) := by decide +kernel
theorem dX11_bestLulled_23 : decode cX11_bestLulled 23 = .ok (.ifCond .eq 56, 3) := by decide +kernel
theorem dX11_bestLulled_26 : decode cX11_bestLulled 26 = .ok (.aload_n 0, 1) := by decide +kernel
theorem dX11_bestLulled_27 : decode cX11_bestLulled 27 = .ok (.aload_n 0, 1) := by decide +kernel
theorem dX11_bestLulled_28 : decode cX11_bestLulled 28 = .ok (.getfield 15, 3) := by decide +kernel
theorem dX11_bestLulled_31 : decode cX11_bestLulled 31 = .ok (.getfield 117, 3) := by decide +kernel
theorem dX11_bestLulled_34 : decode cX11_bestLulled 34 = .ok (.aload_n 0, 1) := by decide +kernel
theorem dX11_bestLulled_35 : decode cX11_bestLulled 35 = .ok (.getfield 15, 3) := by decide +kernel
theorem dX11_bestLulled_38 : decode cX11_bestLulled 38 = .ok (.getfield 107, 3) := by decide +kernel
theorem dX11_bestLulled_41 : decode cX11_bestLulled 41 = .ok (.iload_n 3, 1) := by decide +kernel
theorem dX11_bestLulled_42 : decode cX11_bestLulled 42 = .ok (.iconst (-1), 1) := by decide +kernel
theorem dX11_bestLulled_43 : decode cX11_bestLulled 43 = .ok (.ixor, 1) := by decide +kernel
theorem dX11_bestLulled_44 : decode cX11_bestLulled 44 = .ok (.iand, 1) := by decide +kernel
theorem dX11_bestLulled_45 : decode cX11_bestLulled 45 = .ok (.invokevirtual 173, 3) := by decide +kernel
theorem dX11_bestLulled_48 : decode cX11_bestLulled 48 = .ok (.aload_n 0, 1) := by decide +kernel
theorem dX11_bestLulled_49 : decode cX11_bestLulled 49 = .ok (.getfield 15, 3) := by decide +kernel
theorem dX11_bestLulled_52 : decode cX11_bestLulled 52 = .ok (.getfield 137, 3) := by decide +kernel
theorem dX11_bestLulled_55 : decode cX11_bestLulled 55 = .ok (.invokestatic 191, 3) := by decide +kernel
theorem dX11_bestLulled_58 : decode cX11_bestLulled 58 = .ok (.iconst 1, 1) := by decide +kernel
theorem dX11_bestLulled_59 : decode cX11_bestLulled 59 = .ok (.iadd, 1) := by decide +kernel
theorem dX11_bestLulled_60 : decode cX11_bestLulled 60 = .ok (.iload_n 1, 1) := by decide +kernel
theorem dX11_bestLulled_61 : decode cX11_bestLulled 61 = .ok (.if_icmp .ne 18, 3) := by decide +kernel
theorem dX11_bestLulled_64 : decode cX11_bestLulled 64 = .ok (.iload_n 2, 1) := by decide +kernel
theorem dX11_bestLulled_65 : decode cX11_bestLulled 65 = .ok (.ifCond .lt 12, 3) := by decide +kernel
theorem dX11_bestLulled_68 : decode cX11_bestLulled 68 = .ok (.aload_n 0, 1) := by decide +kernel
theorem dX11_bestLulled_69 : decode cX11_bestLulled 69 = .ok (.iload_n 3, 1) := by decide +kernel
theorem dX11_bestLulled_70 : decode cX11_bestLulled 70 = .ok (.iload_n 2, 1) := by decide +kernel
theorem dX11_bestLulled_71 : decode cX11_bestLulled 71 = .ok (.invokevirtual 239, 3) := by decide +kernel
theorem dX11_bestLulled_74 : decode cX11_bestLulled 74 = .ok (.ifCond .eq 5, 3) := by decide +kernel
theorem dX11_bestLulled_77 : decode cX11_bestLulled 77 = .ok (.iload_n 3, 1) := by decide +kernel
theorem dX11_bestLulled_78 : decode cX11_bestLulled 78 = .ok (.istore_n 2, 1) := by decide +kernel
theorem dX11_bestLulled_79 : decode cX11_bestLulled 79 = .ok (.iinc 3 1, 3) := by decide +kernel
theorem dX11_bestLulled_82 : decode cX11_bestLulled 82 = .ok (.goto (-77), 3) := by decide +kernel
theorem dX11_bestLulled_85 : decode cX11_bestLulled 85 = .ok (.iload_n 2, 1) := by decide +kernel
theorem dX11_bestLulled_86 : decode cX11_bestLulled 86 = .ok (.ireturn, 1) := by decide +kernel
theorem dX11_isBetter_0 : decode cX11_isBetter 0 = .ok (.aload_n 0, 1) := by decide +kernel
theorem dX11_isBetter_1 : decode cX11_isBetter 1 = .ok (.iload_n 1, 1) := by decide +kernel
theorem dX11_isBetter_2 : decode cX11_isBetter 2 = .ok (.invokevirtual 224, 3) := by decide +kernel
theorem dX11_isBetter_5 : decode cX11_isBetter 5 = .ok (.aload_n 0, 1) := by decide +kernel
theorem dX11_isBetter_6 : decode cX11_isBetter 6 = .ok (.iload_n 2, 1) := by decide +kernel
theorem dX11_isBetter_7 : decode cX11_isBetter 7 = .ok (.invokevirtual 224, 3) := by decide +kernel
theorem dX11_isBetter_10 : decode cX11_isBetter 10 = .ok (.isub, 1) := by decide +kernel
theorem dX11_isBetter_11 : decode cX11_isBetter 11 = .ok (.istore_n 3, 1) := by decide +kernel
theorem dX11_isBetter_12 : decode cX11_isBetter 12 = .ok (.iload_n 3, 1) := by decide +kernel
theorem dX11_isBetter_13 : decode cX11_isBetter 13 = .ok (.ifCond .lt 18, 3) := by decide +kernel
theorem dX11_isBetter_16 : decode cX11_isBetter 16 = .ok (.iload_n 3, 1) := by decide +kernel
theorem dX11_isBetter_17 : decode cX11_isBetter 17 = .ok (.ifCond .ne 18, 3) := by decide +kernel
theorem dX11_isBetter_20 : decode cX11_isBetter 20 = .ok (.iload_n 1, 1) := by decide +kernel
theorem dX11_isBetter_21 : decode cX11_isBetter 21 = .ok (.invokestatic 124, 3) := by decide +kernel
theorem dX11_isBetter_24 : decode cX11_isBetter 24 = .ok (.iload_n 2, 1) := by decide +kernel
theorem dX11_isBetter_25 : decode cX11_isBetter 25 = .ok (.invokestatic 124, 3) := by decide +kernel
theorem dX11_isBetter_28 : decode cX11_isBetter 28 = .ok (.if_icmp .ge 7, 3) := by decide +kernel
theorem dX11_isBetter_31 : decode cX11_isBetter 31 = .ok (.iconst 1, 1) := by decide +kernel
theorem dX11_isBetter_32 : decode cX11_isBetter 32 = .ok (.goto 4, 3) := by decide +kernel
theorem dX11_isBetter_35 : decode cX11_isBetter 35 = .ok (.iconst 0, 1) := by decide +kernel
theorem dX11_isBetter_36 : decode cX11_isBetter 36 = .ok (.ireturn, 1) := by decide +kernel
theorem dX11_priceOf_0 : decode cX11_priceOf 0 = .ok (.iconst 0, 1) := by decide +kernel
theorem dX11_priceOf_1 : decode cX11_priceOf 1 = .ok (.istore_n 2, 1) := by decide +kernel
theorem dX11_priceOf_2 : decode cX11_priceOf 2 = .ok (.iconst 0, 1) := by decide +kernel
theorem dX11_priceOf_3 : decode cX11_priceOf 3 = .ok (.istore_n 3, 1) := by decide +kernel
theorem dX11_priceOf_4 : decode cX11_priceOf 4 = .ok (.iload_n 3, 1) := by decide +kernel
theorem dX11_priceOf_5 : decode cX11_priceOf 5 = .ok (.aload_n 0, 1) := by decide +kernel
theorem dX11_priceOf_6 : decode cX11_priceOf 6 = .ok (.getfield 15, 3) := by decide +kernel
theorem dX11_priceOf_9 : decode cX11_priceOf 9 = .ok (.getfield 91, 3) := by decide +kernel
theorem dX11_priceOf_12 : decode cX11_priceOf 12 = .ok (.if_icmp .ge 30, 3) := by decide +kernel
theorem dX11_priceOf_15 : decode cX11_priceOf 15 = .ok (.iload_n 1, 1) := by decide +kernel
theorem dX11_priceOf_16 : decode cX11_priceOf 16 = .ok (.iload_n 3, 1) := by decide +kernel
theorem dX11_priceOf_17 : decode cX11_priceOf 17 = .ok (.ishr, 1) := by decide +kernel
theorem dX11_priceOf_18 : decode cX11_priceOf 18 = .ok (.iconst 1, 1) := by decide +kernel
theorem dX11_priceOf_19 : decode cX11_priceOf 19 = .ok (.iand, 1) := by decide +kernel
theorem dX11_priceOf_20 : decode cX11_priceOf 20 = .ok (.iconst 1, 1) := by decide +kernel
theorem dX11_priceOf_21 : decode cX11_priceOf 21 = .ok (.if_icmp .ne 15, 3) := by decide +kernel
theorem dX11_priceOf_24 : decode cX11_priceOf 24 = .ok (.iload_n 2, 1) := by decide +kernel
theorem dX11_priceOf_25 : decode cX11_priceOf 25 = .ok (.aload_n 0, 1) := by decide +kernel
theorem dX11_priceOf_26 : decode cX11_priceOf 26 = .ok (.getfield 15, 3) := by decide +kernel
theorem dX11_priceOf_29 : decode cX11_priceOf 29 = .ok (.getfield 104, 3) := by decide +kernel
theorem dX11_priceOf_32 : decode cX11_priceOf 32 = .ok (.iload_n 3, 1) := by decide +kernel
theorem dX11_priceOf_33 : decode cX11_priceOf 33 = .ok (.iaload, 1) := by decide +kernel
theorem dX11_priceOf_34 : decode cX11_priceOf 34 = .ok (.iadd, 1) := by decide +kernel
theorem dX11_priceOf_35 : decode cX11_priceOf 35 = .ok (.istore_n 2, 1) := by decide +kernel
theorem dX11_priceOf_36 : decode cX11_priceOf 36 = .ok (.iinc 3 1, 3) := by decide +kernel
theorem dX11_priceOf_39 : decode cX11_priceOf 39 = .ok (.goto (-35), 3) := by decide +kernel
theorem dX11_priceOf_42 : decode cX11_priceOf 42 = .ok (.iload_n 2, 1) := by decide +kernel
theorem dX11_priceOf_43 : decode cX11_priceOf 43 = .ok (.ireturn, 1) := by decide +kernel
theorem dX11_isWithin_0 : decode cX11_isWithin 0 = .ok (.iload_n 0, 1) := by decide +kernel
theorem dX11_isWithin_1 : decode cX11_isWithin 1 = .ok (.iload_n 1, 1) := by decide +kernel
theorem dX11_isWithin_2 : decode cX11_isWithin 2 = .ok (.iconst (-1), 1) := by decide +kernel
theorem dX11_isWithin_3 : decode cX11_isWithin 3 = .ok (.ixor, 1) := by decide +kernel
theorem dX11_isWithin_4 : decode cX11_isWithin 4 = .ok (.iand, 1) := by decide +kernel
theorem dX11_isWithin_5 : decode cX11_isWithin 5 = .ok (.ifCond .ne 7, 3) := by decide +kernel
theorem dX11_isWithin_8 : decode cX11_isWithin 8 = .ok (.iconst 1, 1) := by decide +kernel
theorem dX11_isWithin_9 : decode cX11_isWithin 9 = .ok (.goto 4, 3) := by decide +kernel
theorem dX11_isWithin_12 : decode cX11_isWithin 12 = .ok (.iconst 0, 1) := by decide +kernel
theorem dX11_isWithin_13 : decode cX11_isWithin 13 = .ok (.ireturn, 1) := by decide +kernel
theorem dX11_gainsByLying_0 : decode cX11_gainsByLying 0 = .ok (.aload_n 0, 1) := by decide +kernel
theorem dX11_gainsByLying_1 : decode cX11_gainsByLying 1 = .ok (.iload_n 1, 1) := by decide +kernel
theorem dX11_gainsByLying_2 : decode cX11_gainsByLying 2 = .ok (.aload_n 0, 1) := by decide +kernel
theorem dX11_gainsByLying_3 : decode cX11_gainsByLying 3 = .ok (.getfield 15, 3) := by decide +kernel
theorem dX11_gainsByLying_6 : decode cX11_gainsByLying 6 = .ok (.getfield 117, 3) := by decide +kernel
theorem dX11_gainsByLying_9 : decode cX11_gainsByLying 9 = .ok (.aload_n 0, 1) := by decide +kernel
theorem dX11_gainsByLying_10 : decode cX11_gainsByLying 10 = .ok (.getfield 15, 3) := by decide +kernel
theorem dX11_gainsByLying_13 : decode cX11_gainsByLying 13 = .ok (.getfield 107, 3) := by decide +kernel
theorem dX11_gainsByLying_16 : decode cX11_gainsByLying 16 = .ok (.invokestatic 124, 3) := by decide +kernel
theorem dX11_gainsByLying_19 : decode cX11_gainsByLying 19 = .ok (.invokevirtual 130, 3) := by decide +kernel
theorem dX11_gainsByLying_22 : decode cX11_gainsByLying 22 = .ok (.istore_n 2, 1) := by decide +kernel
theorem dX11_gainsByLying_23 : decode cX11_gainsByLying 23 = .ok (.aload_n 0, 1) := by decide +kernel
theorem dX11_gainsByLying_24 : decode cX11_gainsByLying 24 = .ok (.aload_n 0, 1) := by decide +kernel
theorem dX11_gainsByLying_25 : decode cX11_gainsByLying 25 = .ok (.getfield 15, 3) := by decide +kernel
theorem dX11_gainsByLying_28 : decode cX11_gainsByLying 28 = .ok (.getfield 117, 3) := by decide +kernel
theorem dX11_gainsByLying_31 : decode cX11_gainsByLying 31 = .ok (.aload_n 0, 1) := by decide +kernel
theorem dX11_gainsByLying_32 : decode cX11_gainsByLying 32 = .ok (.getfield 15, 3) := by decide +kernel
theorem dX11_gainsByLying_35 : decode cX11_gainsByLying 35 = .ok (.getfield 107, 3) := by decide +kernel
theorem dX11_gainsByLying_38 : decode cX11_gainsByLying 38 = .ok (.invokevirtual 173, 3) := by decide +kernel
theorem dX11_gainsByLying_41 : decode cX11_gainsByLying 41 = .ok (.istore_n 3, 1) := by decide +kernel
theorem dX11_gainsByLying_42 : decode cX11_gainsByLying 42 = .ok (.iload_n 3, 1) := by decide +kernel
theorem dX11_gainsByLying_43 : decode cX11_gainsByLying 43 = .ok (.aload_n 0, 1) := by decide +kernel
theorem dX11_gainsByLying_44 : decode cX11_gainsByLying 44 = .ok (.iload_n 1, 1) := by decide +kernel
theorem dX11_gainsByLying_45 : decode cX11_gainsByLying 45 = .ok (.aload_n 0, 1) := by decide +kernel
theorem dX11_gainsByLying_46 : decode cX11_gainsByLying 46 = .ok (.getfield 15, 3) := by decide +kernel
theorem dX11_gainsByLying_49 : decode cX11_gainsByLying 49 = .ok (.getfield 117, 3) := by decide +kernel
theorem dX11_gainsByLying_52 : decode cX11_gainsByLying 52 = .ok (.invokevirtual 120, 3) := by decide +kernel
theorem dX11_gainsByLying_55 : decode cX11_gainsByLying 55 = .ok (.iload_n 2, 1) := by decide +kernel
theorem dX11_gainsByLying_56 : decode cX11_gainsByLying 56 = .ok (.imul, 1) := by decide +kernel
theorem dX11_gainsByLying_57 : decode cX11_gainsByLying 57 = .ok (.isub, 1) := by decide +kernel
theorem dX11_gainsByLying_58 : decode cX11_gainsByLying 58 = .ok (.istore 4, 2) := by decide +kernel
theorem dX11_gainsByLying_60 : decode cX11_gainsByLying 60 = .ok (.iconst (-1), 1) := by decide +kernel
theorem dX11_gainsByLying_61 : decode cX11_gainsByLying 61 = .ok (.istore 5, 2) := by decide +kernel
theorem dX11_gainsByLying_63 : decode cX11_gainsByLying 63 = .ok (.iload 5, 2) := by decide +kernel
theorem dX11_gainsByLying_65 : decode cX11_gainsByLying 65 = .ok (.iconst 1, 1) := by decide +kernel
theorem dX11_gainsByLying_66 : decode cX11_gainsByLying 66 = .ok (.if_icmp .gt 32, 3) := by decide +kernel
theorem dX11_gainsByLying_69 : decode cX11_gainsByLying 69 = .ok (.aload_n 0, 1) := by decide +kernel
theorem dX11_gainsByLying_70 : decode cX11_gainsByLying 70 = .ok (.iload_n 1, 1) := by decide +kernel
theorem dX11_gainsByLying_71 : decode cX11_gainsByLying 71 = .ok (.iload 4, 2) := by decide +kernel
theorem dX11_gainsByLying_73 : decode cX11_gainsByLying 73 = .ok (.iload 5, 2) := by decide +kernel
theorem dX11_gainsByLying_75 : decode cX11_gainsByLying 75 = .ok (.iload_n 2, 1) := by decide +kernel
theorem dX11_gainsByLying_76 : decode cX11_gainsByLying 76 = .ok (.imul, 1) := by decide +kernel
theorem dX11_gainsByLying_77 : decode cX11_gainsByLying 77 = .ok (.iadd, 1) := by decide +kernel
theorem dX11_gainsByLying_78 : decode cX11_gainsByLying 78 = .ok (.invokevirtual 242, 3) := by decide +kernel
theorem dX11_gainsByLying_81 : decode cX11_gainsByLying 81 = .ok (.aload_n 0, 1) := by decide +kernel
theorem dX11_gainsByLying_82 : decode cX11_gainsByLying 82 = .ok (.iload_n 1, 1) := by decide +kernel
theorem dX11_gainsByLying_83 : decode cX11_gainsByLying 83 = .ok (.iload_n 3, 1) := by decide +kernel
theorem dX11_gainsByLying_84 : decode cX11_gainsByLying 84 = .ok (.invokevirtual 242, 3) := by decide +kernel
theorem dX11_gainsByLying_87 : decode cX11_gainsByLying 87 = .ok (.if_icmp .ge 5, 3) := by decide +kernel
theorem dX11_gainsByLying_90 : decode cX11_gainsByLying 90 = .ok (.iconst 1, 1) := by decide +kernel
theorem dX11_gainsByLying_91 : decode cX11_gainsByLying 91 = .ok (.ireturn, 1) := by decide +kernel
theorem dX11_gainsByLying_92 : decode cX11_gainsByLying 92 = .ok (.iinc 5 1, 3) := by decide +kernel
theorem dX11_gainsByLying_95 : decode cX11_gainsByLying 95 = .ok (.goto (-32), 3) := by decide +kernel
theorem dX11_gainsByLying_98 : decode cX11_gainsByLying 98 = .ok (.iconst 0, 1) := by decide +kernel
theorem dX11_gainsByLying_99 : decode cX11_gainsByLying 99 = .ok (.ireturn, 1) := by decide +kernel
theorem dX11_missBehind_0 : decode cX11_missBehind 0 = .ok (.aload_n 0, 1) := by decide +kernel
theorem dX11_missBehind_1 : decode cX11_missBehind 1 = .ok (.getfield 15, 3) := by decide +kernel
theorem dX11_missBehind_4 : decode cX11_missBehind 4 = .ok (.getfield 117, 3) := by decide +kernel
theorem dX11_missBehind_7 : decode cX11_missBehind 7 = .ok (.iload_n 2, 1) := by decide +kernel
theorem dX11_missBehind_8 : decode cX11_missBehind 8 = .ok (.aload_n 0, 1) := by decide +kernel
theorem dX11_missBehind_9 : decode cX11_missBehind 9 = .ok (.getfield 15, 3) := by decide +kernel
theorem dX11_missBehind_12 : decode cX11_missBehind 12 = .ok (.getfield 137, 3) := by decide +kernel
theorem dX11_missBehind_15 : decode cX11_missBehind 15 = .ok (.invokestatic 191, 3) := by decide +kernel
theorem dX11_missBehind_18 : decode cX11_missBehind 18 = .ok (.invokestatic 194, 3) := by decide +kernel
theorem dX11_missBehind_21 : decode cX11_missBehind 21 = .ok (.aload_n 0, 1) := by decide +kernel
theorem dX11_missBehind_22 : decode cX11_missBehind 22 = .ok (.getfield 15, 3) := by decide +kernel
theorem dX11_missBehind_25 : decode cX11_missBehind 25 = .ok (.getfield 98, 3) := by decide +kernel
theorem dX11_missBehind_28 : decode cX11_missBehind 28 = .ok (.iload_n 1, 1) := by decide +kernel
theorem dX11_missBehind_29 : decode cX11_missBehind 29 = .ok (.iaload, 1) := by decide +kernel
theorem dX11_missBehind_30 : decode cX11_missBehind 30 = .ok (.invokestatic 245, 3) := by decide +kernel
theorem dX11_missBehind_33 : decode cX11_missBehind 33 = .ok (.ireturn, 1) := by decide +kernel
theorem dX11_findPulls_0 : decode cX11_findPulls 0 = .ok (.aload_n 0, 1) := by decide +kernel
theorem dX11_findPulls_1 : decode cX11_findPulls 1 = .ok (.getfield 15, 3) := by decide +kernel
theorem dX11_findPulls_4 : decode cX11_findPulls 4 = .ok (.getfield 107, 3) := by decide +kernel
theorem dX11_findPulls_7 : decode cX11_findPulls 7 = .ok (.invokestatic 124, 3) := by decide +kernel
theorem dX11_findPulls_10 : decode cX11_findPulls 10 = .ok (.istore_n 1, 1) := by decide +kernel
theorem dX11_findPulls_11 : decode cX11_findPulls 11 = .ok (.iconst 0, 1) := by decide +kernel
theorem dX11_findPulls_12 : decode cX11_findPulls 12 = .ok (.istore_n 2, 1) := by decide +kernel
theorem dX11_findPulls_13 : decode cX11_findPulls 13 = .ok (.iload_n 2, 1) := by decide +kernel
theorem dX11_findPulls_14 : decode cX11_findPulls 14 = .ok (.aload_n 0, 1) := by decide +kernel
theorem dX11_findPulls_15 : decode cX11_findPulls 15 = .ok (.getfield 15, 3) := by decide +kernel
theorem dX11_findPulls_18 : decode cX11_findPulls 18 = .ok (.getfield 91, 3) := by decide +kernel
theorem dX11_findPulls_21 : decode cX11_findPulls 21 = .ok (.if_icmp .ge 41, 3) := by decide +kernel
theorem dX11_findPulls_24 : decode cX11_findPulls 24 = .ok (.aload_n 0, 1) := by decide +kernel
theorem dX11_findPulls_25 : decode cX11_findPulls 25 = .ok (.getfield 68, 3) := by decide +kernel
theorem dX11_findPulls_28 : decode cX11_findPulls 28 = .ok (.iload_n 2, 1) := by decide +kernel
theorem dX11_findPulls_29 : decode cX11_findPulls 29 = .ok (.aload_n 0, 1) := by decide +kernel
theorem dX11_findPulls_30 : decode cX11_findPulls 30 = .ok (.iload_n 2, 1) := by decide +kernel
theorem dX11_findPulls_31 : decode cX11_findPulls 31 = .ok (.aload_n 0, 1) := by decide +kernel
theorem dX11_findPulls_32 : decode cX11_findPulls 32 = .ok (.getfield 15, 3) := by decide +kernel
theorem dX11_findPulls_35 : decode cX11_findPulls 35 = .ok (.getfield 117, 3) := by decide +kernel
theorem dX11_findPulls_38 : decode cX11_findPulls 38 = .ok (.invokevirtual 120, 3) := by decide +kernel
theorem dX11_findPulls_41 : decode cX11_findPulls 41 = .ok (.aload_n 0, 1) := by decide +kernel
theorem dX11_findPulls_42 : decode cX11_findPulls 42 = .ok (.iload_n 2, 1) := by decide +kernel
theorem dX11_findPulls_43 : decode cX11_findPulls 43 = .ok (.aload_n 0, 1) := by decide +kernel
theorem dX11_findPulls_44 : decode cX11_findPulls 44 = .ok (.getfield 15, 3) := by decide +kernel
theorem dX11_findPulls_47 : decode cX11_findPulls 47 = .ok (.getfield 117, 3) := by decide +kernel
theorem dX11_findPulls_50 : decode cX11_findPulls 50 = .ok (.iload_n 1, 1) := by decide +kernel
theorem dX11_findPulls_51 : decode cX11_findPulls 51 = .ok (.invokevirtual 130, 3) := by decide +kernel
theorem dX11_findPulls_54 : decode cX11_findPulls 54 = .ok (.imul, 1) := by decide +kernel
theorem dX11_findPulls_55 : decode cX11_findPulls 55 = .ok (.iastore, 1) := by decide +kernel
theorem dX11_findPulls_56 : decode cX11_findPulls 56 = .ok (.iinc 2 1, 3) := by decide +kernel
theorem dX11_findPulls_59 : decode cX11_findPulls 59 = .ok (.goto (-46), 3) := by decide +kernel
theorem dX11_findPulls_62 : decode cX11_findPulls 62 = .ok (.return_, 1) := by decide +kernel
theorem dX11_decides_0 : decode cX11_decides 0 = .ok (.iconst 0, 1) := by decide +kernel
theorem dX11_decides_1 : decode cX11_decides 1 = .ok (.istore_n 3, 1) := by decide +kernel
theorem dX11_decides_2 : decode cX11_decides 2 = .ok (.iconst 0, 1) := by decide +kernel
theorem dX11_decides_3 : decode cX11_decides 3 = .ok (.istore 4, 2) := by decide +kernel
theorem dX11_decides_5 : decode cX11_decides 5 = .ok (.iload 4, 2) := by decide +kernel
theorem dX11_decides_7 : decode cX11_decides 7 = .ok (.aload_n 0, 1) := by decide +kernel
theorem dX11_decides_8 : decode cX11_decides 8 = .ok (.getfield 15, 3) := by decide +kernel
theorem dX11_decides_11 : decode cX11_decides 11 = .ok (.getfield 91, 3) := by decide +kernel
theorem dX11_decides_14 : decode cX11_decides 14 = .ok (.if_icmp .ge 29, 3) := by decide +kernel
theorem dX11_decides_17 : decode cX11_decides 17 = .ok (.iload_n 2, 1) := by decide +kernel
theorem dX11_decides_18 : decode cX11_decides 18 = .ok (.iload 4, 2) := by decide +kernel
theorem dX11_decides_20 : decode cX11_decides 20 = .ok (.ishr, 1) := by decide +kernel
theorem dX11_decides_21 : decode cX11_decides 21 = .ok (.iconst 1, 1) := by decide +kernel
theorem dX11_decides_22 : decode cX11_decides 22 = .ok (.iand, 1) := by decide +kernel
theorem dX11_decides_23 : decode cX11_decides 23 = .ok (.iconst 1, 1) := by decide +kernel
theorem dX11_decides_24 : decode cX11_decides 24 = .ok (.if_icmp .ne 13, 3) := by decide +kernel
theorem dX11_decides_27 : decode cX11_decides 27 = .ok (.iload_n 3, 1) := by decide +kernel
theorem dX11_decides_28 : decode cX11_decides 28 = .ok (.aload_n 0, 1) := by decide +kernel
theorem dX11_decides_29 : decode cX11_decides 29 = .ok (.getfield 68, 3) := by decide +kernel
theorem dX11_decides_32 : decode cX11_decides 32 = .ok (.iload 4, 2) := by decide +kernel
theorem dX11_decides_34 : decode cX11_decides 34 = .ok (.iaload, 1) := by decide +kernel
theorem dX11_decides_35 : decode cX11_decides 35 = .ok (.iadd, 1) := by decide +kernel
theorem dX11_decides_36 : decode cX11_decides 36 = .ok (.istore_n 3, 1) := by decide +kernel
theorem dX11_decides_37 : decode cX11_decides 37 = .ok (.iinc 4 1, 3) := by decide +kernel
theorem dX11_decides_40 : decode cX11_decides 40 = .ok (.goto (-35), 3) := by decide +kernel
theorem dX11_decides_43 : decode cX11_decides 43 = .ok (.iload_n 3, 1) := by decide +kernel
theorem dX11_decides_44 : decode cX11_decides 44 = .ok (.aload_n 0, 1) := by decide +kernel
theorem dX11_decides_45 : decode cX11_decides 45 = .ok (.getfield 15, 3) := by decide +kernel
theorem dX11_decides_48 : decode cX11_decides 48 = .ok (.getfield 137, 3) := by decide +kernel
theorem dX11_decides_51 : decode cX11_decides 51 = .ok (.invokestatic 191, 3) := by decide +kernel
theorem dX11_decides_54 : decode cX11_decides 54 = .ok (.iload_n 3, 1) := by decide +kernel
theorem dX11_decides_55 : decode cX11_decides 55 = .ok (.aload_n 0, 1) := by decide +kernel
theorem dX11_decides_56 : decode cX11_decides 56 = .ok (.getfield 68, 3) := by decide +kernel
theorem dX11_decides_59 : decode cX11_decides 59 = .ok (.iload_n 1, 1) := by decide +kernel
theorem dX11_decides_60 : decode cX11_decides 60 = .ok (.iaload, 1) := by decide +kernel
theorem dX11_decides_61 : decode cX11_decides 61 = .ok (.iadd, 1) := by decide +kernel
theorem dX11_decides_62 : decode cX11_decides 62 = .ok (.aload_n 0, 1) := by decide +kernel
theorem dX11_decides_63 : decode cX11_decides 63 = .ok (.getfield 15, 3) := by decide +kernel
theorem dX11_decides_66 : decode cX11_decides 66 = .ok (.getfield 137, 3) := by decide +kernel
theorem dX11_decides_69 : decode cX11_decides 69 = .ok (.invokestatic 191, 3) := by decide +kernel
theorem dX11_decides_72 : decode cX11_decides 72 = .ok (.if_icmp .eq 7, 3) := by decide +kernel
theorem dX11_decides_75 : decode cX11_decides 75 = .ok (.iconst 1, 1) := by decide +kernel
theorem dX11_decides_76 : decode cX11_decides 76 = .ok (.goto 4, 3) := by decide +kernel
theorem dX11_decides_79 : decode cX11_decides 79 = .ok (.iconst 0, 1) := by decide +kernel
theorem dX11_decides_80 : decode cX11_decides 80 = .ok (.ireturn, 1) := by decide +kernel
theorem dX11_fewest_0 : decode cX11_fewest 0 = .ok (.iload_n 1, 1) := by decide +kernel
theorem dX11_fewest_1 : decode cX11_fewest 1 = .ok (.invokestatic 134, 3) := by decide +kernel
theorem dX11_fewest_4 : decode cX11_fewest 4 = .ok (.ifCond .eq 19, 3) := by decide +kernel
theorem dX11_fewest_7 : decode cX11_fewest 7 = .ok (.aload_n 0, 1) := by decide +kernel
theorem dX11_fewest_8 : decode cX11_fewest 8 = .ok (.iload_n 1, 1) := by decide +kernel
theorem dX11_fewest_9 : decode cX11_fewest 9 = .ok (.aload_n 0, 1) := by decide +kernel
theorem dX11_fewest_10 : decode cX11_fewest 10 = .ok (.getfield 15, 3) := by decide +kernel
theorem dX11_fewest_13 : decode cX11_fewest 13 = .ok (.getfield 137, 3) := by decide +kernel
theorem dX11_fewest_16 : decode cX11_fewest 16 = .ok (.iconst 4, 1) := by decide +kernel
theorem dX11_fewest_17 : decode cX11_fewest 17 = .ok (.invokevirtual 248, 3) := by decide +kernel
theorem dX11_fewest_20 : decode cX11_fewest 20 = .ok (.goto 4, 3) := by decide +kernel
theorem dX11_fewest_23 : decode cX11_fewest 23 = .ok (.iconst (-1), 1) := by decide +kernel
theorem dX11_fewest_24 : decode cX11_fewest 24 = .ok (.ireturn, 1) := by decide +kernel
theorem dX11_ith_0 : decode cX11_ith 0 = .ok (.iload_n 1, 1) := by decide +kernel
theorem dX11_ith_1 : decode cX11_ith 1 = .ok (.invokestatic 134, 3) := by decide +kernel
theorem dX11_ith_4 : decode cX11_ith 4 = .ok (.ifCond .eq 12, 3) := by decide +kernel
theorem dX11_ith_7 : decode cX11_ith 7 = .ok (.iload_n 2, 1) := by decide +kernel
theorem dX11_ith_8 : decode cX11_ith 8 = .ok (.iconst 0, 1) := by decide +kernel
theorem dX11_ith_9 : decode cX11_ith 9 = .ok (.iconst 3, 1) := by decide +kernel
theorem dX11_ith_10 : decode cX11_ith 10 = .ok (.invokestatic 83, 3) := by decide +kernel
theorem dX11_ith_13 : decode cX11_ith 13 = .ok (.ifCond .ne 5, 3) := by decide +kernel
theorem dX11_ith_16 : decode cX11_ith 16 = .ok (.iconst (-1), 1) := by decide +kernel
theorem dX11_ith_17 : decode cX11_ith 17 = .ok (.ireturn, 1) := by decide +kernel
theorem dX11_ith_18 : decode cX11_ith 18 = .ok (.iload_n 2, 1) := by decide +kernel
theorem dX11_ith_19 : decode cX11_ith 19 = .ok (.aload_n 0, 1) := by decide +kernel
theorem dX11_ith_20 : decode cX11_ith 20 = .ok (.iload_n 1, 1) := by decide +kernel
theorem dX11_ith_21 : decode cX11_ith 21 = .ok (.aload_n 0, 1) := by decide +kernel
theorem dX11_ith_22 : decode cX11_ith 22 = .ok (.getfield 15, 3) := by decide +kernel
theorem dX11_ith_25 : decode cX11_ith 25 = .ok (.getfield 137, 3) := by decide +kernel
theorem dX11_ith_28 : decode cX11_ith 28 = .ok (.iconst 4, 1) := by decide +kernel
theorem dX11_ith_29 : decode cX11_ith 29 = .ok (.invokevirtual 248, 3) := by decide +kernel
theorem dX11_ith_32 : decode cX11_ith 32 = .ok (.if_icmp .ge 12, 3) := by decide +kernel
theorem dX11_ith_35 : decode cX11_ith 35 = .ok (.aload_n 0, 1) := by decide +kernel
theorem dX11_ith_36 : decode cX11_ith 36 = .ok (.getfield 74, 3) := by decide +kernel
theorem dX11_ith_39 : decode cX11_ith 39 = .ok (.iload_n 2, 1) := by decide +kernel
theorem dX11_ith_40 : decode cX11_ith 40 = .ok (.iaload, 1) := by decide +kernel
theorem dX11_ith_41 : decode cX11_ith 41 = .ok (.goto 5, 3) := by decide +kernel
theorem dX11_ith_44 : decode cX11_ith 44 = .ok (.bipush (-3), 2) := by decide +kernel
theorem dX11_ith_46 : decode cX11_ith 46 = .ok (.ireturn, 1) := by decide +kernel
theorem dX11_ways_0 : decode cX11_ways 0 = .ok (.iload_n 1, 1) := by decide +kernel
theorem dX11_ways_1 : decode cX11_ways 1 = .ok (.invokestatic 134, 3) := by decide +kernel
theorem dX11_ways_4 : decode cX11_ways 4 = .ok (.ifCond .eq 12, 3) := by decide +kernel
theorem dX11_ways_7 : decode cX11_ways 7 = .ok (.iload_n 2, 1) := by decide +kernel
theorem dX11_ways_8 : decode cX11_ways 8 = .ok (.iconst 0, 1) := by decide +kernel
theorem dX11_ways_9 : decode cX11_ways 9 = .ok (.iconst 4, 1) := by decide +kernel
theorem dX11_ways_10 : decode cX11_ways 10 = .ok (.invokestatic 83, 3) := by decide +kernel
theorem dX11_ways_13 : decode cX11_ways 13 = .ok (.ifCond .ne 5, 3) := by decide +kernel
theorem dX11_ways_16 : decode cX11_ways 16 = .ok (.iconst (-1), 1) := by decide +kernel
theorem dX11_ways_17 : decode cX11_ways 17 = .ok (.ireturn, 1) := by decide +kernel
theorem dX11_ways_18 : decode cX11_ways 18 = .ok (.aload_n 0, 1) := by decide +kernel
theorem dX11_ways_19 : decode cX11_ways 19 = .ok (.iload_n 2, 1) := by decide +kernel
theorem dX11_ways_20 : decode cX11_ways 20 = .ok (.invokevirtual 251, 3) := by decide +kernel
theorem dX11_ways_23 : decode cX11_ways 23 = .ok (.aload_n 0, 1) := by decide +kernel
theorem dX11_ways_24 : decode cX11_ways 24 = .ok (.getfield 71, 3) := by decide +kernel
theorem dX11_ways_27 : decode cX11_ways 27 = .ok (.iload_n 1, 1) := by decide +kernel
theorem dX11_ways_28 : decode cX11_ways 28 = .ok (.iaload, 1) := by decide +kernel
theorem dX11_ways_29 : decode cX11_ways 29 = .ok (.ireturn, 1) := by decide +kernel
theorem dX11_hours_0 : decode cX11_hours 0 = .ok (.iload_n 1, 1) := by decide +kernel
theorem dX11_hours_1 : decode cX11_hours 1 = .ok (.iconst 0, 1) := by decide +kernel
theorem dX11_hours_2 : decode cX11_hours 2 = .ok (.iconst 4, 1) := by decide +kernel
theorem dX11_hours_3 : decode cX11_hours 3 = .ok (.invokestatic 83, 3) := by decide +kernel
theorem dX11_hours_6 : decode cX11_hours 6 = .ok (.ifCond .ne 5, 3) := by decide +kernel
theorem dX11_hours_9 : decode cX11_hours 9 = .ok (.iconst (-1), 1) := by decide +kernel
theorem dX11_hours_10 : decode cX11_hours 10 = .ok (.ireturn, 1) := by decide +kernel
theorem dX11_hours_11 : decode cX11_hours 11 = .ok (.aload_n 0, 1) := by decide +kernel
theorem dX11_hours_12 : decode cX11_hours 12 = .ok (.iload_n 1, 1) := by decide +kernel
theorem dX11_hours_13 : decode cX11_hours 13 = .ok (.invokevirtual 251, 3) := by decide +kernel
theorem dX11_hours_16 : decode cX11_hours 16 = .ok (.iconst 0, 1) := by decide +kernel
theorem dX11_hours_17 : decode cX11_hours 17 = .ok (.istore_n 2, 1) := by decide +kernel
theorem dX11_hours_18 : decode cX11_hours 18 = .ok (.iconst 0, 1) := by decide +kernel
theorem dX11_hours_19 : decode cX11_hours 19 = .ok (.istore_n 3, 1) := by decide +kernel
theorem dX11_hours_20 : decode cX11_hours 20 = .ok (.iload_n 3, 1) := by decide +kernel
theorem dX11_hours_21 : decode cX11_hours 21 = .ok (.bipush 24, 2) := by decide +kernel
theorem dX11_hours_23 : decode cX11_hours 23 = .ok (.if_icmp .ge 24, 3) := by decide +kernel
theorem dX11_hours_26 : decode cX11_hours 26 = .ok (.aload_n 0, 1) := by decide +kernel
theorem dX11_hours_27 : decode cX11_hours 27 = .ok (.getfield 71, 3) := by decide +kernel
theorem dX11_hours_30 : decode cX11_hours 30 = .ok (.iload_n 3, 1) := by decide +kernel
theorem dX11_hours_31 : decode cX11_hours 31 = .ok (.iaload, 1) := by decide +kernel
theorem dX11_hours_32 : decode cX11_hours 32 = .ok (.ifCond .le 9, 3) := by decide +kernel
theorem dX11_hours_35 : decode cX11_hours 35 = .ok (.iload_n 2, 1) := by decide +kernel
theorem dX11_hours_36 : decode cX11_hours 36 = .ok (.iconst 1, 1) := by decide +kernel
theorem dX11_hours_37 : decode cX11_hours 37 = .ok (.iload_n 3, 1) := by decide +kernel
theorem dX11_hours_38 : decode cX11_hours 38 = .ok (.ishl, 1) := by decide +kernel
theorem dX11_hours_39 : decode cX11_hours 39 = .ok (.ior, 1) := by decide +kernel
theorem dX11_hours_40 : decode cX11_hours 40 = .ok (.istore_n 2, 1) := by decide +kernel
theorem dX11_hours_41 : decode cX11_hours 41 = .ok (.iinc 3 1, 3) := by decide +kernel
theorem dX11_hours_44 : decode cX11_hours 44 = .ok (.goto (-24), 3) := by decide +kernel
theorem dX11_hours_47 : decode cX11_hours 47 = .ok (.iload_n 2, 1) := by decide +kernel
theorem dX11_hours_48 : decode cX11_hours 48 = .ok (.ireturn, 1) := by decide +kernel
theorem dX11_limitFor_0 : decode cX11_limitFor 0 = .ok (.iload_n 1, 1) := by decide +kernel
theorem dX11_limitFor_1 : decode cX11_limitFor 1 = .ok (.invokestatic 134, 3) := by decide +kernel
theorem dX11_limitFor_4 : decode cX11_limitFor 4 = .ok (.ifCond .eq 12, 3) := by decide +kernel
theorem dX11_limitFor_7 : decode cX11_limitFor 7 = .ok (.iload_n 2, 1) := by decide +kernel
theorem dX11_limitFor_8 : decode cX11_limitFor 8 = .ok (.iconst 1, 1) := by decide +kernel
theorem dX11_limitFor_9 : decode cX11_limitFor 9 = .ok (.iconst 3, 1) := by decide +kernel
theorem dX11_limitFor_10 : decode cX11_limitFor 10 = .ok (.invokestatic 83, 3) := by decide +kernel
theorem dX11_limitFor_13 : decode cX11_limitFor 13 = .ok (.ifCond .ne 5, 3) := by decide +kernel
theorem dX11_limitFor_16 : decode cX11_limitFor 16 = .ok (.iconst (-1), 1) := by decide +kernel
theorem dX11_limitFor_17 : decode cX11_limitFor 17 = .ok (.ireturn, 1) := by decide +kernel
theorem dX11_limitFor_18 : decode cX11_limitFor 18 = .ok (.bipush 99, 2) := by decide +kernel
theorem dX11_limitFor_20 : decode cX11_limitFor 20 = .ok (.istore_n 3, 1) := by decide +kernel
theorem dX11_limitFor_21 : decode cX11_limitFor 21 = .ok (.iload_n 3, 1) := by decide +kernel
theorem dX11_limitFor_22 : decode cX11_limitFor 22 = .ok (.ifCond .lt 21, 3) := by decide +kernel
theorem dX11_limitFor_25 : decode cX11_limitFor 25 = .ok (.aload_n 0, 1) := by decide +kernel
theorem dX11_limitFor_26 : decode cX11_limitFor 26 = .ok (.iload_n 1, 1) := by decide +kernel
theorem dX11_limitFor_27 : decode cX11_limitFor 27 = .ok (.iload_n 3, 1) := by decide +kernel
theorem dX11_limitFor_28 : decode cX11_limitFor 28 = .ok (.iload_n 2, 1) := by decide +kernel
theorem dX11_limitFor_29 : decode cX11_limitFor 29 = .ok (.invokevirtual 248, 3) := by decide +kernel
theorem dX11_limitFor_32 : decode cX11_limitFor 32 = .ok (.ifCond .lt 5, 3) := by decide +kernel
theorem dX11_limitFor_35 : decode cX11_limitFor 35 = .ok (.iload_n 3, 1) := by decide +kernel
theorem dX11_limitFor_36 : decode cX11_limitFor 36 = .ok (.ireturn, 1) := by decide +kernel
theorem dX11_limitFor_37 : decode cX11_limitFor 37 = .ok (.iinc 3 (-1), 3) := by decide +kernel
theorem dX11_limitFor_40 : decode cX11_limitFor 40 = .ok (.goto (-19), 3) := by decide +kernel
theorem dX11_limitFor_43 : decode cX11_limitFor 43 = .ok (.bipush (-3), 2) := by decide +kernel
theorem dX11_limitFor_45 : decode cX11_limitFor 45 = .ok (.ireturn, 1) := by decide +kernel
theorem dX11_firstPlan_0 : decode cX11_firstPlan 0 = .ok (.iconst 0, 1) := by decide +kernel
theorem dX11_firstPlan_1 : decode cX11_firstPlan 1 = .ok (.istore 4, 2) := by decide +kernel
theorem dX11_firstPlan_3 : decode cX11_firstPlan 3 = .ok (.iload 4, 2) := by decide +kernel
theorem dX11_firstPlan_5 : decode cX11_firstPlan 5 = .ok (.iload_n 3, 1) := by decide +kernel
theorem dX11_firstPlan_6 : decode cX11_firstPlan 6 = .ok (.if_icmp .gt 38, 3) := by decide +kernel
theorem dX11_firstPlan_9 : decode cX11_firstPlan 9 = .ok (.aload_n 0, 1) := by decide +kernel
theorem dX11_firstPlan_10 : decode cX11_firstPlan 10 = .ok (.iload_n 1, 1) := by decide +kernel
theorem dX11_firstPlan_11 : decode cX11_firstPlan 11 = .ok (.aload_n 0, 1) := by decide +kernel
theorem dX11_firstPlan_12 : decode cX11_firstPlan 12 = .ok (.getfield 15, 3) := by decide +kernel
theorem dX11_firstPlan_15 : decode cX11_firstPlan 15 = .ok (.getfield 117, 3) := by decide +kernel
theorem dX11_firstPlan_18 : decode cX11_firstPlan 18 = .ok (.aload_n 0, 1) := by decide +kernel
theorem dX11_firstPlan_19 : decode cX11_firstPlan 19 = .ok (.getfield 15, 3) := by decide +kernel
theorem dX11_firstPlan_22 : decode cX11_firstPlan 22 = .ok (.getfield 107, 3) := by decide +kernel
theorem dX11_firstPlan_25 : decode cX11_firstPlan 25 = .ok (.iload_n 2, 1) := by decide +kernel
theorem dX11_firstPlan_26 : decode cX11_firstPlan 26 = .ok (.iconst 0, 1) := by decide +kernel
theorem dX11_firstPlan_27 : decode cX11_firstPlan 27 = .ok (.iload 4, 2) := by decide +kernel
theorem dX11_firstPlan_29 : decode cX11_firstPlan 29 = .ok (.invokevirtual 255, 3) := by decide +kernel
theorem dX11_firstPlan_32 : decode cX11_firstPlan 32 = .ok (.ifCond .eq 6, 3) := by decide +kernel
theorem dX11_firstPlan_35 : decode cX11_firstPlan 35 = .ok (.iload 4, 2) := by decide +kernel
theorem dX11_firstPlan_37 : decode cX11_firstPlan 37 = .ok (.ireturn, 1) := by decide +kernel
theorem dX11_firstPlan_38 : decode cX11_firstPlan 38 = .ok (.iinc 4 1, 3) := by decide +kernel
theorem dX11_firstPlan_41 : decode cX11_firstPlan 41 = .ok (.goto (-38), 3) := by decide +kernel
theorem dX11_firstPlan_44 : decode cX11_firstPlan 44 = .ok (.bipush (-3), 2) := by decide +kernel
theorem dX11_firstPlan_46 : decode cX11_firstPlan 46 = .ok (.ireturn, 1) := by decide +kernel
theorem dX11_plansTo_0 : decode cX11_plansTo 0 = .ok (.iload_n 2, 1) := by decide +kernel
theorem dX11_plansTo_1 : decode cX11_plansTo 1 = .ok (.iload_n 1, 1) := by decide +kernel
theorem dX11_plansTo_2 : decode cX11_plansTo 2 = .ok (.invokestatic 245, 3) := by decide +kernel
theorem dX11_plansTo_5 : decode cX11_plansTo 5 = .ok (.iload 6, 2) := by decide +kernel
theorem dX11_plansTo_7 : decode cX11_plansTo 7 = .ok (.iload 5, 2) := by decide +kernel
theorem dX11_plansTo_9 : decode cX11_plansTo 9 = .ok (.isub, 1) := by decide +kernel
theorem dX11_plansTo_10 : decode cX11_plansTo 10 = .ok (.if_icmp .le 5, 3) := by decide +kernel
theorem dX11_plansTo_13 : decode cX11_plansTo 13 = .ok (.iconst 0, 1) := by decide +kernel
theorem dX11_plansTo_14 : decode cX11_plansTo 14 = .ok (.ireturn, 1) := by decide +kernel
theorem dX11_plansTo_15 : decode cX11_plansTo 15 = .ok (.iload 5, 2) := by decide +kernel
theorem dX11_plansTo_17 : decode cX11_plansTo 17 = .ok (.iload 6, 2) := by decide +kernel
theorem dX11_plansTo_19 : decode cX11_plansTo 19 = .ok (.if_icmp .lt 5, 3) := by decide +kernel
theorem dX11_plansTo_22 : decode cX11_plansTo 22 = .ok (.iconst 1, 1) := by decide +kernel
theorem dX11_plansTo_23 : decode cX11_plansTo 23 = .ok (.ireturn, 1) := by decide +kernel
theorem dX11_plansTo_24 : decode cX11_plansTo 24 = .ok (.iconst 0, 1) := by decide +kernel
theorem dX11_plansTo_25 : decode cX11_plansTo 25 = .ok (.istore 7, 2) := by decide +kernel
theorem dX11_plansTo_27 : decode cX11_plansTo 27 = .ok (.iload 7, 2) := by decide +kernel
theorem dX11_plansTo_29 : decode cX11_plansTo 29 = .ok (.aload_n 0, 1) := by decide +kernel
theorem dX11_plansTo_30 : decode cX11_plansTo 30 = .ok (.getfield 15, 3) := by decide +kernel
theorem dX11_plansTo_33 : decode cX11_plansTo 33 = .ok (.getfield 91, 3) := by decide +kernel
theorem dX11_plansTo_36 : decode cX11_plansTo 36 = .ok (.if_icmp .gt 41, 3) := by decide +kernel
theorem dX11_plansTo_39 : decode cX11_plansTo 39 = .ok (.aload_n 0, 1) := by decide +kernel
theorem dX11_plansTo_40 : decode cX11_plansTo 40 = .ok (.getfield 74, 3) := by decide +kernel
theorem dX11_plansTo_43 : decode cX11_plansTo 43 = .ok (.iload 5, 2) := by decide +kernel
theorem dX11_plansTo_45 : decode cX11_plansTo 45 = .ok (.iload 7, 2) := by decide +kernel
theorem dX11_plansTo_47 : decode cX11_plansTo 47 = .ok (.iastore, 1) := by decide +kernel
theorem dX11_plansTo_48 : decode cX11_plansTo 48 = .ok (.aload_n 0, 1) := by decide +kernel
theorem dX11_plansTo_49 : decode cX11_plansTo 49 = .ok (.iload_n 1, 1) := by decide +kernel
theorem dX11_plansTo_50 : decode cX11_plansTo 50 = .ok (.iload_n 2, 1) := by decide +kernel
theorem dX11_plansTo_51 : decode cX11_plansTo 51 = .ok (.iload_n 3, 1) := by decide +kernel
theorem dX11_plansTo_52 : decode cX11_plansTo 52 = .ok (.iload 7, 2) := by decide +kernel
theorem dX11_plansTo_54 : decode cX11_plansTo 54 = .ok (.invokestatic 259, 3) := by decide +kernel
theorem dX11_plansTo_57 : decode cX11_plansTo 57 = .ok (.iload 4, 2) := by decide +kernel
theorem dX11_plansTo_59 : decode cX11_plansTo 59 = .ok (.iload 5, 2) := by decide +kernel
theorem dX11_plansTo_61 : decode cX11_plansTo 61 = .ok (.iload 6, 2) := by decide +kernel
theorem dX11_plansTo_63 : decode cX11_plansTo 63 = .ok (.invokevirtual 262, 3) := by decide +kernel
theorem dX11_plansTo_66 : decode cX11_plansTo 66 = .ok (.ifCond .eq 5, 3) := by decide +kernel
theorem dX11_plansTo_69 : decode cX11_plansTo 69 = .ok (.iconst 1, 1) := by decide +kernel
theorem dX11_plansTo_70 : decode cX11_plansTo 70 = .ok (.ireturn, 1) := by decide +kernel
theorem dX11_plansTo_71 : decode cX11_plansTo 71 = .ok (.iinc 7 1, 3) := by decide +kernel
theorem dX11_plansTo_74 : decode cX11_plansTo 74 = .ok (.goto (-47), 3) := by decide +kernel
theorem dX11_plansTo_77 : decode cX11_plansTo 77 = .ok (.iconst 0, 1) := by decide +kernel
theorem dX11_plansTo_78 : decode cX11_plansTo 78 = .ok (.ireturn, 1) := by decide +kernel
theorem dX11_goesOnTo_0 : decode cX11_goesOnTo 0 = .ok (.aload_n 0, 1) := by decide +kernel
theorem dX11_goesOnTo_1 : decode cX11_goesOnTo 1 = .ok (.iload_n 1, 1) := by decide +kernel
theorem dX11_goesOnTo_2 : decode cX11_goesOnTo 2 = .ok (.iload_n 2, 1) := by decide +kernel
theorem dX11_goesOnTo_3 : decode cX11_goesOnTo 3 = .ok (.aload_n 0, 1) := by decide +kernel
theorem dX11_goesOnTo_4 : decode cX11_goesOnTo 4 = .ok (.iload_n 2, 1) := by decide +kernel
theorem dX11_goesOnTo_5 : decode cX11_goesOnTo 5 = .ok (.iload_n 3, 1) := by decide +kernel
theorem dX11_goesOnTo_6 : decode cX11_goesOnTo 6 = .ok (.invokevirtual 173, 3) := by decide +kernel
theorem dX11_goesOnTo_9 : decode cX11_goesOnTo 9 = .ok (.iload 4, 2) := by decide +kernel
theorem dX11_goesOnTo_11 : decode cX11_goesOnTo 11 = .ok (.invokestatic 191, 3) := by decide +kernel
theorem dX11_goesOnTo_14 : decode cX11_goesOnTo 14 = .ok (.invokestatic 194, 3) := by decide +kernel
theorem dX11_goesOnTo_17 : decode cX11_goesOnTo 17 = .ok (.iload_n 3, 1) := by decide +kernel
theorem dX11_goesOnTo_18 : decode cX11_goesOnTo 18 = .ok (.iload 4, 2) := by decide +kernel
theorem dX11_goesOnTo_20 : decode cX11_goesOnTo 20 = .ok (.iload 5, 2) := by decide +kernel
theorem dX11_goesOnTo_22 : decode cX11_goesOnTo 22 = .ok (.iconst 1, 1) := by decide +kernel
theorem dX11_goesOnTo_23 : decode cX11_goesOnTo 23 = .ok (.iadd, 1) := by decide +kernel
theorem dX11_goesOnTo_24 : decode cX11_goesOnTo 24 = .ok (.iload 6, 2) := by decide +kernel
theorem dX11_goesOnTo_26 : decode cX11_goesOnTo 26 = .ok (.invokevirtual 255, 3) := by decide +kernel
theorem dX11_goesOnTo_29 : decode cX11_goesOnTo 29 = .ok (.ireturn, 1) := by decide +kernel
theorem dX11_findEnds_0 : decode cX11_findEnds 0 = .ok (.aload_n 0, 1) := by decide +kernel
theorem dX11_findEnds_1 : decode cX11_findEnds 1 = .ok (.getfield 71, 3) := by decide +kernel
theorem dX11_findEnds_4 : decode cX11_findEnds 4 = .ok (.iconst 0, 1) := by decide +kernel
theorem dX11_findEnds_5 : decode cX11_findEnds 5 = .ok (.invokestatic 206, 3) := by decide +kernel
theorem dX11_findEnds_8 : decode cX11_findEnds 8 = .ok (.aload_n 0, 1) := by decide +kernel
theorem dX11_findEnds_9 : decode cX11_findEnds 9 = .ok (.aload_n 0, 1) := by decide +kernel
theorem dX11_findEnds_10 : decode cX11_findEnds 10 = .ok (.getfield 15, 3) := by decide +kernel
theorem dX11_findEnds_13 : decode cX11_findEnds 13 = .ok (.getfield 117, 3) := by decide +kernel
theorem dX11_findEnds_16 : decode cX11_findEnds 16 = .ok (.aload_n 0, 1) := by decide +kernel
theorem dX11_findEnds_17 : decode cX11_findEnds 17 = .ok (.getfield 15, 3) := by decide +kernel
theorem dX11_findEnds_20 : decode cX11_findEnds 20 = .ok (.getfield 107, 3) := by decide +kernel
theorem dX11_findEnds_23 : decode cX11_findEnds 23 = .ok (.iload_n 1, 1) := by decide +kernel
theorem dX11_findEnds_24 : decode cX11_findEnds 24 = .ok (.invokevirtual 265, 3) := by decide +kernel
theorem dX11_findEnds_27 : decode cX11_findEnds 27 = .ok (.return_, 1) := by decide +kernel
theorem dX11_countEnds_0 : decode cX11_countEnds 0 = .ok (.iload_n 3, 1) := by decide +kernel
theorem dX11_countEnds_1 : decode cX11_countEnds 1 = .ok (.ifCond .gt 14, 3) := by decide +kernel
theorem dX11_countEnds_4 : decode cX11_countEnds 4 = .ok (.aload_n 0, 1) := by decide +kernel
theorem dX11_countEnds_5 : decode cX11_countEnds 5 = .ok (.getfield 71, 3) := by decide +kernel
theorem dX11_countEnds_8 : decode cX11_countEnds 8 = .ok (.iload_n 1, 1) := by decide +kernel
theorem dX11_countEnds_9 : decode cX11_countEnds 9 = .ok (.dup2, 1) := by decide +kernel
theorem dX11_countEnds_10 : decode cX11_countEnds 10 = .ok (.iaload, 1) := by decide +kernel
theorem dX11_countEnds_11 : decode cX11_countEnds 11 = .ok (.iconst 1, 1) := by decide +kernel
theorem dX11_countEnds_12 : decode cX11_countEnds 12 = .ok (.iadd, 1) := by decide +kernel
theorem dX11_countEnds_13 : decode cX11_countEnds 13 = .ok (.iastore, 1) := by decide +kernel
theorem dX11_countEnds_14 : decode cX11_countEnds 14 = .ok (.return_, 1) := by decide +kernel
theorem dX11_countEnds_15 : decode cX11_countEnds 15 = .ok (.iconst 0, 1) := by decide +kernel
theorem dX11_countEnds_16 : decode cX11_countEnds 16 = .ok (.istore 4, 2) := by decide +kernel
theorem dX11_countEnds_18 : decode cX11_countEnds 18 = .ok (.iload 4, 2) := by decide +kernel
theorem dX11_countEnds_20 : decode cX11_countEnds 20 = .ok (.aload_n 0, 1) := by decide +kernel
theorem dX11_countEnds_21 : decode cX11_countEnds 21 = .ok (.getfield 15, 3) := by decide +kernel
theorem dX11_countEnds_24 : decode cX11_countEnds 24 = .ok (.getfield 91, 3) := by decide +kernel
theorem dX11_countEnds_27 : decode cX11_countEnds 27 = .ok (.if_icmp .gt 21, 3) := by decide +kernel
theorem dX11_countEnds_30 : decode cX11_countEnds 30 = .ok (.aload_n 0, 1) := by decide +kernel
theorem dX11_countEnds_31 : decode cX11_countEnds 31 = .ok (.iload_n 1, 1) := by decide +kernel
theorem dX11_countEnds_32 : decode cX11_countEnds 32 = .ok (.iload_n 2, 1) := by decide +kernel
theorem dX11_countEnds_33 : decode cX11_countEnds 33 = .ok (.iload 4, 2) := by decide +kernel
theorem dX11_countEnds_35 : decode cX11_countEnds 35 = .ok (.invokestatic 259, 3) := by decide +kernel
theorem dX11_countEnds_38 : decode cX11_countEnds 38 = .ok (.iload_n 3, 1) := by decide +kernel
theorem dX11_countEnds_39 : decode cX11_countEnds 39 = .ok (.invokevirtual 269, 3) := by decide +kernel
theorem dX11_countEnds_42 : decode cX11_countEnds 42 = .ok (.iinc 4 1, 3) := by decide +kernel
theorem dX11_countEnds_45 : decode cX11_countEnds 45 = .ok (.goto (-27), 3) := by decide +kernel
theorem dX11_countEnds_48 : decode cX11_countEnds 48 = .ok (.return_, 1) := by decide +kernel
theorem dX11_countEndsBehind_0 : decode cX11_countEndsBehind 0 = .ok (.aload_n 0, 1) := by decide +kernel
theorem dX11_countEndsBehind_1 : decode cX11_countEndsBehind 1 = .ok (.iload_n 1, 1) := by decide +kernel
theorem dX11_countEndsBehind_2 : decode cX11_countEndsBehind 2 = .ok (.aload_n 0, 1) := by decide +kernel
theorem dX11_countEndsBehind_3 : decode cX11_countEndsBehind 3 = .ok (.iload_n 1, 1) := by decide +kernel
theorem dX11_countEndsBehind_4 : decode cX11_countEndsBehind 4 = .ok (.iload_n 2, 1) := by decide +kernel
theorem dX11_countEndsBehind_5 : decode cX11_countEndsBehind 5 = .ok (.invokevirtual 173, 3) := by decide +kernel
theorem dX11_countEndsBehind_8 : decode cX11_countEndsBehind 8 = .ok (.aload_n 0, 1) := by decide +kernel
theorem dX11_countEndsBehind_9 : decode cX11_countEndsBehind 9 = .ok (.getfield 15, 3) := by decide +kernel
theorem dX11_countEndsBehind_12 : decode cX11_countEndsBehind 12 = .ok (.getfield 137, 3) := by decide +kernel
theorem dX11_countEndsBehind_15 : decode cX11_countEndsBehind 15 = .ok (.invokestatic 191, 3) := by decide +kernel
theorem dX11_countEndsBehind_18 : decode cX11_countEndsBehind 18 = .ok (.invokestatic 194, 3) := by decide +kernel
theorem dX11_countEndsBehind_21 : decode cX11_countEndsBehind 21 = .ok (.iload_n 2, 1) := by decide +kernel
theorem dX11_countEndsBehind_22 : decode cX11_countEndsBehind 22 = .ok (.iload_n 3, 1) := by decide +kernel
theorem dX11_countEndsBehind_23 : decode cX11_countEndsBehind 23 = .ok (.iconst 1, 1) := by decide +kernel
theorem dX11_countEndsBehind_24 : decode cX11_countEndsBehind 24 = .ok (.isub, 1) := by decide +kernel
theorem dX11_countEndsBehind_25 : decode cX11_countEndsBehind 25 = .ok (.invokevirtual 265, 3) := by decide +kernel
theorem dX11_countEndsBehind_28 : decode cX11_countEndsBehind 28 = .ok (.return_, 1) := by decide +kernel
theorem dX11_isAct_0 : decode cX11_isAct 0 = .ok (.iload_n 1, 1) := by decide +kernel
theorem dX11_isAct_1 : decode cX11_isAct 1 = .ok (.iconst 0, 1) := by decide +kernel
theorem dX11_isAct_2 : decode cX11_isAct 2 = .ok (.aload_n 0, 1) := by decide +kernel
theorem dX11_isAct_3 : decode cX11_isAct 3 = .ok (.getfield 15, 3) := by decide +kernel
theorem dX11_isAct_6 : decode cX11_isAct 6 = .ok (.getfield 91, 3) := by decide +kernel
theorem dX11_isAct_9 : decode cX11_isAct 9 = .ok (.invokestatic 83, 3) := by decide +kernel
theorem dX11_isAct_12 : decode cX11_isAct 12 = .ok (.ireturn, 1) := by decide +kernel
theorem dX11_acted_0 : decode cX11_acted 0 = .ok (.iload_n 1, 1) := by decide +kernel
theorem dX11_acted_1 : decode cX11_acted 1 = .ok (.ifCond .ne 7, 3) := by decide +kernel
theorem dX11_acted_4 : decode cX11_acted 4 = .ok (.iload_n 0, 1) := by decide +kernel
theorem dX11_acted_5 : decode cX11_acted 5 = .ok (.goto 10, 3) := by decide +kernel
theorem dX11_acted_8 : decode cX11_acted 8 = .ok (.iload_n 0, 1) := by decide +kernel
theorem dX11_acted_9 : decode cX11_acted 9 = .ok (.iconst 1, 1) := by decide +kernel
theorem dX11_acted_10 : decode cX11_acted 10 = .ok (.iload_n 1, 1) := by decide +kernel
theorem dX11_acted_11 : decode cX11_acted 11 = .ok (.iconst 1, 1) := by decide +kernel
theorem dX11_acted_12 : decode cX11_acted 12 = .ok (.isub, 1) := by decide +kernel
theorem dX11_acted_13 : decode cX11_acted 13 = .ok (.ishl, 1) := by decide +kernel
theorem dX11_acted_14 : decode cX11_acted 14 = .ok (.ixor, 1) := by decide +kernel
theorem dX11_acted_15 : decode cX11_acted 15 = .ok (.ireturn, 1) := by decide +kernel
theorem dX11_game_0 : decode cX11_game 0 = .ok (.iload_n 1, 1) := by decide +kernel
theorem dX11_game_1 : decode cX11_game 1 = .ok (.iconst 1, 1) := by decide +kernel
theorem dX11_game_2 : decode cX11_game 2 = .ok (.iconst 4, 1) := by decide +kernel
theorem dX11_game_3 : decode cX11_game 3 = .ok (.invokestatic 83, 3) := by decide +kernel
theorem dX11_game_6 : decode cX11_game 6 = .ok (.ifCond .eq 29, 3) := by decide +kernel
theorem dX11_game_9 : decode cX11_game 9 = .ok (.aload_n 0, 1) := by decide +kernel
theorem dX11_game_10 : decode cX11_game 10 = .ok (.aload_n 0, 1) := by decide +kernel
theorem dX11_game_11 : decode cX11_game 11 = .ok (.getfield 15, 3) := by decide +kernel
theorem dX11_game_14 : decode cX11_game 14 = .ok (.getfield 117, 3) := by decide +kernel
theorem dX11_game_17 : decode cX11_game 17 = .ok (.aload_n 0, 1) := by decide +kernel
theorem dX11_game_18 : decode cX11_game 18 = .ok (.getfield 15, 3) := by decide +kernel
theorem dX11_game_21 : decode cX11_game 21 = .ok (.getfield 107, 3) := by decide +kernel
theorem dX11_game_24 : decode cX11_game 24 = .ok (.iload_n 1, 1) := by decide +kernel
theorem dX11_game_25 : decode cX11_game 25 = .ok (.iconst 1, 1) := by decide +kernel
theorem dX11_game_26 : decode cX11_game 26 = .ok (.invokevirtual 272, 3) := by decide +kernel
theorem dX11_game_29 : decode cX11_game 29 = .ok (.bipush 10, 2) := by decide +kernel
theorem dX11_game_31 : decode cX11_game 31 = .ok (.iadd, 1) := by decide +kernel
theorem dX11_game_32 : decode cX11_game 32 = .ok (.goto 4, 3) := by decide +kernel
theorem dX11_game_35 : decode cX11_game 35 = .ok (.iconst (-1), 1) := by decide +kernel
theorem dX11_game_36 : decode cX11_game 36 = .ok (.ireturn, 1) := by decide +kernel
theorem dX11_play_0 : decode cX11_play 0 = .ok (.iload_n 1, 1) := by decide +kernel
theorem dX11_play_1 : decode cX11_play 1 = .ok (.iconst 1, 1) := by decide +kernel
theorem dX11_play_2 : decode cX11_play 2 = .ok (.iconst 4, 1) := by decide +kernel
theorem dX11_play_3 : decode cX11_play 3 = .ok (.invokestatic 83, 3) := by decide +kernel
theorem dX11_play_6 : decode cX11_play 6 = .ok (.ifCond .ne 5, 3) := by decide +kernel
theorem dX11_play_9 : decode cX11_play 9 = .ok (.iconst (-1), 1) := by decide +kernel
theorem dX11_play_10 : decode cX11_play 10 = .ok (.ireturn, 1) := by decide +kernel
theorem dX11_play_11 : decode cX11_play 11 = .ok (.aload_n 0, 1) := by decide +kernel
theorem dX11_play_12 : decode cX11_play 12 = .ok (.aload_n 0, 1) := by decide +kernel
theorem dX11_play_13 : decode cX11_play 13 = .ok (.getfield 15, 3) := by decide +kernel
theorem dX11_play_16 : decode cX11_play 16 = .ok (.getfield 117, 3) := by decide +kernel
theorem dX11_play_19 : decode cX11_play 19 = .ok (.aload_n 0, 1) := by decide +kernel
theorem dX11_play_20 : decode cX11_play 20 = .ok (.getfield 15, 3) := by decide +kernel
theorem dX11_play_23 : decode cX11_play 23 = .ok (.getfield 107, 3) := by decide +kernel
theorem dX11_play_26 : decode cX11_play 26 = .ok (.iload_n 1, 1) := by decide +kernel
theorem dX11_play_27 : decode cX11_play 27 = .ok (.iconst 1, 1) := by decide +kernel
theorem dX11_play_28 : decode cX11_play 28 = .ok (.invokevirtual 272, 3) := by decide +kernel
theorem dX11_play_31 : decode cX11_play 31 = .ok (.istore_n 2, 1) := by decide +kernel
theorem dX11_play_32 : decode cX11_play 32 = .ok (.iconst 0, 1) := by decide +kernel
theorem dX11_play_33 : decode cX11_play 33 = .ok (.istore_n 3, 1) := by decide +kernel
theorem dX11_play_34 : decode cX11_play 34 = .ok (.iload_n 3, 1) := by decide +kernel
theorem dX11_play_35 : decode cX11_play 35 = .ok (.aload_n 0, 1) := by decide +kernel
theorem dX11_play_36 : decode cX11_play 36 = .ok (.getfield 15, 3) := by decide +kernel
theorem dX11_play_39 : decode cX11_play 39 = .ok (.getfield 91, 3) := by decide +kernel
theorem dX11_play_42 : decode cX11_play 42 = .ok (.if_icmp .ge 34, 3) := by decide +kernel
theorem dX11_play_45 : decode cX11_play 45 = .ok (.aload_n 0, 1) := by decide +kernel
theorem dX11_play_46 : decode cX11_play 46 = .ok (.iload_n 3, 1) := by decide +kernel
theorem dX11_play_47 : decode cX11_play 47 = .ok (.aload_n 0, 1) := by decide +kernel
theorem dX11_play_48 : decode cX11_play 48 = .ok (.getfield 15, 3) := by decide +kernel
theorem dX11_play_51 : decode cX11_play 51 = .ok (.getfield 117, 3) := by decide +kernel
theorem dX11_play_54 : decode cX11_play 54 = .ok (.aload_n 0, 1) := by decide +kernel
theorem dX11_play_55 : decode cX11_play 55 = .ok (.getfield 15, 3) := by decide +kernel
theorem dX11_play_58 : decode cX11_play 58 = .ok (.getfield 107, 3) := by decide +kernel
theorem dX11_play_61 : decode cX11_play 61 = .ok (.iload_n 1, 1) := by decide +kernel
theorem dX11_play_62 : decode cX11_play 62 = .ok (.iconst 1, 1) := by decide +kernel
theorem dX11_play_63 : decode cX11_play 63 = .ok (.invokevirtual 276, 3) := by decide +kernel
theorem dX11_play_66 : decode cX11_play 66 = .ok (.iload_n 2, 1) := by decide +kernel
theorem dX11_play_67 : decode cX11_play 67 = .ok (.if_icmp .eq 9, 3) := by decide +kernel
theorem dX11_play_70 : decode cX11_play 70 = .ok (.iinc 3 1, 3) := by decide +kernel
