theorem dX0_init_0 : decode cX0_init 0 = .ok (.aload_n 0, 1) := by decide +kernel
theorem dX0_init_1 : decode cX0_init 1 = .ok (.invokespecial 5, 3) := by decide +kernel
theorem dX0_init_4 : decode cX0_init 4 = .ok (.aload_n 0, 1) := by decide +kernel
theorem dX0_init_5 : decode cX0_init 5 = .ok (.bipush 9, 2) := by decide +kernel
theorem dX0_init_7 : decode cX0_init 7 = .ok (.newarray .int, 2) := by decide +kernel
theorem dX0_init_9 : decode cX0_init 9 = .ok (.putfield 11, 3) := by decide +kernel
theorem dX0_init_12 : decode cX0_init 12 = .ok (.aload_n 0, 1) := by decide +kernel
theorem dX0_init_13 : decode cX0_init 13 = .ok (.bipush 27, 2) := by decide +kernel
theorem dX0_init_15 : decode cX0_init 15 = .ok (.newarray .int, 2) := by decide +kernel
theorem dX0_init_17 : decode cX0_init 17 = .ok (.putfield 15, 3) := by decide +kernel
theorem dX0_init_20 : decode cX0_init 20 = .ok (.aload_n 0, 1) := by decide +kernel
theorem dX0_init_21 : decode cX0_init 21 = .ok (.bipush 30, 2) := by decide +kernel
theorem dX0_init_23 : decode cX0_init 23 = .ok (.newarray .int, 2) := by decide +kernel
theorem dX0_init_25 : decode cX0_init 25 = .ok (.putfield 18, 3) := by decide +kernel
theorem dX0_init_28 : decode cX0_init 28 = .ok (.aload_n 0, 1) := by decide +kernel
theorem dX0_init_29 : decode cX0_init 29 = .ok (.bipush 30, 2) := by decide +kernel
theorem dX0_init_31 : decode cX0_init 31 = .ok (.newarray .int, 2) := by decide +kernel
theorem dX0_init_33 : decode cX0_init 33 = .ok (.putfield 21, 3) := by decide +kernel
theorem dX0_init_36 : decode cX0_init 36 = .ok (.aload_n 0, 1) := by decide +kernel
theorem dX0_init_37 : decode cX0_init 37 = .ok (.bipush 9, 2) := by decide +kernel
theorem dX0_init_39 : decode cX0_init 39 = .ok (.newarray .int, 2) := by decide +kernel
theorem dX0_init_41 : decode cX0_init 41 = .ok (.putfield 24, 3) := by decide +kernel
theorem dX0_init_44 : decode cX0_init 44 = .ok (.aload_n 0, 1) := by decide +kernel
theorem dX0_init_45 : decode cX0_init 45 = .ok (.aload_n 1, 1) := by decide +kernel
theorem dX0_init_46 : decode cX0_init 46 = .ok (.putfield 27, 3) := by decide +kernel
theorem dX0_init_49 : decode cX0_init 49 = .ok (.return_, 1) := by decide +kernel
theorem dX0_take_0 : decode cX0_take 0 = .ok (.aload_n 0, 1) := by decide +kernel
theorem dX0_take_1 : decode cX0_take 1 = .ok (.iload_n 1, 1) := by decide +kernel
theorem dX0_take_2 : decode cX0_take 2 = .ok (.putfield 31, 3) := by decide +kernel
theorem dX0_take_5 : decode cX0_take 5 = .ok (.aload_n 0, 1) := by decide +kernel
theorem dX0_take_6 : decode cX0_take 6 = .ok (.iload_n 2, 1) := by decide +kernel
theorem dX0_take_7 : decode cX0_take 7 = .ok (.invokestatic 35, 3) := by decide +kernel
theorem dX0_take_10 : decode cX0_take 10 = .ok (.putfield 39, 3) := by decide +kernel
theorem dX0_take_13 : decode cX0_take 13 = .ok (.iload_n 2, 1) := by decide +kernel
theorem dX0_take_14 : decode cX0_take 14 = .ok (.istore_n 3, 1) := by decide +kernel
theorem dX0_take_15 : decode cX0_take 15 = .ok (.iconst 0, 1) := by decide +kernel
theorem dX0_take_16 : decode cX0_take 16 = .ok (.istore 4, 2) := by decide +kernel
theorem dX0_take_18 : decode cX0_take 18 = .ok (.iload 4, 2) := by decide +kernel
theorem dX0_take_20 : decode cX0_take 20 = .ok (.aload_n 0, 1) := by decide +kernel
theorem dX0_take_21 : decode cX0_take 21 = .ok (.getfield 39, 3) := by decide +kernel
theorem dX0_take_24 : decode cX0_take 24 = .ok (.if_icmp .ge 45, 3) := by decide +kernel
theorem dX0_take_27 : decode cX0_take 27 = .ok (.aload_n 0, 1) := by decide +kernel
theorem dX0_take_28 : decode cX0_take 28 = .ok (.getfield 11, 3) := by decide +kernel
theorem dX0_take_31 : decode cX0_take 31 = .ok (.aload_n 0, 1) := by decide +kernel
theorem dX0_take_32 : decode cX0_take 32 = .ok (.getfield 31, 3) := by decide +kernel
theorem dX0_take_35 : decode cX0_take 35 = .ok (.iconst 3, 1) := by decide +kernel
theorem dX0_take_36 : decode cX0_take 36 = .ok (.if_icmp .ne 8, 3) := by decide +kernel
theorem dX0_take_39 : decode cX0_take 39 = .ok (.iload 4, 2) := by decide +kernel
theorem dX0_take_41 : decode cX0_take 41 = .ok (.goto 12, 3) := by decide +kernel
theorem dX0_take_44 : decode cX0_take 44 = .ok (.aload_n 0, 1) := by decide +kernel
theorem dX0_take_45 : decode cX0_take 45 = .ok (.getfield 39, 3) := by decide +kernel
theorem dX0_take_48 : decode cX0_take 48 = .ok (.iconst 1, 1) := by decide +kernel
theorem dX0_take_49 : decode cX0_take 49 = .ok (.isub, 1) := by decide +kernel
theorem dX0_take_50 : decode cX0_take 50 = .ok (.iload 4, 2) := by decide +kernel
theorem dX0_take_52 : decode cX0_take 52 = .ok (.isub, 1) := by decide +kernel
theorem dX0_take_53 : decode cX0_take 53 = .ok (.iload_n 3, 1) := by decide +kernel
theorem dX0_take_54 : decode cX0_take 54 = .ok (.bipush 6, 2) := by decide +kernel
theorem dX0_take_56 : decode cX0_take 56 = .ok (.irem, 1) := by decide +kernel
theorem dX0_take_57 : decode cX0_take 57 = .ok (.iastore, 1) := by decide +kernel
theorem dX0_take_58 : decode cX0_take 58 = .ok (.iload_n 3, 1) := by decide +kernel
theorem dX0_take_59 : decode cX0_take 59 = .ok (.bipush 6, 2) := by decide +kernel
theorem dX0_take_61 : decode cX0_take 61 = .ok (.idiv, 1) := by decide +kernel
theorem dX0_take_62 : decode cX0_take 62 = .ok (.istore_n 3, 1) := by decide +kernel
theorem dX0_take_63 : decode cX0_take 63 = .ok (.iinc 4 1, 3) := by decide +kernel
theorem dX0_take_66 : decode cX0_take 66 = .ok (.goto (-48), 3) := by decide +kernel
theorem dX0_take_69 : decode cX0_take 69 = .ok (.iconst 0, 1) := by decide +kernel
theorem dX0_take_70 : decode cX0_take 70 = .ok (.istore 4, 2) := by decide +kernel
theorem dX0_take_72 : decode cX0_take 72 = .ok (.iload 4, 2) := by decide +kernel
theorem dX0_take_74 : decode cX0_take 74 = .ok (.aload_n 0, 1) := by decide +kernel
theorem dX0_take_75 : decode cX0_take 75 = .ok (.getfield 39, 3) := by decide +kernel
theorem dX0_take_78 : decode cX0_take 78 = .ok (.if_icmp .ge 15, 3) := by decide +kernel
theorem dX0_take_81 : decode cX0_take 81 = .ok (.aload_n 0, 1) := by decide +kernel
theorem dX0_take_82 : decode cX0_take 82 = .ok (.iload 4, 2) := by decide +kernel
theorem dX0_take_84 : decode cX0_take 84 = .ok (.invokevirtual 42, 3) := by decide +kernel
theorem dX0_take_87 : decode cX0_take 87 = .ok (.iinc 4 1, 3) := by decide +kernel
theorem dX0_take_90 : decode cX0_take 90 = .ok (.goto (-18), 3) := by decide +kernel
theorem dX0_take_93 : decode cX0_take 93 = .ok (.return_, 1) := by decide +kernel
theorem dX0_fitWords_0 : decode cX0_fitWords 0 = .ok (.iconst 0, 1) := by decide +kernel
theorem dX0_fitWords_1 : decode cX0_fitWords 1 = .ok (.istore_n 2, 1) := by decide +kernel
theorem dX0_fitWords_2 : decode cX0_fitWords 2 = .ok (.iconst 0, 1) := by decide +kernel
theorem dX0_fitWords_3 : decode cX0_fitWords 3 = .ok (.istore_n 3, 1) := by decide +kernel
theorem dX0_fitWords_4 : decode cX0_fitWords 4 = .ok (.iload_n 3, 1) := by decide +kernel
theorem dX0_fitWords_5 : decode cX0_fitWords 5 = .ok (.iconst 3, 1) := by decide +kernel
theorem dX0_fitWords_6 : decode cX0_fitWords 6 = .ok (.if_icmp .ge 79, 3) := by decide +kernel
theorem dX0_fitWords_9 : decode cX0_fitWords 9 = .ok (.iload_n 1, 1) := by decide +kernel
theorem dX0_fitWords_10 : decode cX0_fitWords 10 = .ok (.iload_n 3, 1) := by decide +kernel
theorem dX0_fitWords_11 : decode cX0_fitWords 11 = .ok (.iadd, 1) := by decide +kernel
theorem dX0_fitWords_12 : decode cX0_fitWords 12 = .ok (.aload_n 0, 1) := by decide +kernel
theorem dX0_fitWords_13 : decode cX0_fitWords 13 = .ok (.getfield 39, 3) := by decide +kernel
theorem dX0_fitWords_16 : decode cX0_fitWords 16 = .ok (.if_icmp .ge 7, 3) := by decide +kernel
theorem dX0_fitWords_19 : decode cX0_fitWords 19 = .ok (.iconst 1, 1) := by decide +kernel
theorem dX0_fitWords_20 : decode cX0_fitWords 20 = .ok (.goto 4, 3) := by decide +kernel
theorem dX0_fitWords_23 : decode cX0_fitWords 23 = .ok (.iconst 0, 1) := by decide +kernel
theorem dX0_fitWords_24 : decode cX0_fitWords 24 = .ok (.istore 4, 2) := by decide +kernel
theorem dX0_fitWords_26 : decode cX0_fitWords 26 = .ok (.iload 4, 2) := by decide +kernel
theorem dX0_fitWords_28 : decode cX0_fitWords 28 = .ok (.ifCond .eq 19, 3) := by decide +kernel
theorem dX0_fitWords_31 : decode cX0_fitWords 31 = .ok (.iload_n 2, 1) := by decide +kernel
theorem dX0_fitWords_32 : decode cX0_fitWords 32 = .ok (.bipush 6, 2) := by decide +kernel
theorem dX0_fitWords_34 : decode cX0_fitWords 34 = .ok (.imul, 1) := by decide +kernel
theorem dX0_fitWords_35 : decode cX0_fitWords 35 = .ok (.aload_n 0, 1) := by decide +kernel
theorem dX0_fitWords_36 : decode cX0_fitWords 36 = .ok (.getfield 11, 3) := by decide +kernel
theorem dX0_fitWords_39 : decode cX0_fitWords 39 = .ok (.iload_n 1, 1) := by decide +kernel
theorem dX0_fitWords_40 : decode cX0_fitWords 40 = .ok (.iload_n 3, 1) := by decide +kernel
theorem dX0_fitWords_41 : decode cX0_fitWords 41 = .ok (.iadd, 1) := by decide +kernel
theorem dX0_fitWords_42 : decode cX0_fitWords 42 = .ok (.iaload, 1) := by decide +kernel
theorem dX0_fitWords_43 : decode cX0_fitWords 43 = .ok (.iadd, 1) := by decide +kernel
theorem dX0_fitWords_44 : decode cX0_fitWords 44 = .ok (.goto 4, 3) := by decide +kernel
theorem dX0_fitWords_47 : decode cX0_fitWords 47 = .ok (.iconst 0, 1) := by decide +kernel
theorem dX0_fitWords_48 : decode cX0_fitWords 48 = .ok (.istore_n 2, 1) := by decide +kernel
theorem dX0_fitWords_49 : decode cX0_fitWords 49 = .ok (.aload_n 0, 1) := by decide +kernel
theorem dX0_fitWords_50 : decode cX0_fitWords 50 = .ok (.getfield 15, 3) := by decide +kernel
theorem dX0_fitWords_53 : decode cX0_fitWords 53 = .ok (.iload_n 1, 1) := by decide +kernel
theorem dX0_fitWords_54 : decode cX0_fitWords 54 = .ok (.iconst 3, 1) := by decide +kernel
theorem dX0_fitWords_55 : decode cX0_fitWords 55 = .ok (.imul, 1) := by decide +kernel
theorem dX0_fitWords_56 : decode cX0_fitWords 56 = .ok (.iload_n 3, 1) := by decide +kernel
theorem dX0_fitWords_57 : decode cX0_fitWords 57 = .ok (.iadd, 1) := by decide +kernel
theorem dX0_fitWords_58 : decode cX0_fitWords 58 = .ok (.iload_n 2, 1) := by decide +kernel
theorem dX0_fitWords_59 : decode cX0_fitWords 59 = .ok (.sipush 216, 3) := by decide +kernel
theorem dX0_fitWords_62 : decode cX0_fitWords 62 = .ok (.if_icmp .ge 15, 3) := by decide +kernel
theorem dX0_fitWords_65 : decode cX0_fitWords 65 = .ok (.aload_n 0, 1) := by decide +kernel
theorem dX0_fitWords_66 : decode cX0_fitWords 66 = .ok (.getfield 27, 3) := by decide +kernel
theorem dX0_fitWords_69 : decode cX0_fitWords 69 = .ok (.getfield 46, 3) := by decide +kernel
theorem dX0_fitWords_72 : decode cX0_fitWords 72 = .ok (.iload_n 2, 1) := by decide +kernel
theorem dX0_fitWords_73 : decode cX0_fitWords 73 = .ok (.iaload, 1) := by decide +kernel
theorem dX0_fitWords_74 : decode cX0_fitWords 74 = .ok (.goto 4, 3) := by decide +kernel
theorem dX0_fitWords_77 : decode cX0_fitWords 77 = .ok (.iconst 0, 1) := by decide +kernel
theorem dX0_fitWords_78 : decode cX0_fitWords 78 = .ok (.iastore, 1) := by decide +kernel
theorem dX0_fitWords_79 : decode cX0_fitWords 79 = .ok (.iinc 3 1, 3) := by decide +kernel
theorem dX0_fitWords_82 : decode cX0_fitWords 82 = .ok (.goto (-78), 3) := by decide +kernel
theorem dX0_fitWords_85 : decode cX0_fitWords 85 = .ok (.return_, 1) := by decide +kernel
theorem dX0_tally_0 : decode cX0_tally 0 = .ok (.aload_n 0, 1) := by decide +kernel
theorem dX0_tally_1 : decode cX0_tally 1 = .ok (.iload_n 1, 1) := by decide +kernel
theorem dX0_tally_2 : decode cX0_tally 2 = .ok (.putfield 51, 3) := by decide +kernel
theorem dX0_tally_5 : decode cX0_tally 5 = .ok (.iconst 0, 1) := by decide +kernel
theorem dX0_tally_6 : decode cX0_tally 6 = .ok (.istore_n 2, 1) := by decide +kernel
theorem dX0_tally_7 : decode cX0_tally 7 = .ok (.iload_n 2, 1) := by decide +kernel
theorem dX0_tally_8 : decode cX0_tally 8 = .ok (.iconst 3, 1) := by decide +kernel
theorem dX0_tally_9 : decode cX0_tally 9 = .ok (.if_icmp .ge 35, 3) := by decide +kernel
theorem dX0_tally_12 : decode cX0_tally 12 = .ok (.aload_n 0, 1) := by decide +kernel
theorem dX0_tally_13 : decode cX0_tally 13 = .ok (.getfield 18, 3) := by decide +kernel
theorem dX0_tally_16 : decode cX0_tally 16 = .ok (.aload_n 0, 1) := by decide +kernel
theorem dX0_tally_17 : decode cX0_tally 17 = .ok (.getfield 39, 3) := by decide +kernel
theorem dX0_tally_20 : decode cX0_tally 20 = .ok (.iconst 3, 1) := by decide +kernel
theorem dX0_tally_21 : decode cX0_tally 21 = .ok (.imul, 1) := by decide +kernel
theorem dX0_tally_22 : decode cX0_tally 22 = .ok (.iload_n 2, 1) := by decide +kernel
theorem dX0_tally_23 : decode cX0_tally 23 = .ok (.iadd, 1) := by decide +kernel
theorem dX0_tally_24 : decode cX0_tally 24 = .ok (.aload_n 0, 1) := by decide +kernel
theorem dX0_tally_25 : decode cX0_tally 25 = .ok (.iload_n 2, 1) := by decide +kernel
theorem dX0_tally_26 : decode cX0_tally 26 = .ok (.invokevirtual 54, 3) := by decide +kernel
theorem dX0_tally_29 : decode cX0_tally 29 = .ok (.ifCond .eq 7, 3) := by decide +kernel
theorem dX0_tally_32 : decode cX0_tally 32 = .ok (.iconst 1, 1) := by decide +kernel
theorem dX0_tally_33 : decode cX0_tally 33 = .ok (.goto 4, 3) := by decide +kernel
theorem dX0_tally_36 : decode cX0_tally 36 = .ok (.iconst 0, 1) := by decide +kernel
theorem dX0_tally_37 : decode cX0_tally 37 = .ok (.iastore, 1) := by decide +kernel
theorem dX0_tally_38 : decode cX0_tally 38 = .ok (.iinc 2 1, 3) := by decide +kernel
theorem dX0_tally_41 : decode cX0_tally 41 = .ok (.goto (-34), 3) := by decide +kernel
theorem dX0_tally_44 : decode cX0_tally 44 = .ok (.aload_n 0, 1) := by decide +kernel
theorem dX0_tally_45 : decode cX0_tally 45 = .ok (.getfield 39, 3) := by decide +kernel
theorem dX0_tally_48 : decode cX0_tally 48 = .ok (.iconst 1, 1) := by decide +kernel
theorem dX0_tally_49 : decode cX0_tally 49 = .ok (.isub, 1) := by decide +kernel
theorem dX0_tally_50 : decode cX0_tally 50 = .ok (.istore_n 2, 1) := by decide +kernel
theorem dX0_tally_51 : decode cX0_tally 51 = .ok (.iload_n 2, 1) := by decide +kernel
theorem dX0_tally_52 : decode cX0_tally 52 = .ok (.ifCond .lt 14, 3) := by decide +kernel
theorem dX0_tally_55 : decode cX0_tally 55 = .ok (.aload_n 0, 1) := by decide +kernel
theorem dX0_tally_56 : decode cX0_tally 56 = .ok (.iload_n 2, 1) := by decide +kernel
theorem dX0_tally_57 : decode cX0_tally 57 = .ok (.invokevirtual 58, 3) := by decide +kernel
theorem dX0_tally_60 : decode cX0_tally 60 = .ok (.iinc 2 (-1), 3) := by decide +kernel
theorem dX0_tally_63 : decode cX0_tally 63 = .ok (.goto (-12), 3) := by decide +kernel
theorem dX0_tally_66 : decode cX0_tally 66 = .ok (.aload_n 0, 1) := by decide +kernel
theorem dX0_tally_67 : decode cX0_tally 67 = .ok (.getfield 39, 3) := by decide +kernel
theorem dX0_tally_70 : decode cX0_tally 70 = .ok (.ifCond .ne 7, 3) := by decide +kernel
theorem dX0_tally_73 : decode cX0_tally 73 = .ok (.iconst 0, 1) := by decide +kernel
theorem dX0_tally_74 : decode cX0_tally 74 = .ok (.goto 9, 3) := by decide +kernel
theorem dX0_tally_77 : decode cX0_tally 77 = .ok (.aload_n 0, 1) := by decide +kernel
theorem dX0_tally_78 : decode cX0_tally 78 = .ok (.getfield 18, 3) := by decide +kernel
theorem dX0_tally_81 : decode cX0_tally 81 = .ok (.iconst 0, 1) := by decide +kernel
theorem dX0_tally_82 : decode cX0_tally 82 = .ok (.iaload, 1) := by decide +kernel
theorem dX0_tally_83 : decode cX0_tally 83 = .ok (.ireturn, 1) := by decide +kernel
theorem dX0_tallyFrom_0 : decode cX0_tallyFrom 0 = .ok (.iconst 0, 1) := by decide +kernel
theorem dX0_tallyFrom_1 : decode cX0_tallyFrom 1 = .ok (.istore_n 2, 1) := by decide +kernel
theorem dX0_tallyFrom_2 : decode cX0_tallyFrom 2 = .ok (.iconst 0, 1) := by decide +kernel
theorem dX0_tallyFrom_3 : decode cX0_tallyFrom 3 = .ok (.istore_n 3, 1) := by decide +kernel
theorem dX0_tallyFrom_4 : decode cX0_tallyFrom 4 = .ok (.iconst 0, 1) := by decide +kernel
theorem dX0_tallyFrom_5 : decode cX0_tallyFrom 5 = .ok (.istore 4, 2) := by decide +kernel
theorem dX0_tallyFrom_7 : decode cX0_tallyFrom 7 = .ok (.iconst 0, 1) := by decide +kernel
theorem dX0_tallyFrom_8 : decode cX0_tallyFrom 8 = .ok (.istore 5, 2) := by decide +kernel
theorem dX0_tallyFrom_10 : decode cX0_tallyFrom 10 = .ok (.iload 5, 2) := by decide +kernel
theorem dX0_tallyFrom_12 : decode cX0_tallyFrom 12 = .ok (.iconst 3, 1) := by decide +kernel
theorem dX0_tallyFrom_13 : decode cX0_tallyFrom 13 = .ok (.if_icmp .ge 128, 3) := by decide +kernel
theorem dX0_tallyFrom_16 : decode cX0_tallyFrom 16 = .ok (.iload_n 1, 1) := by decide +kernel
theorem dX0_tallyFrom_17 : decode cX0_tallyFrom 17 = .ok (.iload 5, 2) := by decide +kernel
theorem dX0_tallyFrom_19 : decode cX0_tallyFrom 19 = .ok (.iadd, 1) := by decide +kernel
theorem dX0_tallyFrom_20 : decode cX0_tallyFrom 20 = .ok (.aload_n 0, 1) := by decide +kernel
theorem dX0_tallyFrom_21 : decode cX0_tallyFrom 21 = .ok (.getfield 39, 3) := by decide +kernel
theorem dX0_tallyFrom_24 : decode cX0_tallyFrom 24 = .ok (.if_icmp .ge 117, 3) := by decide +kernel
theorem dX0_tallyFrom_27 : decode cX0_tallyFrom 27 = .ok (.aload_n 0, 1) := by decide +kernel
theorem dX0_tallyFrom_28 : decode cX0_tallyFrom 28 = .ok (.getfield 15, 3) := by decide +kernel
theorem dX0_tallyFrom_31 : decode cX0_tallyFrom 31 = .ok (.iload_n 1, 1) := by decide +kernel
theorem dX0_tallyFrom_32 : decode cX0_tallyFrom 32 = .ok (.iconst 3, 1) := by decide +kernel
theorem dX0_tallyFrom_33 : decode cX0_tallyFrom 33 = .ok (.imul, 1) := by decide +kernel
theorem dX0_tallyFrom_34 : decode cX0_tallyFrom 34 = .ok (.iload 5, 2) := by decide +kernel
theorem dX0_tallyFrom_36 : decode cX0_tallyFrom 36 = .ok (.iadd, 1) := by decide +kernel
theorem dX0_tallyFrom_37 : decode cX0_tallyFrom 37 = .ok (.iaload, 1) := by decide +kernel
theorem dX0_tallyFrom_38 : decode cX0_tallyFrom 38 = .ok (.aload_n 0, 1) := by decide +kernel
theorem dX0_tallyFrom_39 : decode cX0_tallyFrom 39 = .ok (.getfield 51, 3) := by decide +kernel
theorem dX0_tallyFrom_42 : decode cX0_tallyFrom 42 = .ok (.iand, 1) := by decide +kernel
theorem dX0_tallyFrom_43 : decode cX0_tallyFrom 43 = .ok (.istore 6, 2) := by decide +kernel
theorem dX0_tallyFrom_45 : decode cX0_tallyFrom 45 = .ok (.iload_n 1, 1) := by decide +kernel
theorem dX0_tallyFrom_46 : decode cX0_tallyFrom 46 = .ok (.iload 5, 2) := by decide +kernel
theorem dX0_tallyFrom_48 : decode cX0_tallyFrom 48 = .ok (.iadd, 1) := by decide +kernel
theorem dX0_tallyFrom_49 : decode cX0_tallyFrom 49 = .ok (.iconst 1, 1) := by decide +kernel
theorem dX0_tallyFrom_50 : decode cX0_tallyFrom 50 = .ok (.iadd, 1) := by decide +kernel
theorem dX0_tallyFrom_51 : decode cX0_tallyFrom 51 = .ok (.iconst 3, 1) := by decide +kernel
theorem dX0_tallyFrom_52 : decode cX0_tallyFrom 52 = .ok (.imul, 1) := by decide +kernel
theorem dX0_tallyFrom_53 : decode cX0_tallyFrom 53 = .ok (.istore 7, 2) := by decide +kernel
theorem dX0_tallyFrom_55 : decode cX0_tallyFrom 55 = .ok (.iload 6, 2) := by decide +kernel
theorem dX0_tallyFrom_57 : decode cX0_tallyFrom 57 = .ok (.sipush 21845, 3) := by decide +kernel
theorem dX0_tallyFrom_60 : decode cX0_tallyFrom 60 = .ok (.iand, 1) := by decide +kernel
theorem dX0_tallyFrom_61 : decode cX0_tallyFrom 61 = .ok (.ifCond .eq 41, 3) := by decide +kernel
theorem dX0_tallyFrom_64 : decode cX0_tallyFrom 64 = .ok (.iload_n 2, 1) := by decide +kernel
theorem dX0_tallyFrom_65 : decode cX0_tallyFrom 65 = .ok (.aload_n 0, 1) := by decide +kernel
theorem dX0_tallyFrom_66 : decode cX0_tallyFrom 66 = .ok (.getfield 18, 3) := by decide +kernel
theorem dX0_tallyFrom_69 : decode cX0_tallyFrom 69 = .ok (.iload 7, 2) := by decide +kernel
theorem dX0_tallyFrom_71 : decode cX0_tallyFrom 71 = .ok (.iconst 0, 1) := by decide +kernel
theorem dX0_tallyFrom_72 : decode cX0_tallyFrom 72 = .ok (.iadd, 1) := by decide +kernel
theorem dX0_tallyFrom_73 : decode cX0_tallyFrom 73 = .ok (.iaload, 1) := by decide +kernel
theorem dX0_tallyFrom_74 : decode cX0_tallyFrom 74 = .ok (.iadd, 1) := by decide +kernel
theorem dX0_tallyFrom_75 : decode cX0_tallyFrom 75 = .ok (.istore_n 2, 1) := by decide +kernel
theorem dX0_tallyFrom_76 : decode cX0_tallyFrom 76 = .ok (.iload_n 3, 1) := by decide +kernel
theorem dX0_tallyFrom_77 : decode cX0_tallyFrom 77 = .ok (.aload_n 0, 1) := by decide +kernel
theorem dX0_tallyFrom_78 : decode cX0_tallyFrom 78 = .ok (.getfield 18, 3) := by decide +kernel
theorem dX0_tallyFrom_81 : decode cX0_tallyFrom 81 = .ok (.iload 7, 2) := by decide +kernel
theorem dX0_tallyFrom_83 : decode cX0_tallyFrom 83 = .ok (.iconst 1, 1) := by decide +kernel
theorem dX0_tallyFrom_84 : decode cX0_tallyFrom 84 = .ok (.iadd, 1) := by decide +kernel
theorem dX0_tallyFrom_85 : decode cX0_tallyFrom 85 = .ok (.iaload, 1) := by decide +kernel
theorem dX0_tallyFrom_86 : decode cX0_tallyFrom 86 = .ok (.iadd, 1) := by decide +kernel
theorem dX0_tallyFrom_87 : decode cX0_tallyFrom 87 = .ok (.istore_n 3, 1) := by decide +kernel
theorem dX0_tallyFrom_88 : decode cX0_tallyFrom 88 = .ok (.iload 4, 2) := by decide +kernel
theorem dX0_tallyFrom_90 : decode cX0_tallyFrom 90 = .ok (.aload_n 0, 1) := by decide +kernel
theorem dX0_tallyFrom_91 : decode cX0_tallyFrom 91 = .ok (.getfield 18, 3) := by decide +kernel
theorem dX0_tallyFrom_94 : decode cX0_tallyFrom 94 = .ok (.iload 7, 2) := by decide +kernel
theorem dX0_tallyFrom_96 : decode cX0_tallyFrom 96 = .ok (.iconst 1, 1) := by decide +kernel
theorem dX0_tallyFrom_97 : decode cX0_tallyFrom 97 = .ok (.iadd, 1) := by decide +kernel
theorem dX0_tallyFrom_98 : decode cX0_tallyFrom 98 = .ok (.iaload, 1) := by decide +kernel
theorem dX0_tallyFrom_99 : decode cX0_tallyFrom 99 = .ok (.iadd, 1) := by decide +kernel
theorem dX0_tallyFrom_100 : decode cX0_tallyFrom 100 = .ok (.istore 4, 2) := by decide +kernel
theorem dX0_tallyFrom_102 : decode cX0_tallyFrom 102 = .ok (.iload 6, 2) := by decide +kernel
theorem dX0_tallyFrom_104 : decode cX0_tallyFrom 104 = .ok (.sipush (-21846), 3) := by decide +kernel
theorem dX0_tallyFrom_107 : decode cX0_tallyFrom 107 = .ok (.iand, 1) := by decide +kernel
theorem dX0_tallyFrom_108 : decode cX0_tallyFrom 108 = .ok (.ifCond .eq 27, 3) := by decide +kernel
theorem dX0_tallyFrom_111 : decode cX0_tallyFrom 111 = .ok (.iload_n 2, 1) := by decide +kernel
theorem dX0_tallyFrom_112 : decode cX0_tallyFrom 112 = .ok (.aload_n 0, 1) := by decide +kernel
theorem dX0_tallyFrom_113 : decode cX0_tallyFrom 113 = .ok (.getfield 18, 3) := by decide +kernel
theorem dX0_tallyFrom_116 : decode cX0_tallyFrom 116 = .ok (.iload 7, 2) := by decide +kernel
theorem dX0_tallyFrom_118 : decode cX0_tallyFrom 118 = .ok (.iconst 2, 1) := by decide +kernel
theorem dX0_tallyFrom_119 : decode cX0_tallyFrom 119 = .ok (.iadd, 1) := by decide +kernel
theorem dX0_tallyFrom_120 : decode cX0_tallyFrom 120 = .ok (.iaload, 1) := by decide +kernel
theorem dX0_tallyFrom_121 : decode cX0_tallyFrom 121 = .ok (.iadd, 1) := by decide +kernel
theorem dX0_tallyFrom_122 : decode cX0_tallyFrom 122 = .ok (.istore_n 2, 1) := by decide +kernel
theorem dX0_tallyFrom_123 : decode cX0_tallyFrom 123 = .ok (.iload_n 3, 1) := by decide +kernel
theorem dX0_tallyFrom_124 : decode cX0_tallyFrom 124 = .ok (.aload_n 0, 1) := by decide +kernel
theorem dX0_tallyFrom_125 : decode cX0_tallyFrom 125 = .ok (.getfield 18, 3) := by decide +kernel
theorem dX0_tallyFrom_128 : decode cX0_tallyFrom 128 = .ok (.iload 7, 2) := by decide +kernel
theorem dX0_tallyFrom_130 : decode cX0_tallyFrom 130 = .ok (.iconst 2, 1) := by decide +kernel
theorem dX0_tallyFrom_131 : decode cX0_tallyFrom 131 = .ok (.iadd, 1) := by decide +kernel
theorem dX0_tallyFrom_132 : decode cX0_tallyFrom 132 = .ok (.iaload, 1) := by decide +kernel
theorem dX0_tallyFrom_133 : decode cX0_tallyFrom 133 = .ok (.iadd, 1) := by decide +kernel
theorem dX0_tallyFrom_134 : decode cX0_tallyFrom 134 = .ok (.istore_n 3, 1) := by decide +kernel
theorem dX0_tallyFrom_135 : decode cX0_tallyFrom 135 = .ok (.iinc 5 1, 3) := by decide +kernel
theorem dX0_tallyFrom_138 : decode cX0_tallyFrom 138 = .ok (.goto (-128), 3) := by decide +kernel
theorem dX0_tallyFrom_141 : decode cX0_tallyFrom 141 = .ok (.aload_n 0, 1) := by decide +kernel
theorem dX0_tallyFrom_142 : decode cX0_tallyFrom 142 = .ok (.getfield 18, 3) := by decide +kernel
theorem dX0_tallyFrom_145 : decode cX0_tallyFrom 145 = .ok (.iload_n 1, 1) := by decide +kernel
theorem dX0_tallyFrom_146 : decode cX0_tallyFrom 146 = .ok (.iconst 3, 1) := by decide +kernel
theorem dX0_tallyFrom_147 : decode cX0_tallyFrom 147 = .ok (.imul, 1) := by decide +kernel
theorem dX0_tallyFrom_148 : decode cX0_tallyFrom 148 = .ok (.iconst 0, 1) := by decide +kernel
theorem dX0_tallyFrom_149 : decode cX0_tallyFrom 149 = .ok (.iadd, 1) := by decide +kernel
theorem dX0_tallyFrom_150 : decode cX0_tallyFrom 150 = .ok (.iload_n 2, 1) := by decide +kernel
theorem dX0_tallyFrom_151 : decode cX0_tallyFrom 151 = .ok (.iastore, 1) := by decide +kernel
theorem dX0_tallyFrom_152 : decode cX0_tallyFrom 152 = .ok (.aload_n 0, 1) := by decide +kernel
theorem dX0_tallyFrom_153 : decode cX0_tallyFrom 153 = .ok (.getfield 18, 3) := by decide +kernel
theorem dX0_tallyFrom_156 : decode cX0_tallyFrom 156 = .ok (.iload_n 1, 1) := by decide +kernel
theorem dX0_tallyFrom_157 : decode cX0_tallyFrom 157 = .ok (.iconst 3, 1) := by decide +kernel
theorem dX0_tallyFrom_158 : decode cX0_tallyFrom 158 = .ok (.imul, 1) := by decide +kernel
theorem dX0_tallyFrom_159 : decode cX0_tallyFrom 159 = .ok (.iconst 1, 1) := by decide +kernel
theorem dX0_tallyFrom_160 : decode cX0_tallyFrom 160 = .ok (.iadd, 1) := by decide +kernel
theorem dX0_tallyFrom_161 : decode cX0_tallyFrom 161 = .ok (.iload_n 3, 1) := by decide +kernel
theorem dX0_tallyFrom_162 : decode cX0_tallyFrom 162 = .ok (.iastore, 1) := by decide +kernel
theorem dX0_tallyFrom_163 : decode cX0_tallyFrom 163 = .ok (.aload_n 0, 1) := by decide +kernel
theorem dX0_tallyFrom_164 : decode cX0_tallyFrom 164 = .ok (.getfield 18, 3) := by decide +kernel
theorem dX0_tallyFrom_167 : decode cX0_tallyFrom 167 = .ok (.iload_n 1, 1) := by decide +kernel
theorem dX0_tallyFrom_168 : decode cX0_tallyFrom 168 = .ok (.iconst 3, 1) := by decide +kernel
theorem dX0_tallyFrom_169 : decode cX0_tallyFrom 169 = .ok (.imul, 1) := by decide +kernel
theorem dX0_tallyFrom_170 : decode cX0_tallyFrom 170 = .ok (.iconst 2, 1) := by decide +kernel
theorem dX0_tallyFrom_171 : decode cX0_tallyFrom 171 = .ok (.iadd, 1) := by decide +kernel
theorem dX0_tallyFrom_172 : decode cX0_tallyFrom 172 = .ok (.iload 4, 2) := by decide +kernel
theorem dX0_tallyFrom_174 : decode cX0_tallyFrom 174 = .ok (.iastore, 1) := by decide +kernel
theorem dX0_tallyFrom_175 : decode cX0_tallyFrom 175 = .ok (.return_, 1) := by decide +kernel
theorem dX0_mayEndAt_0 : decode cX0_mayEndAt 0 = .ok (.aload_n 0, 1) := by decide +kernel
theorem dX0_mayEndAt_1 : decode cX0_mayEndAt 1 = .ok (.getfield 31, 3) := by decide +kernel
theorem dX0_mayEndAt_4 : decode cX0_mayEndAt 4 = .ok (.tableswitch 63 1 4 #[32, 42, 63, 52], 32) := by decide +kernel
theorem dX0_mayEndAt_36 : decode cX0_mayEndAt 36 = .ok (.iload_n 1, 1) := by decide +kernel
theorem dX0_mayEndAt_37 : decode cX0_mayEndAt 37 = .ok (.ifCond .ne 7, 3) := by decide +kernel
theorem dX0_mayEndAt_40 : decode cX0_mayEndAt 40 = .ok (.iconst 1, 1) := by decide +kernel
theorem dX0_mayEndAt_41 : decode cX0_mayEndAt 41 = .ok (.goto 4, 3) := by decide +kernel
theorem dX0_mayEndAt_44 : decode cX0_mayEndAt 44 = .ok (.iconst 0, 1) := by decide +kernel
theorem dX0_mayEndAt_45 : decode cX0_mayEndAt 45 = .ok (.ireturn, 1) := by decide +kernel
theorem dX0_mayEndAt_46 : decode cX0_mayEndAt 46 = .ok (.iload_n 1, 1) := by decide +kernel
theorem dX0_mayEndAt_47 : decode cX0_mayEndAt 47 = .ok (.ifCond .eq 7, 3) := by decide +kernel
theorem dX0_mayEndAt_50 : decode cX0_mayEndAt 50 = .ok (.iconst 1, 1) := by decide +kernel
theorem dX0_mayEndAt_51 : decode cX0_mayEndAt 51 = .ok (.goto 4, 3) := by decide +kernel
theorem dX0_mayEndAt_54 : decode cX0_mayEndAt 54 = .ok (.iconst 0, 1) := by decide +kernel
theorem dX0_mayEndAt_55 : decode cX0_mayEndAt 55 = .ok (.ireturn, 1) := by decide +kernel
theorem dX0_mayEndAt_56 : decode cX0_mayEndAt 56 = .ok (.iload_n 1, 1) := by decide +kernel
theorem dX0_mayEndAt_57 : decode cX0_mayEndAt 57 = .ok (.iconst 2, 1) := by decide +kernel
theorem dX0_mayEndAt_58 : decode cX0_mayEndAt 58 = .ok (.if_icmp .ne 7, 3) := by decide +kernel
theorem dX0_mayEndAt_61 : decode cX0_mayEndAt 61 = .ok (.iconst 1, 1) := by decide +kernel
theorem dX0_mayEndAt_62 : decode cX0_mayEndAt 62 = .ok (.goto 4, 3) := by decide +kernel
theorem dX0_mayEndAt_65 : decode cX0_mayEndAt 65 = .ok (.iconst 0, 1) := by decide +kernel
theorem dX0_mayEndAt_66 : decode cX0_mayEndAt 66 = .ok (.ireturn, 1) := by decide +kernel
theorem dX0_mayEndAt_67 : decode cX0_mayEndAt 67 = .ok (.iconst 1, 1) := by decide +kernel
theorem dX0_mayEndAt_68 : decode cX0_mayEndAt 68 = .ok (.ireturn, 1) := by decide +kernel
theorem dX0_openAt_0 : decode cX0_openAt 0 = .ok (.iload_n 1, 1) := by decide +kernel
theorem dX0_openAt_1 : decode cX0_openAt 1 = .ok (.iconst 3, 1) := by decide +kernel
theorem dX0_openAt_2 : decode cX0_openAt 2 = .ok (.idiv, 1) := by decide +kernel
theorem dX0_openAt_3 : decode cX0_openAt 3 = .ok (.iconst 3, 1) := by decide +kernel
theorem dX0_openAt_4 : decode cX0_openAt 4 = .ok (.imul, 1) := by decide +kernel
theorem dX0_openAt_5 : decode cX0_openAt 5 = .ok (.istore_n 2, 1) := by decide +kernel
theorem dX0_openAt_6 : decode cX0_openAt 6 = .ok (.aload_n 0, 1) := by decide +kernel
theorem dX0_openAt_7 : decode cX0_openAt 7 = .ok (.getfield 15, 3) := by decide +kernel
theorem dX0_openAt_10 : decode cX0_openAt 10 = .ok (.iload_n 2, 1) := by decide +kernel
theorem dX0_openAt_11 : decode cX0_openAt 11 = .ok (.iaload, 1) := by decide +kernel
theorem dX0_openAt_12 : decode cX0_openAt 12 = .ok (.aload_n 0, 1) := by decide +kernel
theorem dX0_openAt_13 : decode cX0_openAt 13 = .ok (.getfield 15, 3) := by decide +kernel
theorem dX0_openAt_16 : decode cX0_openAt 16 = .ok (.iload_n 2, 1) := by decide +kernel
theorem dX0_openAt_17 : decode cX0_openAt 17 = .ok (.iconst 1, 1) := by decide +kernel
theorem dX0_openAt_18 : decode cX0_openAt 18 = .ok (.iadd, 1) := by decide +kernel
theorem dX0_openAt_19 : decode cX0_openAt 19 = .ok (.iaload, 1) := by decide +kernel
theorem dX0_openAt_20 : decode cX0_openAt 20 = .ok (.ior, 1) := by decide +kernel
theorem dX0_openAt_21 : decode cX0_openAt 21 = .ok (.aload_n 0, 1) := by decide +kernel
theorem dX0_openAt_22 : decode cX0_openAt 22 = .ok (.getfield 15, 3) := by decide +kernel
theorem dX0_openAt_25 : decode cX0_openAt 25 = .ok (.iload_n 2, 1) := by decide +kernel
theorem dX0_openAt_26 : decode cX0_openAt 26 = .ok (.iconst 2, 1) := by decide +kernel
theorem dX0_openAt_27 : decode cX0_openAt 27 = .ok (.iadd, 1) := by decide +kernel
theorem dX0_openAt_28 : decode cX0_openAt 28 = .ok (.iaload, 1) := by decide +kernel
theorem dX0_openAt_29 : decode cX0_openAt 29 = .ok (.ior, 1) := by decide +kernel
theorem dX0_openAt_30 : decode cX0_openAt 30 = .ok (.aload_n 0, 1) := by decide +kernel
theorem dX0_openAt_31 : decode cX0_openAt 31 = .ok (.getfield 51, 3) := by decide +kernel
theorem dX0_openAt_34 : decode cX0_openAt 34 = .ok (.iand, 1) := by decide +kernel
theorem dX0_openAt_35 : decode cX0_openAt 35 = .ok (.istore_n 3, 1) := by decide +kernel
theorem dX0_openAt_36 : decode cX0_openAt 36 = .ok (.iload_n 1, 1) := by decide +kernel
theorem dX0_openAt_37 : decode cX0_openAt 37 = .ok (.iconst 3, 1) := by decide +kernel
theorem dX0_openAt_38 : decode cX0_openAt 38 = .ok (.irem, 1) := by decide +kernel
theorem dX0_openAt_39 : decode cX0_openAt 39 = .ok (.iconst 2, 1) := by decide +kernel
theorem dX0_openAt_40 : decode cX0_openAt 40 = .ok (.if_icmp .ne 11, 3) := by decide +kernel
theorem dX0_openAt_43 : decode cX0_openAt 43 = .ok (.iload_n 3, 1) := by decide +kernel
theorem dX0_openAt_44 : decode cX0_openAt 44 = .ok (.sipush 21845, 3) := by decide +kernel
theorem dX0_openAt_47 : decode cX0_openAt 47 = .ok (.iand, 1) := by decide +kernel
theorem dX0_openAt_48 : decode cX0_openAt 48 = .ok (.goto 4, 3) := by decide +kernel
theorem dX0_openAt_51 : decode cX0_openAt 51 = .ok (.iload_n 3, 1) := by decide +kernel
theorem dX0_openAt_52 : decode cX0_openAt 52 = .ok (.ireturn, 1) := by decide +kernel
theorem dX0_slotBehind_0 : decode cX0_slotBehind 0 = .ok (.iload_n 1, 1) := by decide +kernel
theorem dX0_slotBehind_1 : decode cX0_slotBehind 1 = .ok (.iconst 3, 1) := by decide +kernel
theorem dX0_slotBehind_2 : decode cX0_slotBehind 2 = .ok (.idiv, 1) := by decide +kernel
theorem dX0_slotBehind_3 : decode cX0_slotBehind 3 = .ok (.aload_n 0, 1) := by decide +kernel
theorem dX0_slotBehind_4 : decode cX0_slotBehind 4 = .ok (.getfield 27, 3) := by decide +kernel
theorem dX0_slotBehind_7 : decode cX0_slotBehind 7 = .ok (.getfield 61, 3) := by decide +kernel
theorem dX0_slotBehind_10 : decode cX0_slotBehind 10 = .ok (.iload_n 2, 1) := by decide +kernel
theorem dX0_slotBehind_11 : decode cX0_slotBehind 11 = .ok (.iconst 2, 1) := by decide +kernel
theorem dX0_slotBehind_12 : decode cX0_slotBehind 12 = .ok (.idiv, 1) := by decide +kernel
theorem dX0_slotBehind_13 : decode cX0_slotBehind 13 = .ok (.iaload, 1) := by decide +kernel
theorem dX0_slotBehind_14 : decode cX0_slotBehind 14 = .ok (.iadd, 1) := by decide +kernel
theorem dX0_slotBehind_15 : decode cX0_slotBehind 15 = .ok (.istore_n 3, 1) := by decide +kernel
theorem dX0_slotBehind_16 : decode cX0_slotBehind 16 = .ok (.iload_n 3, 1) := by decide +kernel
theorem dX0_slotBehind_17 : decode cX0_slotBehind 17 = .ok (.aload_n 0, 1) := by decide +kernel
theorem dX0_slotBehind_18 : decode cX0_slotBehind 18 = .ok (.getfield 39, 3) := by decide +kernel
theorem dX0_slotBehind_21 : decode cX0_slotBehind 21 = .ok (.if_icmp .le 5, 3) := by decide +kernel
theorem dX0_slotBehind_24 : decode cX0_slotBehind 24 = .ok (.iload_n 1, 1) := by decide +kernel
theorem dX0_slotBehind_25 : decode cX0_slotBehind 25 = .ok (.ireturn, 1) := by decide +kernel
theorem dX0_slotBehind_26 : decode cX0_slotBehind 26 = .ok (.iload_n 2, 1) := by decide +kernel
theorem dX0_slotBehind_27 : decode cX0_slotBehind 27 = .ok (.iconst 2, 1) := by decide +kernel
theorem dX0_slotBehind_28 : decode cX0_slotBehind 28 = .ok (.irem, 1) := by decide +kernel
theorem dX0_slotBehind_29 : decode cX0_slotBehind 29 = .ok (.iconst 1, 1) := by decide +kernel
theorem dX0_slotBehind_30 : decode cX0_slotBehind 30 = .ok (.if_icmp .ne 9, 3) := by decide +kernel
theorem dX0_slotBehind_33 : decode cX0_slotBehind 33 = .ok (.iload_n 3, 1) := by decide +kernel
theorem dX0_slotBehind_34 : decode cX0_slotBehind 34 = .ok (.iconst 3, 1) := by decide +kernel
theorem dX0_slotBehind_35 : decode cX0_slotBehind 35 = .ok (.imul, 1) := by decide +kernel
theorem dX0_slotBehind_36 : decode cX0_slotBehind 36 = .ok (.iconst 2, 1) := by decide +kernel
theorem dX0_slotBehind_37 : decode cX0_slotBehind 37 = .ok (.iadd, 1) := by decide +kernel
theorem dX0_slotBehind_38 : decode cX0_slotBehind 38 = .ok (.ireturn, 1) := by decide +kernel
theorem dX0_slotBehind_39 : decode cX0_slotBehind 39 = .ok (.iload_n 3, 1) := by decide +kernel
theorem dX0_slotBehind_40 : decode cX0_slotBehind 40 = .ok (.iconst 3, 1) := by decide +kernel
theorem dX0_slotBehind_41 : decode cX0_slotBehind 41 = .ok (.imul, 1) := by decide +kernel
theorem dX0_slotBehind_42 : decode cX0_slotBehind 42 = .ok (.iload_n 1, 1) := by decide +kernel
theorem dX0_slotBehind_43 : decode cX0_slotBehind 43 = .ok (.iconst 3, 1) := by decide +kernel
theorem dX0_slotBehind_44 : decode cX0_slotBehind 44 = .ok (.irem, 1) := by decide +kernel
theorem dX0_slotBehind_45 : decode cX0_slotBehind 45 = .ok (.ifCond .ne 7, 3) := by decide +kernel
theorem dX0_slotBehind_48 : decode cX0_slotBehind 48 = .ok (.iconst 0, 1) := by decide +kernel
theorem dX0_slotBehind_49 : decode cX0_slotBehind 49 = .ok (.goto 4, 3) := by decide +kernel
theorem dX0_slotBehind_52 : decode cX0_slotBehind 52 = .ok (.iconst 1, 1) := by decide +kernel
theorem dX0_slotBehind_53 : decode cX0_slotBehind 53 = .ok (.iadd, 1) := by decide +kernel
theorem dX0_slotBehind_54 : decode cX0_slotBehind 54 = .ok (.ireturn, 1) := by decide +kernel
theorem dX0_pick_0 : decode cX0_pick 0 = .ok (.aload_n 0, 1) := by decide +kernel
theorem dX0_pick_1 : decode cX0_pick 1 = .ok (.iconst 0, 1) := by decide +kernel
theorem dX0_pick_2 : decode cX0_pick 2 = .ok (.putfield 64, 3) := by decide +kernel
theorem dX0_pick_5 : decode cX0_pick 5 = .ok (.aload_n 0, 1) := by decide +kernel
theorem dX0_pick_6 : decode cX0_pick 6 = .ok (.iconst 0, 1) := by decide +kernel
theorem dX0_pick_7 : decode cX0_pick 7 = .ok (.putfield 67, 3) := by decide +kernel
theorem dX0_pick_10 : decode cX0_pick 10 = .ok (.aload_n 0, 1) := by decide +kernel
theorem dX0_pick_11 : decode cX0_pick 11 = .ok (.iconst 0, 1) := by decide +kernel
theorem dX0_pick_12 : decode cX0_pick 12 = .ok (.putfield 70, 3) := by decide +kernel
theorem dX0_pick_15 : decode cX0_pick 15 = .ok (.iconst 0, 1) := by decide +kernel
theorem dX0_pick_16 : decode cX0_pick 16 = .ok (.istore_n 2, 1) := by decide +kernel
theorem dX0_pick_17 : decode cX0_pick 17 = .ok (.iload_n 1, 1) := by decide +kernel
theorem dX0_pick_18 : decode cX0_pick 18 = .ok (.istore_n 3, 1) := by decide +kernel
theorem dX0_pick_19 : decode cX0_pick 19 = .ok (.iconst 0, 1) := by decide +kernel
theorem dX0_pick_20 : decode cX0_pick 20 = .ok (.istore 4, 2) := by decide +kernel
theorem dX0_pick_22 : decode cX0_pick 22 = .ok (.iload 4, 2) := by decide +kernel
theorem dX0_pick_24 : decode cX0_pick 24 = .ok (.bipush 9, 2) := by decide +kernel
theorem dX0_pick_26 : decode cX0_pick 26 = .ok (.if_icmp .ge 114, 3) := by decide +kernel
theorem dX0_pick_29 : decode cX0_pick 29 = .ok (.iload_n 2, 1) := by decide +kernel
theorem dX0_pick_30 : decode cX0_pick 30 = .ok (.aload_n 0, 1) := by decide +kernel
theorem dX0_pick_31 : decode cX0_pick 31 = .ok (.getfield 39, 3) := by decide +kernel
theorem dX0_pick_34 : decode cX0_pick 34 = .ok (.iconst 3, 1) := by decide +kernel
theorem dX0_pick_35 : decode cX0_pick 35 = .ok (.imul, 1) := by decide +kernel
theorem dX0_pick_36 : decode cX0_pick 36 = .ok (.if_icmp .ge 104, 3) := by decide +kernel
theorem dX0_pick_39 : decode cX0_pick 39 = .ok (.aload_n 0, 1) := by decide +kernel
theorem dX0_pick_40 : decode cX0_pick 40 = .ok (.iload_n 2, 1) := by decide +kernel
theorem dX0_pick_41 : decode cX0_pick 41 = .ok (.invokevirtual 73, 3) := by decide +kernel
theorem dX0_pick_44 : decode cX0_pick 44 = .ok (.istore 5, 2) := by decide +kernel
theorem dX0_pick_46 : decode cX0_pick 46 = .ok (.iconst 0, 1) := by decide +kernel
theorem dX0_pick_47 : decode cX0_pick 47 = .ok (.istore 6, 2) := by decide +kernel
theorem dX0_pick_49 : decode cX0_pick 49 = .ok (.iload 6, 2) := by decide +kernel
theorem dX0_pick_51 : decode cX0_pick 51 = .ok (.bipush 16, 2) := by decide +kernel
theorem dX0_pick_53 : decode cX0_pick 53 = .ok (.if_icmp .ge 81, 3) := by decide +kernel
theorem dX0_pick_56 : decode cX0_pick 56 = .ok (.iload 5, 2) := by decide +kernel
theorem dX0_pick_58 : decode cX0_pick 58 = .ok (.iload 6, 2) := by decide +kernel
theorem dX0_pick_60 : decode cX0_pick 60 = .ok (.invokestatic 76, 3) := by decide +kernel
theorem dX0_pick_63 : decode cX0_pick 63 = .ok (.ifCond .eq 13, 3) := by decide +kernel
theorem dX0_pick_66 : decode cX0_pick 66 = .ok (.aload_n 0, 1) := by decide +kernel
theorem dX0_pick_67 : decode cX0_pick 67 = .ok (.iload_n 2, 1) := by decide +kernel
theorem dX0_pick_68 : decode cX0_pick 68 = .ok (.iload 6, 2) := by decide +kernel
theorem dX0_pick_70 : decode cX0_pick 70 = .ok (.invokevirtual 80, 3) := by decide +kernel
theorem dX0_pick_73 : decode cX0_pick 73 = .ok (.goto 4, 3) := by decide +kernel
theorem dX0_pick_76 : decode cX0_pick 76 = .ok (.iload_n 2, 1) := by decide +kernel
theorem dX0_pick_77 : decode cX0_pick 77 = .ok (.istore 7, 2) := by decide +kernel
theorem dX0_pick_79 : decode cX0_pick 79 = .ok (.iload 7, 2) := by decide +kernel
theorem dX0_pick_81 : decode cX0_pick 81 = .ok (.iload_n 2, 1) := by decide +kernel
theorem dX0_pick_82 : decode cX0_pick 82 = .ok (.if_icmp .le 26, 3) := by decide +kernel
theorem dX0_pick_85 : decode cX0_pick 85 = .ok (.iload_n 3, 1) := by decide +kernel
theorem dX0_pick_86 : decode cX0_pick 86 = .ok (.aload_n 0, 1) := by decide +kernel
theorem dX0_pick_87 : decode cX0_pick 87 = .ok (.getfield 18, 3) := by decide +kernel
theorem dX0_pick_90 : decode cX0_pick 90 = .ok (.iload 7, 2) := by decide +kernel
theorem dX0_pick_92 : decode cX0_pick 92 = .ok (.iaload, 1) := by decide +kernel
theorem dX0_pick_93 : decode cX0_pick 93 = .ok (.if_icmp .ge 15, 3) := by decide +kernel
theorem dX0_pick_96 : decode cX0_pick 96 = .ok (.aload_n 0, 1) := by decide +kernel
theorem dX0_pick_97 : decode cX0_pick 97 = .ok (.iload 6, 2) := by decide +kernel
theorem dX0_pick_99 : decode cX0_pick 99 = .ok (.invokevirtual 84, 3) := by decide +kernel
theorem dX0_pick_102 : decode cX0_pick 102 = .ok (.iload 7, 2) := by decide +kernel
theorem dX0_pick_104 : decode cX0_pick 104 = .ok (.istore_n 2, 1) := by decide +kernel
theorem dX0_pick_105 : decode cX0_pick 105 = .ok (.goto 29, 3) := by decide +kernel
theorem dX0_pick_108 : decode cX0_pick 108 = .ok (.iload_n 3, 1) := by decide +kernel
theorem dX0_pick_109 : decode cX0_pick 109 = .ok (.iload 7, 2) := by decide +kernel
theorem dX0_pick_111 : decode cX0_pick 111 = .ok (.iload_n 2, 1) := by decide +kernel
theorem dX0_pick_112 : decode cX0_pick 112 = .ok (.if_icmp .le 13, 3) := by decide +kernel
theorem dX0_pick_115 : decode cX0_pick 115 = .ok (.aload_n 0, 1) := by decide +kernel
theorem dX0_pick_116 : decode cX0_pick 116 = .ok (.getfield 18, 3) := by decide +kernel
theorem dX0_pick_119 : decode cX0_pick 119 = .ok (.iload 7, 2) := by decide +kernel
theorem dX0_pick_121 : decode cX0_pick 121 = .ok (.iaload, 1) := by decide +kernel
theorem dX0_pick_122 : decode cX0_pick 122 = .ok (.goto 4, 3) := by decide +kernel
theorem dX0_pick_125 : decode cX0_pick 125 = .ok (.iconst 0, 1) := by decide +kernel
theorem dX0_pick_126 : decode cX0_pick 126 = .ok (.isub, 1) := by decide +kernel
theorem dX0_pick_127 : decode cX0_pick 127 = .ok (.istore_n 3, 1) := by decide +kernel
theorem dX0_pick_128 : decode cX0_pick 128 = .ok (.iinc 6 1, 3) := by decide +kernel
theorem dX0_pick_131 : decode cX0_pick 131 = .ok (.goto (-82), 3) := by decide +kernel
theorem dX0_pick_134 : decode cX0_pick 134 = .ok (.iinc 4 1, 3) := by decide +kernel
theorem dX0_pick_137 : decode cX0_pick 137 = .ok (.goto (-115), 3) := by decide +kernel
theorem dX0_pick_140 : decode cX0_pick 140 = .ok (.return_, 1) := by decide +kernel
theorem dX0_addWord_0 : decode cX0_addWord 0 = .ok (.aload_n 0, 1) := by decide +kernel
theorem dX0_addWord_1 : decode cX0_addWord 1 = .ok (.getfield 24, 3) := by decide +kernel
theorem dX0_addWord_4 : decode cX0_addWord 4 = .ok (.aload_n 0, 1) := by decide +kernel
theorem dX0_addWord_5 : decode cX0_addWord 5 = .ok (.getfield 64, 3) := by decide +kernel
theorem dX0_addWord_8 : decode cX0_addWord 8 = .ok (.iload_n 1, 1) := by decide +kernel
theorem dX0_addWord_9 : decode cX0_addWord 9 = .ok (.iastore, 1) := by decide +kernel
theorem dX0_addWord_10 : decode cX0_addWord 10 = .ok (.aload_n 0, 1) := by decide +kernel
theorem dX0_addWord_11 : decode cX0_addWord 11 = .ok (.dup, 1) := by decide +kernel
theorem dX0_addWord_12 : decode cX0_addWord 12 = .ok (.getfield 64, 3) := by decide +kernel
theorem dX0_addWord_15 : decode cX0_addWord 15 = .ok (.iconst 1, 1) := by decide +kernel
theorem dX0_addWord_16 : decode cX0_addWord 16 = .ok (.iadd, 1) := by decide +kernel
theorem dX0_addWord_17 : decode cX0_addWord 17 = .ok (.putfield 64, 3) := by decide +kernel
theorem dX0_addWord_20 : decode cX0_addWord 20 = .ok (.iload_n 1, 1) := by decide +kernel
theorem dX0_addWord_21 : decode cX0_addWord 21 = .ok (.iconst 2, 1) := by decide +kernel
theorem dX0_addWord_22 : decode cX0_addWord 22 = .ok (.irem, 1) := by decide +kernel
theorem dX0_addWord_23 : decode cX0_addWord 23 = .ok (.iconst 1, 1) := by decide +kernel
theorem dX0_addWord_24 : decode cX0_addWord 24 = .ok (.if_icmp .ne 28, 3) := by decide +kernel
theorem dX0_addWord_27 : decode cX0_addWord 27 = .ok (.aload_n 0, 1) := by decide +kernel
theorem dX0_addWord_28 : decode cX0_addWord 28 = .ok (.dup, 1) := by decide +kernel
theorem dX0_addWord_29 : decode cX0_addWord 29 = .ok (.getfield 70, 3) := by decide +kernel
theorem dX0_addWord_32 : decode cX0_addWord 32 = .ok (.iconst 1, 1) := by decide +kernel
theorem dX0_addWord_33 : decode cX0_addWord 33 = .ok (.aload_n 0, 1) := by decide +kernel
theorem dX0_addWord_34 : decode cX0_addWord 34 = .ok (.getfield 27, 3) := by decide +kernel
theorem dX0_addWord_37 : decode cX0_addWord 37 = .ok (.getfield 87, 3) := by decide +kernel
theorem dX0_addWord_40 : decode cX0_addWord 40 = .ok (.iload_n 1, 1) := by decide +kernel
theorem dX0_addWord_41 : decode cX0_addWord 41 = .ok (.iconst 2, 1) := by decide +kernel
theorem dX0_addWord_42 : decode cX0_addWord 42 = .ok (.idiv, 1) := by decide +kernel
theorem dX0_addWord_43 : decode cX0_addWord 43 = .ok (.iaload, 1) := by decide +kernel
theorem dX0_addWord_44 : decode cX0_addWord 44 = .ok (.ishl, 1) := by decide +kernel
theorem dX0_addWord_45 : decode cX0_addWord 45 = .ok (.ior, 1) := by decide +kernel
theorem dX0_addWord_46 : decode cX0_addWord 46 = .ok (.putfield 70, 3) := by decide +kernel
theorem dX0_addWord_49 : decode cX0_addWord 49 = .ok (.goto 23, 3) := by decide +kernel
theorem dX0_addWord_52 : decode cX0_addWord 52 = .ok (.aload_n 0, 1) := by decide +kernel
theorem dX0_addWord_53 : decode cX0_addWord 53 = .ok (.dup, 1) := by decide +kernel
theorem dX0_addWord_54 : decode cX0_addWord 54 = .ok (.getfield 67, 3) := by decide +kernel
theorem dX0_addWord_57 : decode cX0_addWord 57 = .ok (.aload_n 0, 1) := by decide +kernel
theorem dX0_addWord_58 : decode cX0_addWord 58 = .ok (.getfield 27, 3) := by decide +kernel
theorem dX0_addWord_61 : decode cX0_addWord 61 = .ok (.getfield 90, 3) := by decide +kernel
theorem dX0_addWord_64 : decode cX0_addWord 64 = .ok (.iload_n 1, 1) := by decide +kernel
theorem dX0_addWord_65 : decode cX0_addWord 65 = .ok (.iconst 2, 1) := by decide +kernel
theorem dX0_addWord_66 : decode cX0_addWord 66 = .ok (.idiv, 1) := by decide +kernel
theorem dX0_addWord_67 : decode cX0_addWord 67 = .ok (.iaload, 1) := by decide +kernel
theorem dX0_addWord_68 : decode cX0_addWord 68 = .ok (.iadd, 1) := by decide +kernel
theorem dX0_addWord_69 : decode cX0_addWord 69 = .ok (.putfield 67, 3) := by decide +kernel
theorem dX0_addWord_72 : decode cX0_addWord 72 = .ok (.return_, 1) := by decide +kernel
theorem dX0_told_0 : decode cX0_told 0 = .ok (.aload_n 0, 1) := by decide +kernel
theorem dX0_told_1 : decode cX0_told 1 = .ok (.getfield 31, 3) := by decide +kernel
theorem dX0_told_4 : decode cX0_told 4 = .ok (.iconst 3, 1) := by decide +kernel
theorem dX0_told_5 : decode cX0_told 5 = .ok (.if_icmp .ne 12, 3) := by decide +kernel
theorem dX0_told_8 : decode cX0_told 8 = .ok (.aload_n 0, 1) := by decide +kernel
theorem dX0_told_9 : decode cX0_told 9 = .ok (.getfield 18, 3) := by decide +kernel
theorem dX0_told_12 : decode cX0_told 12 = .ok (.iconst 0, 1) := by decide +kernel
theorem dX0_told_13 : decode cX0_told 13 = .ok (.iaload, 1) := by decide +kernel
theorem dX0_told_14 : decode cX0_told 14 = .ok (.iconst 1, 1) := by decide +kernel
theorem dX0_told_15 : decode cX0_told 15 = .ok (.isub, 1) := by decide +kernel
theorem dX0_told_16 : decode cX0_told 16 = .ok (.ireturn, 1) := by decide +kernel
theorem dX0_told_17 : decode cX0_told 17 = .ok (.aload_n 0, 1) := by decide +kernel
theorem dX0_told_18 : decode cX0_told 18 = .ok (.getfield 31, 3) := by decide +kernel
theorem dX0_told_21 : decode cX0_told 21 = .ok (.iconst 1, 1) := by decide +kernel
theorem dX0_told_22 : decode cX0_told 22 = .ok (.if_icmp .eq 13, 3) := by decide +kernel
theorem dX0_told_25 : decode cX0_told 25 = .ok (.aload_n 0, 1) := by decide +kernel
theorem dX0_told_26 : decode cX0_told 26 = .ok (.getfield 31, 3) := by decide +kernel
theorem dX0_told_29 : decode cX0_told 29 = .ok (.iconst 2, 1) := by decide +kernel
theorem dX0_told_30 : decode cX0_told 30 = .ok (.if_icmp .eq 5, 3) := by decide +kernel
theorem dX0_told_33 : decode cX0_told 33 = .ok (.iconst 0, 1) := by decide +kernel
theorem dX0_told_34 : decode cX0_told 34 = .ok (.ireturn, 1) := by decide +kernel
theorem dX0_told_35 : decode cX0_told 35 = .ok (.aload_n 0, 1) := by decide +kernel
theorem dX0_told_36 : decode cX0_told 36 = .ok (.invokevirtual 93, 3) := by decide +kernel
theorem dX0_told_39 : decode cX0_told 39 = .ok (.aload_n 0, 1) := by decide +kernel
theorem dX0_told_40 : decode cX0_told 40 = .ok (.invokevirtual 96, 3) := by decide +kernel
theorem dX0_told_43 : decode cX0_told 43 = .ok (.ireturn, 1) := by decide +kernel
theorem dX0_rank_0 : decode cX0_rank 0 = .ok (.iconst 0, 1) := by decide +kernel
theorem dX0_rank_1 : decode cX0_rank 1 = .ok (.istore_n 1, 1) := by decide +kernel
theorem dX0_rank_2 : decode cX0_rank 2 = .ok (.iload_n 1, 1) := by decide +kernel
theorem dX0_rank_3 : decode cX0_rank 3 = .ok (.iconst 3, 1) := by decide +kernel
theorem dX0_rank_4 : decode cX0_rank 4 = .ok (.if_icmp .ge 23, 3) := by decide +kernel
theorem dX0_rank_7 : decode cX0_rank 7 = .ok (.aload_n 0, 1) := by decide +kernel
theorem dX0_rank_8 : decode cX0_rank 8 = .ok (.getfield 21, 3) := by decide +kernel
theorem dX0_rank_11 : decode cX0_rank 11 = .ok (.aload_n 0, 1) := by decide +kernel
theorem dX0_rank_12 : decode cX0_rank 12 = .ok (.getfield 39, 3) := by decide +kernel
theorem dX0_rank_15 : decode cX0_rank 15 = .ok (.iconst 3, 1) := by decide +kernel
theorem dX0_rank_16 : decode cX0_rank 16 = .ok (.imul, 1) := by decide +kernel
theorem dX0_rank_17 : decode cX0_rank 17 = .ok (.iload_n 1, 1) := by decide +kernel
theorem dX0_rank_18 : decode cX0_rank 18 = .ok (.iadd, 1) := by decide +kernel
theorem dX0_rank_19 : decode cX0_rank 19 = .ok (.iconst 0, 1) := by decide +kernel
theorem dX0_rank_20 : decode cX0_rank 20 = .ok (.iastore, 1) := by decide +kernel
theorem dX0_rank_21 : decode cX0_rank 21 = .ok (.iinc 1 1, 3) := by decide +kernel
theorem dX0_rank_24 : decode cX0_rank 24 = .ok (.goto (-22), 3) := by decide +kernel
theorem dX0_rank_27 : decode cX0_rank 27 = .ok (.aload_n 0, 1) := by decide +kernel
theorem dX0_rank_28 : decode cX0_rank 28 = .ok (.getfield 39, 3) := by decide +kernel
theorem dX0_rank_31 : decode cX0_rank 31 = .ok (.iconst 3, 1) := by decide +kernel
theorem dX0_rank_32 : decode cX0_rank 32 = .ok (.imul, 1) := by decide +kernel
theorem dX0_rank_33 : decode cX0_rank 33 = .ok (.iconst 1, 1) := by decide +kernel
theorem dX0_rank_34 : decode cX0_rank 34 = .ok (.isub, 1) := by decide +kernel
theorem dX0_rank_35 : decode cX0_rank 35 = .ok (.istore_n 1, 1) := by decide +kernel
theorem dX0_rank_36 : decode cX0_rank 36 = .ok (.iload_n 1, 1) := by decide +kernel
theorem dX0_rank_37 : decode cX0_rank 37 = .ok (.ifCond .lt 33, 3) := by decide +kernel
theorem dX0_rank_40 : decode cX0_rank 40 = .ok (.aload_n 0, 1) := by decide +kernel
theorem dX0_rank_41 : decode cX0_rank 41 = .ok (.getfield 21, 3) := by decide +kernel
theorem dX0_rank_44 : decode cX0_rank 44 = .ok (.iload_n 1, 1) := by decide +kernel
theorem dX0_rank_45 : decode cX0_rank 45 = .ok (.aload_n 0, 1) := by decide +kernel
theorem dX0_rank_46 : decode cX0_rank 46 = .ok (.getfield 18, 3) := by decide +kernel
theorem dX0_rank_49 : decode cX0_rank 49 = .ok (.iload_n 1, 1) := by decide +kernel
theorem dX0_rank_50 : decode cX0_rank 50 = .ok (.iaload, 1) := by decide +kernel
theorem dX0_rank_51 : decode cX0_rank 51 = .ok (.ifCond .le 11, 3) := by decide +kernel
theorem dX0_rank_54 : decode cX0_rank 54 = .ok (.aload_n 0, 1) := by decide +kernel
theorem dX0_rank_55 : decode cX0_rank 55 = .ok (.iload_n 1, 1) := by decide +kernel
theorem dX0_rank_56 : decode cX0_rank 56 = .ok (.invokevirtual 100, 3) := by decide +kernel
theorem dX0_rank_59 : decode cX0_rank 59 = .ok (.goto 4, 3) := by decide +kernel
theorem dX0_rank_62 : decode cX0_rank 62 = .ok (.iconst 0, 1) := by decide +kernel
theorem dX0_rank_63 : decode cX0_rank 63 = .ok (.iastore, 1) := by decide +kernel
theorem dX0_rank_64 : decode cX0_rank 64 = .ok (.iinc 1 (-1), 3) := by decide +kernel
theorem dX0_rank_67 : decode cX0_rank 67 = .ok (.goto (-31), 3) := by decide +kernel
theorem dX0_rank_70 : decode cX0_rank 70 = .ok (.return_, 1) := by decide +kernel
theorem dX0_bestFrom_0 : decode cX0_bestFrom 0 = .ok (.aload_n 0, 1) := by decide +kernel
theorem dX0_bestFrom_1 : decode cX0_bestFrom 1 = .ok (.iload_n 1, 1) := by decide +kernel
theorem dX0_bestFrom_2 : decode cX0_bestFrom 2 = .ok (.invokevirtual 73, 3) := by decide +kernel
theorem dX0_bestFrom_5 : decode cX0_bestFrom 5 = .ok (.istore_n 2, 1) := by decide +kernel
theorem dX0_bestFrom_6 : decode cX0_bestFrom 6 = .ok (.iconst 0, 1) := by decide +kernel
theorem dX0_bestFrom_7 : decode cX0_bestFrom 7 = .ok (.istore_n 3, 1) := by decide +kernel
theorem dX0_bestFrom_8 : decode cX0_bestFrom 8 = .ok (.iconst 0, 1) := by decide +kernel
theorem dX0_bestFrom_9 : decode cX0_bestFrom 9 = .ok (.istore 4, 2) := by decide +kernel
theorem dX0_bestFrom_11 : decode cX0_bestFrom 11 = .ok (.iload 4, 2) := by decide +kernel
theorem dX0_bestFrom_13 : decode cX0_bestFrom 13 = .ok (.bipush 16, 2) := by decide +kernel
theorem dX0_bestFrom_15 : decode cX0_bestFrom 15 = .ok (.if_icmp .ge 73, 3) := by decide +kernel
theorem dX0_bestFrom_18 : decode cX0_bestFrom 18 = .ok (.iload_n 2, 1) := by decide +kernel
theorem dX0_bestFrom_19 : decode cX0_bestFrom 19 = .ok (.iload 4, 2) := by decide +kernel
theorem dX0_bestFrom_21 : decode cX0_bestFrom 21 = .ok (.ishr, 1) := by decide +kernel
theorem dX0_bestFrom_22 : decode cX0_bestFrom 22 = .ok (.ifCond .eq 66, 3) := by decide +kernel
theorem dX0_bestFrom_25 : decode cX0_bestFrom 25 = .ok (.iload_n 2, 1) := by decide +kernel
theorem dX0_bestFrom_26 : decode cX0_bestFrom 26 = .ok (.iload 4, 2) := by decide +kernel
theorem dX0_bestFrom_28 : decode cX0_bestFrom 28 = .ok (.invokestatic 76, 3) := by decide +kernel
theorem dX0_bestFrom_31 : decode cX0_bestFrom 31 = .ok (.ifCond .eq 13, 3) := by decide +kernel
theorem dX0_bestFrom_34 : decode cX0_bestFrom 34 = .ok (.aload_n 0, 1) := by decide +kernel
theorem dX0_bestFrom_35 : decode cX0_bestFrom 35 = .ok (.iload_n 1, 1) := by decide +kernel
theorem dX0_bestFrom_36 : decode cX0_bestFrom 36 = .ok (.iload 4, 2) := by decide +kernel
theorem dX0_bestFrom_38 : decode cX0_bestFrom 38 = .ok (.invokevirtual 80, 3) := by decide +kernel
theorem dX0_bestFrom_41 : decode cX0_bestFrom 41 = .ok (.goto 4, 3) := by decide +kernel
theorem dX0_bestFrom_44 : decode cX0_bestFrom 44 = .ok (.iload_n 1, 1) := by decide +kernel
theorem dX0_bestFrom_45 : decode cX0_bestFrom 45 = .ok (.istore 5, 2) := by decide +kernel
theorem dX0_bestFrom_47 : decode cX0_bestFrom 47 = .ok (.iload 5, 2) := by decide +kernel
theorem dX0_bestFrom_49 : decode cX0_bestFrom 49 = .ok (.iload_n 1, 1) := by decide +kernel
theorem dX0_bestFrom_50 : decode cX0_bestFrom 50 = .ok (.if_icmp .le 32, 3) := by decide +kernel
theorem dX0_bestFrom_53 : decode cX0_bestFrom 53 = .ok (.aload_n 0, 1) := by decide +kernel
theorem dX0_bestFrom_54 : decode cX0_bestFrom 54 = .ok (.getfield 18, 3) := by decide +kernel
theorem dX0_bestFrom_57 : decode cX0_bestFrom 57 = .ok (.iload 5, 2) := by decide +kernel
theorem dX0_bestFrom_59 : decode cX0_bestFrom 59 = .ok (.iaload, 1) := by decide +kernel
theorem dX0_bestFrom_60 : decode cX0_bestFrom 60 = .ok (.ifCond .le 22, 3) := by decide +kernel
theorem dX0_bestFrom_63 : decode cX0_bestFrom 63 = .ok (.iload_n 3, 1) := by decide +kernel
theorem dX0_bestFrom_64 : decode cX0_bestFrom 64 = .ok (.aload_n 0, 1) := by decide +kernel
theorem dX0_bestFrom_65 : decode cX0_bestFrom 65 = .ok (.iload 4, 2) := by decide +kernel
theorem dX0_bestFrom_67 : decode cX0_bestFrom 67 = .ok (.invokevirtual 103, 3) := by decide +kernel
theorem dX0_bestFrom_70 : decode cX0_bestFrom 70 = .ok (.aload_n 0, 1) := by decide +kernel
theorem dX0_bestFrom_71 : decode cX0_bestFrom 71 = .ok (.getfield 21, 3) := by decide +kernel
theorem dX0_bestFrom_74 : decode cX0_bestFrom 74 = .ok (.iload 5, 2) := by decide +kernel
theorem dX0_bestFrom_76 : decode cX0_bestFrom 76 = .ok (.iaload, 1) := by decide +kernel
theorem dX0_bestFrom_77 : decode cX0_bestFrom 77 = .ok (.iadd, 1) := by decide +kernel
theorem dX0_bestFrom_78 : decode cX0_bestFrom 78 = .ok (.invokestatic 106, 3) := by decide +kernel
theorem dX0_bestFrom_81 : decode cX0_bestFrom 81 = .ok (.istore_n 3, 1) := by decide +kernel
theorem dX0_bestFrom_82 : decode cX0_bestFrom 82 = .ok (.iinc 4 1, 3) := by decide +kernel
theorem dX0_bestFrom_85 : decode cX0_bestFrom 85 = .ok (.goto (-74), 3) := by decide +kernel
theorem dX0_bestFrom_88 : decode cX0_bestFrom 88 = .ok (.iload_n 3, 1) := by decide +kernel
theorem dX0_bestFrom_89 : decode cX0_bestFrom 89 = .ok (.ireturn, 1) := by decide +kernel
theorem dX0_gainOf_0 : decode cX0_gainOf 0 = .ok (.aload_n 0, 1) := by decide +kernel
theorem dX0_gainOf_1 : decode cX0_gainOf 1 = .ok (.getfield 31, 3) := by decide +kernel
theorem dX0_gainOf_4 : decode cX0_gainOf 4 = .ok (.iconst 2, 1) := by decide +kernel
theorem dX0_gainOf_5 : decode cX0_gainOf 5 = .ok (.if_icmp .ne 7, 3) := by decide +kernel
theorem dX0_gainOf_8 : decode cX0_gainOf 8 = .ok (.iload_n 1, 1) := by decide +kernel
theorem dX0_gainOf_9 : decode cX0_gainOf 9 = .ok (.iconst 2, 1) := by decide +kernel
theorem dX0_gainOf_10 : decode cX0_gainOf 10 = .ok (.irem, 1) := by decide +kernel
theorem dX0_gainOf_11 : decode cX0_gainOf 11 = .ok (.ireturn, 1) := by decide +kernel
theorem dX0_gainOf_12 : decode cX0_gainOf 12 = .ok (.iload_n 1, 1) := by decide +kernel
theorem dX0_gainOf_13 : decode cX0_gainOf 13 = .ok (.iconst 2, 1) := by decide +kernel
theorem dX0_gainOf_14 : decode cX0_gainOf 14 = .ok (.irem, 1) := by decide +kernel
theorem dX0_gainOf_15 : decode cX0_gainOf 15 = .ok (.ifCond .ne 17, 3) := by decide +kernel
theorem dX0_gainOf_18 : decode cX0_gainOf 18 = .ok (.aload_n 0, 1) := by decide +kernel
theorem dX0_gainOf_19 : decode cX0_gainOf 19 = .ok (.getfield 27, 3) := by decide +kernel
theorem dX0_gainOf_22 : decode cX0_gainOf 22 = .ok (.getfield 90, 3) := by decide +kernel
theorem dX0_gainOf_25 : decode cX0_gainOf 25 = .ok (.iload_n 1, 1) := by decide +kernel
theorem dX0_gainOf_26 : decode cX0_gainOf 26 = .ok (.iconst 2, 1) := by decide +kernel
theorem dX0_gainOf_27 : decode cX0_gainOf 27 = .ok (.idiv, 1) := by decide +kernel
theorem dX0_gainOf_28 : decode cX0_gainOf 28 = .ok (.iaload, 1) := by decide +kernel
theorem dX0_gainOf_29 : decode cX0_gainOf 29 = .ok (.goto 4, 3) := by decide +kernel
theorem dX0_gainOf_32 : decode cX0_gainOf 32 = .ok (.iconst 0, 1) := by decide +kernel
theorem dX0_gainOf_33 : decode cX0_gainOf 33 = .ok (.ireturn, 1) := by decide +kernel
theorem dX0_firstOfBest_0 : decode cX0_firstOfBest 0 = .ok (.iconst 0, 1) := by decide +kernel
theorem dX0_firstOfBest_1 : decode cX0_firstOfBest 1 = .ok (.istore_n 1, 1) := by decide +kernel
theorem dX0_firstOfBest_2 : decode cX0_firstOfBest 2 = .ok (.iconst 0, 1) := by decide +kernel
theorem dX0_firstOfBest_3 : decode cX0_firstOfBest 3 = .ok (.istore_n 2, 1) := by decide +kernel
theorem dX0_firstOfBest_4 : decode cX0_firstOfBest 4 = .ok (.iconst 0, 1) := by decide +kernel
theorem dX0_firstOfBest_5 : decode cX0_firstOfBest 5 = .ok (.istore_n 3, 1) := by decide +kernel
theorem dX0_firstOfBest_6 : decode cX0_firstOfBest 6 = .ok (.iload_n 3, 1) := by decide +kernel
theorem dX0_firstOfBest_7 : decode cX0_firstOfBest 7 = .ok (.bipush 9, 2) := by decide +kernel
theorem dX0_firstOfBest_9 : decode cX0_firstOfBest 9 = .ok (.if_icmp .ge 130, 3) := by decide +kernel
theorem dX0_firstOfBest_12 : decode cX0_firstOfBest 12 = .ok (.iload_n 2, 1) := by decide +kernel
theorem dX0_firstOfBest_13 : decode cX0_firstOfBest 13 = .ok (.aload_n 0, 1) := by decide +kernel
theorem dX0_firstOfBest_14 : decode cX0_firstOfBest 14 = .ok (.getfield 39, 3) := by decide +kernel
theorem dX0_firstOfBest_17 : decode cX0_firstOfBest 17 = .ok (.iconst 3, 1) := by decide +kernel
theorem dX0_firstOfBest_18 : decode cX0_firstOfBest 18 = .ok (.imul, 1) := by decide +kernel
theorem dX0_firstOfBest_19 : decode cX0_firstOfBest 19 = .ok (.if_icmp .ge 120, 3) := by decide +kernel
theorem dX0_firstOfBest_22 : decode cX0_firstOfBest 22 = .ok (.aload_n 0, 1) := by decide +kernel
theorem dX0_firstOfBest_23 : decode cX0_firstOfBest 23 = .ok (.iload_n 2, 1) := by decide +kernel
theorem dX0_firstOfBest_24 : decode cX0_firstOfBest 24 = .ok (.invokevirtual 73, 3) := by decide +kernel
theorem dX0_firstOfBest_27 : decode cX0_firstOfBest 27 = .ok (.istore 4, 2) := by decide +kernel
theorem dX0_firstOfBest_29 : decode cX0_firstOfBest 29 = .ok (.iconst 0, 1) := by decide +kernel
theorem dX0_firstOfBest_30 : decode cX0_firstOfBest 30 = .ok (.istore 5, 2) := by decide +kernel
theorem dX0_firstOfBest_32 : decode cX0_firstOfBest 32 = .ok (.iload 5, 2) := by decide +kernel
theorem dX0_firstOfBest_34 : decode cX0_firstOfBest 34 = .ok (.bipush 16, 2) := by decide +kernel
theorem dX0_firstOfBest_36 : decode cX0_firstOfBest 36 = .ok (.if_icmp .ge 97, 3) := by decide +kernel
theorem dX0_firstOfBest_39 : decode cX0_firstOfBest 39 = .ok (.iload 4, 2) := by decide +kernel
theorem dX0_firstOfBest_41 : decode cX0_firstOfBest 41 = .ok (.iload 5, 2) := by decide +kernel
theorem dX0_firstOfBest_43 : decode cX0_firstOfBest 43 = .ok (.invokestatic 76, 3) := by decide +kernel
theorem dX0_firstOfBest_46 : decode cX0_firstOfBest 46 = .ok (.ifCond .eq 13, 3) := by decide +kernel
theorem dX0_firstOfBest_49 : decode cX0_firstOfBest 49 = .ok (.aload_n 0, 1) := by decide +kernel
theorem dX0_firstOfBest_50 : decode cX0_firstOfBest 50 = .ok (.iload_n 2, 1) := by decide +kernel
theorem dX0_firstOfBest_51 : decode cX0_firstOfBest 51 = .ok (.iload 5, 2) := by decide +kernel
theorem dX0_firstOfBest_53 : decode cX0_firstOfBest 53 = .ok (.invokevirtual 80, 3) := by decide +kernel
theorem dX0_firstOfBest_56 : decode cX0_firstOfBest 56 = .ok (.goto 4, 3) := by decide +kernel
theorem dX0_firstOfBest_59 : decode cX0_firstOfBest 59 = .ok (.iload_n 2, 1) := by decide +kernel
theorem dX0_firstOfBest_60 : decode cX0_firstOfBest 60 = .ok (.istore 6, 2) := by decide +kernel
theorem dX0_firstOfBest_62 : decode cX0_firstOfBest 62 = .ok (.iload 6, 2) := by decide +kernel
theorem dX0_firstOfBest_64 : decode cX0_firstOfBest 64 = .ok (.iload_n 2, 1) := by decide +kernel
theorem dX0_firstOfBest_65 : decode cX0_firstOfBest 65 = .ok (.if_icmp .le 42, 3) := by decide +kernel
theorem dX0_firstOfBest_68 : decode cX0_firstOfBest 68 = .ok (.aload_n 0, 1) := by decide +kernel
theorem dX0_firstOfBest_69 : decode cX0_firstOfBest 69 = .ok (.getfield 18, 3) := by decide +kernel
theorem dX0_firstOfBest_72 : decode cX0_firstOfBest 72 = .ok (.iload 6, 2) := by decide +kernel
theorem dX0_firstOfBest_74 : decode cX0_firstOfBest 74 = .ok (.iaload, 1) := by decide +kernel
theorem dX0_firstOfBest_75 : decode cX0_firstOfBest 75 = .ok (.ifCond .le 32, 3) := by decide +kernel
theorem dX0_firstOfBest_78 : decode cX0_firstOfBest 78 = .ok (.aload_n 0, 1) := by decide +kernel
theorem dX0_firstOfBest_79 : decode cX0_firstOfBest 79 = .ok (.iload 5, 2) := by decide +kernel
theorem dX0_firstOfBest_81 : decode cX0_firstOfBest 81 = .ok (.invokevirtual 103, 3) := by decide +kernel
theorem dX0_firstOfBest_84 : decode cX0_firstOfBest 84 = .ok (.aload_n 0, 1) := by decide +kernel
theorem dX0_firstOfBest_85 : decode cX0_firstOfBest 85 = .ok (.getfield 21, 3) := by decide +kernel
theorem dX0_firstOfBest_88 : decode cX0_firstOfBest 88 = .ok (.iload 6, 2) := by decide +kernel
theorem dX0_firstOfBest_90 : decode cX0_firstOfBest 90 = .ok (.iaload, 1) := by decide +kernel
theorem dX0_firstOfBest_91 : decode cX0_firstOfBest 91 = .ok (.iadd, 1) := by decide +kernel
theorem dX0_firstOfBest_92 : decode cX0_firstOfBest 92 = .ok (.aload_n 0, 1) := by decide +kernel
theorem dX0_firstOfBest_93 : decode cX0_firstOfBest 93 = .ok (.getfield 21, 3) := by decide +kernel
theorem dX0_firstOfBest_96 : decode cX0_firstOfBest 96 = .ok (.iload_n 2, 1) := by decide +kernel
theorem dX0_firstOfBest_97 : decode cX0_firstOfBest 97 = .ok (.iaload, 1) := by decide +kernel
theorem dX0_firstOfBest_98 : decode cX0_firstOfBest 98 = .ok (.if_icmp .ne 9, 3) := by decide +kernel
theorem dX0_firstOfBest_101 : decode cX0_firstOfBest 101 = .ok (.iload 6, 2) := by decide +kernel
theorem dX0_firstOfBest_103 : decode cX0_firstOfBest 103 = .ok (.istore_n 2, 1) := by decide +kernel
theorem dX0_firstOfBest_104 : decode cX0_firstOfBest 104 = .ok (.goto 29, 3) := by decide +kernel
theorem dX0_firstOfBest_107 : decode cX0_firstOfBest 107 = .ok (.iload_n 1, 1) := by decide +kernel
theorem dX0_firstOfBest_108 : decode cX0_firstOfBest 108 = .ok (.iload 6, 2) := by decide +kernel
theorem dX0_firstOfBest_110 : decode cX0_firstOfBest 110 = .ok (.iload_n 2, 1) := by decide +kernel
theorem dX0_firstOfBest_111 : decode cX0_firstOfBest 111 = .ok (.if_icmp .le 13, 3) := by decide +kernel
theorem dX0_firstOfBest_114 : decode cX0_firstOfBest 114 = .ok (.aload_n 0, 1) := by decide +kernel
theorem dX0_firstOfBest_115 : decode cX0_firstOfBest 115 = .ok (.getfield 18, 3) := by decide +kernel
theorem dX0_firstOfBest_118 : decode cX0_firstOfBest 118 = .ok (.iload 6, 2) := by decide +kernel
theorem dX0_firstOfBest_120 : decode cX0_firstOfBest 120 = .ok (.iaload, 1) := by decide +kernel
theorem dX0_firstOfBest_121 : decode cX0_firstOfBest 121 = .ok (.goto 4, 3) := by decide +kernel
theorem dX0_firstOfBest_124 : decode cX0_firstOfBest 124 = .ok (.iconst 0, 1) := by decide +kernel
theorem dX0_firstOfBest_125 : decode cX0_firstOfBest 125 = .ok (.iadd, 1) := by decide +kernel
theorem dX0_firstOfBest_126 : decode cX0_firstOfBest 126 = .ok (.istore_n 1, 1) := by decide +kernel
theorem dX0_firstOfBest_127 : decode cX0_firstOfBest 127 = .ok (.iinc 5 1, 3) := by decide +kernel
theorem dX0_firstOfBest_130 : decode cX0_firstOfBest 130 = .ok (.goto (-98), 3) := by decide +kernel
theorem dX0_firstOfBest_133 : decode cX0_firstOfBest 133 = .ok (.iinc 3 1, 3) := by decide +kernel
theorem dX0_firstOfBest_136 : decode cX0_firstOfBest 136 = .ok (.goto (-130), 3) := by decide +kernel
theorem dX0_firstOfBest_139 : decode cX0_firstOfBest 139 = .ok (.iload_n 1, 1) := by decide +kernel
theorem dX0_firstOfBest_140 : decode cX0_firstOfBest 140 = .ok (.ireturn, 1) := by decide +kernel
theorem dX1_init_0 : decode cX1_init 0 = .ok (.aload_n 0, 1) := by decide +kernel
theorem dX1_init_1 : decode cX1_init 1 = .ok (.invokespecial 3, 3) := by decide +kernel
theorem dX1_init_4 : decode cX1_init 4 = .ok (.aload_n 0, 1) := by decide +kernel
theorem dX1_init_5 : decode cX1_init 5 = .ok (.bipush 40, 2) := by decide +kernel
theorem dX1_init_7 : decode cX1_init 7 = .ok (.newarray .int, 2) := by decide +kernel
theorem dX1_init_9 : decode cX1_init 9 = .ok (.putfield 9, 3) := by decide +kernel
theorem dX1_init_12 : decode cX1_init 12 = .ok (.return_, 1) := by decide +kernel
theorem dX1_put_0 : decode cX1_put 0 = .ok (.aload_n 0, 1) := by decide +kernel
theorem dX1_put_1 : decode cX1_put 1 = .ok (.getfield 15, 3) := by decide +kernel
theorem dX1_put_4 : decode cX1_put 4 = .ok (.bipush 8, 2) := by decide +kernel
theorem dX1_put_6 : decode cX1_put 6 = .ok (.if_icmp .lt 24, 3) := by decide +kernel
theorem dX1_put_9 : decode cX1_put 9 = .ok (.aload_n 0, 1) := by decide +kernel
theorem dX1_put_10 : decode cX1_put 10 = .ok (.getfield 9, 3) := by decide +kernel
theorem dX1_put_13 : decode cX1_put 13 = .ok (.iconst 5, 1) := by decide +kernel
theorem dX1_put_14 : decode cX1_put 14 = .ok (.aload_n 0, 1) := by decide +kernel
theorem dX1_put_15 : decode cX1_put 15 = .ok (.getfield 9, 3) := by decide +kernel
theorem dX1_put_18 : decode cX1_put 18 = .ok (.iconst 0, 1) := by decide +kernel
theorem dX1_put_19 : decode cX1_put 19 = .ok (.bipush 35, 2) := by decide +kernel
theorem dX1_put_21 : decode cX1_put 21 = .ok (.invokestatic 19, 3) := by decide +kernel
theorem dX1_put_24 : decode cX1_put 24 = .ok (.aload_n 0, 1) := by decide +kernel
theorem dX1_put_25 : decode cX1_put 25 = .ok (.bipush 7, 2) := by decide +kernel
theorem dX1_put_27 : decode cX1_put 27 = .ok (.putfield 15, 3) := by decide +kernel
theorem dX1_put_30 : decode cX1_put 30 = .ok (.aload_n 1, 1) := by decide +kernel
theorem dX1_put_31 : decode cX1_put 31 = .ok (.iconst 0, 1) := by decide +kernel
theorem dX1_put_32 : decode cX1_put 32 = .ok (.aload_n 0, 1) := by decide +kernel
theorem dX1_put_33 : decode cX1_put 33 = .ok (.getfield 9, 3) := by decide +kernel
theorem dX1_put_36 : decode cX1_put 36 = .ok (.aload_n 0, 1) := by decide +kernel
theorem dX1_put_37 : decode cX1_put 37 = .ok (.getfield 15, 3) := by decide +kernel
theorem dX1_put_40 : decode cX1_put 40 = .ok (.iconst 5, 1) := by decide +kernel
theorem dX1_put_41 : decode cX1_put 41 = .ok (.imul, 1) := by decide +kernel
theorem dX1_put_42 : decode cX1_put 42 = .ok (.iconst 5, 1) := by decide +kernel
theorem dX1_put_43 : decode cX1_put 43 = .ok (.invokestatic 19, 3) := by decide +kernel
theorem dX1_put_46 : decode cX1_put 46 = .ok (.aload_n 0, 1) := by decide +kernel
theorem dX1_put_47 : decode cX1_put 47 = .ok (.dup, 1) := by decide +kernel
theorem dX1_put_48 : decode cX1_put 48 = .ok (.getfield 15, 3) := by decide +kernel
theorem dX1_put_51 : decode cX1_put 51 = .ok (.iconst 1, 1) := by decide +kernel
theorem dX1_put_52 : decode cX1_put 52 = .ok (.iadd, 1) := by decide +kernel
theorem dX1_put_53 : decode cX1_put 53 = .ok (.putfield 15, 3) := by decide +kernel
theorem dX1_put_56 : decode cX1_put 56 = .ok (.return_, 1) := by decide +kernel
theorem dX1_takeInto_0 : decode cX1_takeInto 0 = .ok (.aload_n 0, 1) := by decide +kernel
theorem dX1_takeInto_1 : decode cX1_takeInto 1 = .ok (.getfield 15, 3) := by decide +kernel
theorem dX1_takeInto_4 : decode cX1_takeInto 4 = .ok (.ifCond .gt 4, 3) := by decide +kernel
theorem dX1_takeInto_7 : decode cX1_takeInto 7 = .ok (.return_, 1) := by decide +kernel
theorem dX1_takeInto_8 : decode cX1_takeInto 8 = .ok (.aload_n 0, 1) := by decide +kernel
theorem dX1_takeInto_9 : decode cX1_takeInto 9 = .ok (.dup, 1) := by decide +kernel
theorem dX1_takeInto_10 : decode cX1_takeInto 10 = .ok (.getfield 15, 3) := by decide +kernel
theorem dX1_takeInto_13 : decode cX1_takeInto 13 = .ok (.iconst 1, 1) := by decide +kernel
theorem dX1_takeInto_14 : decode cX1_takeInto 14 = .ok (.isub, 1) := by decide +kernel
theorem dX1_takeInto_15 : decode cX1_takeInto 15 = .ok (.putfield 15, 3) := by decide +kernel
theorem dX1_takeInto_18 : decode cX1_takeInto 18 = .ok (.aload_n 0, 1) := by decide +kernel
theorem dX1_takeInto_19 : decode cX1_takeInto 19 = .ok (.getfield 9, 3) := by decide +kernel
theorem dX1_takeInto_22 : decode cX1_takeInto 22 = .ok (.aload_n 0, 1) := by decide +kernel
theorem dX1_takeInto_23 : decode cX1_takeInto 23 = .ok (.getfield 15, 3) := by decide +kernel
theorem dX1_takeInto_26 : decode cX1_takeInto 26 = .ok (.iconst 5, 1) := by decide +kernel
theorem dX1_takeInto_27 : decode cX1_takeInto 27 = .ok (.imul, 1) := by decide +kernel
theorem dX1_takeInto_28 : decode cX1_takeInto 28 = .ok (.aload_n 1, 1) := by decide +kernel
theorem dX1_takeInto_29 : decode cX1_takeInto 29 = .ok (.iconst 0, 1) := by decide +kernel
theorem dX1_takeInto_30 : decode cX1_takeInto 30 = .ok (.iconst 5, 1) := by decide +kernel
theorem dX1_takeInto_31 : decode cX1_takeInto 31 = .ok (.invokestatic 19, 3) := by decide +kernel
theorem dX1_takeInto_34 : decode cX1_takeInto 34 = .ok (.return_, 1) := by decide +kernel
theorem dX2_init_0 : decode cX2_init 0 = .ok (.aload_n 0, 1) := by decide +kernel
theorem dX2_init_1 : decode cX2_init 1 = .ok (.invokespecial 3, 3) := by decide +kernel
theorem dX2_init_4 : decode cX2_init 4 = .ok (.aload_n 0, 1) := by decide +kernel
theorem dX2_init_5 : decode cX2_init 5 = .ok (.sipush 200, 3) := by decide +kernel
theorem dX2_init_8 : decode cX2_init 8 = .ok (.newarray .char, 2) := by decide +kernel
theorem dX2_init_10 : decode cX2_init 10 = .ok (.putfield 9, 3) := by decide +kernel
theorem dX2_init_13 : decode cX2_init 13 = .ok (.return_, 1) := by decide +kernel
theorem dX2_add_0 : decode cX2_add 0 = .ok (.aload_n 0, 1) := by decide +kernel
theorem dX2_add_1 : decode cX2_add 1 = .ok (.getfield 15, 3) := by decide +kernel
theorem dX2_add_4 : decode cX2_add 4 = .ok (.sipush 200, 3) := by decide +kernel
theorem dX2_add_7 : decode cX2_add 7 = .ok (.if_icmp .lt 5, 3) := by decide +kernel
theorem dX2_add_10 : decode cX2_add 10 = .ok (.iconst 0, 1) := by decide +kernel
theorem dX2_add_11 : decode cX2_add 11 = .ok (.ireturn, 1) := by decide +kernel
theorem dX2_add_12 : decode cX2_add 12 = .ok (.aload_n 0, 1) := by decide +kernel
theorem dX2_add_13 : decode cX2_add 13 = .ok (.getfield 9, 3) := by decide +kernel
theorem dX2_add_16 : decode cX2_add 16 = .ok (.aload_n 0, 1) := by decide +kernel
theorem dX2_add_17 : decode cX2_add 17 = .ok (.getfield 15, 3) := by decide +kernel
theorem dX2_add_20 : decode cX2_add 20 = .ok (.iload_n 1, 1) := by decide +kernel
theorem dX2_add_21 : decode cX2_add 21 = .ok (.castore, 1) := by decide +kernel
theorem dX2_add_22 : decode cX2_add 22 = .ok (.aload_n 0, 1) := by decide +kernel
theorem dX2_add_23 : decode cX2_add 23 = .ok (.dup, 1) := by decide +kernel
theorem dX2_add_24 : decode cX2_add 24 = .ok (.getfield 15, 3) := by decide +kernel
theorem dX2_add_27 : decode cX2_add 27 = .ok (.iconst 1, 1) := by decide +kernel
theorem dX2_add_28 : decode cX2_add 28 = .ok (.iadd, 1) := by decide +kernel
theorem dX2_add_29 : decode cX2_add 29 = .ok (.putfield 15, 3) := by decide +kernel
theorem dX2_add_32 : decode cX2_add 32 = .ok (.iconst 1, 1) := by decide +kernel
theorem dX2_add_33 : decode cX2_add 33 = .ok (.ireturn, 1) := by decide +kernel
theorem dX2_clear_0 : decode cX2_clear 0 = .ok (.aload_n 0, 1) := by decide +kernel
theorem dX2_clear_1 : decode cX2_clear 1 = .ok (.iconst 0, 1) := by decide +kernel
theorem dX2_clear_2 : decode cX2_clear 2 = .ok (.putfield 15, 3) := by decide +kernel
theorem dX2_clear_5 : decode cX2_clear 5 = .ok (.return_, 1) := by decide +kernel
theorem dX2_firstFault_0 : decode cX2_firstFault 0 = .ok (.aload_n 1, 1) := by decide +kernel
theorem dX2_firstFault_1 : decode cX2_firstFault 1 = .ok (.invokevirtual 19, 3) := by decide +kernel
theorem dX2_firstFault_4 : decode cX2_firstFault 4 = .ok (.aload_n 0, 1) := by decide +kernel
theorem dX2_firstFault_5 : decode cX2_firstFault 5 = .ok (.iconst 0, 1) := by decide +kernel
theorem dX2_firstFault_6 : decode cX2_firstFault 6 = .ok (.putfield 24, 3) := by decide +kernel
theorem dX2_firstFault_9 : decode cX2_firstFault 9 = .ok (.iconst 0, 1) := by decide +kernel
theorem dX2_firstFault_10 : decode cX2_firstFault 10 = .ok (.istore_n 2, 1) := by decide +kernel
theorem dX2_firstFault_11 : decode cX2_firstFault 11 = .ok (.iload_n 2, 1) := by decide +kernel
theorem dX2_firstFault_12 : decode cX2_firstFault 12 = .ok (.sipush 200, 3) := by decide +kernel
theorem dX2_firstFault_15 : decode cX2_firstFault 15 = .ok (.if_icmp .ge 35, 3) := by decide +kernel
theorem dX2_firstFault_18 : decode cX2_firstFault 18 = .ok (.aload_n 0, 1) := by decide +kernel
theorem dX2_firstFault_19 : decode cX2_firstFault 19 = .ok (.getfield 24, 3) := by decide +kernel
theorem dX2_firstFault_22 : decode cX2_firstFault 22 = .ok (.aload_n 0, 1) := by decide +kernel
theorem dX2_firstFault_23 : decode cX2_firstFault 23 = .ok (.getfield 15, 3) := by decide +kernel
theorem dX2_firstFault_26 : decode cX2_firstFault 26 = .ok (.if_icmp .ge 24, 3) := by decide +kernel
theorem dX2_firstFault_29 : decode cX2_firstFault 29 = .ok (.aload_n 0, 1) := by decide +kernel
theorem dX2_firstFault_30 : decode cX2_firstFault 30 = .ok (.getfield 24, 3) := by decide +kernel
theorem dX2_firstFault_33 : decode cX2_firstFault 33 = .ok (.istore_n 3, 1) := by decide +kernel
theorem dX2_firstFault_34 : decode cX2_firstFault 34 = .ok (.aload_n 0, 1) := by decide +kernel
theorem dX2_firstFault_35 : decode cX2_firstFault 35 = .ok (.aload_n 1, 1) := by decide +kernel
theorem dX2_firstFault_36 : decode cX2_firstFault 36 = .ok (.invokevirtual 27, 3) := by decide +kernel
theorem dX2_firstFault_39 : decode cX2_firstFault 39 = .ok (.ifCond .ne 5, 3) := by decide +kernel
theorem dX2_firstFault_42 : decode cX2_firstFault 42 = .ok (.iload_n 3, 1) := by decide +kernel
theorem dX2_firstFault_43 : decode cX2_firstFault 43 = .ok (.ireturn, 1) := by decide +kernel
theorem dX2_firstFault_44 : decode cX2_firstFault 44 = .ok (.iinc 2 1, 3) := by decide +kernel
theorem dX2_firstFault_47 : decode cX2_firstFault 47 = .ok (.goto (-36), 3) := by decide +kernel
theorem dX2_firstFault_50 : decode cX2_firstFault 50 = .ok (.bipush (-4), 2) := by decide +kernel
theorem dX2_firstFault_52 : decode cX2_firstFault 52 = .ok (.ireturn, 1) := by decide +kernel
theorem dX2_readItem_0 : decode cX2_readItem 0 = .ok (.aload_n 0, 1) := by decide +kernel
theorem dX2_readItem_1 : decode cX2_readItem 1 = .ok (.invokevirtual 31, 3) := by decide +kernel
theorem dX2_readItem_4 : decode cX2_readItem 4 = .ok (.istore_n 2, 1) := by decide +kernel
theorem dX2_readItem_5 : decode cX2_readItem 5 = .ok (.aload_n 0, 1) := by decide +kernel
theorem dX2_readItem_6 : decode cX2_readItem 6 = .ok (.dup, 1) := by decide +kernel
theorem dX2_readItem_7 : decode cX2_readItem 7 = .ok (.getfield 24, 3) := by decide +kernel
theorem dX2_readItem_10 : decode cX2_readItem 10 = .ok (.iconst 1, 1) := by decide +kernel
theorem dX2_readItem_11 : decode cX2_readItem 11 = .ok (.iadd, 1) := by decide +kernel
theorem dX2_readItem_12 : decode cX2_readItem 12 = .ok (.putfield 24, 3) := by decide +kernel
theorem dX2_readItem_15 : decode cX2_readItem 15 = .ok (.iload_n 2, 1) := by decide +kernel
theorem dX2_readItem_16 : decode cX2_readItem 16 = .ok (.lookupswitch 82 #[(103, 76), (107, 58), (114, 52), (118, 70), (119, 64)], 52) := by decide +kernel
theorem dX2_readItem_68 : decode cX2_readItem 68 = .ok (.aload_n 0, 1) := by decide +kernel
theorem dX2_readItem_69 : decode cX2_readItem 69 = .ok (.aload_n 1, 1) := by decide +kernel
theorem dX2_readItem_70 : decode cX2_readItem 70 = .ok (.invokevirtual 35, 3) := by decide +kernel
theorem dX2_readItem_73 : decode cX2_readItem 73 = .ok (.ireturn, 1) := by decide +kernel
theorem dX2_readItem_74 : decode cX2_readItem 74 = .ok (.aload_n 0, 1) := by decide +kernel
theorem dX2_readItem_75 : decode cX2_readItem 75 = .ok (.aload_n 1, 1) := by decide +kernel
theorem dX2_readItem_76 : decode cX2_readItem 76 = .ok (.invokevirtual 38, 3) := by decide +kernel
theorem dX2_readItem_79 : decode cX2_readItem 79 = .ok (.ireturn, 1) := by decide +kernel
theorem dX2_readItem_80 : decode cX2_readItem 80 = .ok (.aload_n 0, 1) := by decide +kernel
theorem dX2_readItem_81 : decode cX2_readItem 81 = .ok (.aload_n 1, 1) := by decide +kernel
theorem dX2_readItem_82 : decode cX2_readItem 82 = .ok (.invokevirtual 41, 3) := by decide +kernel
theorem dX2_readItem_85 : decode cX2_readItem 85 = .ok (.ireturn, 1) := by decide +kernel
theorem dX2_readItem_86 : decode cX2_readItem 86 = .ok (.aload_n 0, 1) := by decide +kernel
theorem dX2_readItem_87 : decode cX2_readItem 87 = .ok (.aload_n 1, 1) := by decide +kernel
theorem dX2_readItem_88 : decode cX2_readItem 88 = .ok (.invokevirtual 44, 3) := by decide +kernel
theorem dX2_readItem_91 : decode cX2_readItem 91 = .ok (.ireturn, 1) := by decide +kernel
theorem dX2_readItem_92 : decode cX2_readItem 92 = .ok (.aload_n 0, 1) := by decide +kernel
theorem dX2_readItem_93 : decode cX2_readItem 93 = .ok (.aload_n 1, 1) := by decide +kernel
theorem dX2_readItem_94 : decode cX2_readItem 94 = .ok (.invokevirtual 47, 3) := by decide +kernel
theorem dX2_readItem_97 : decode cX2_readItem 97 = .ok (.ireturn, 1) := by decide +kernel
theorem dX2_readItem_98 : decode cX2_readItem 98 = .ok (.iconst 0, 1) := by decide +kernel
theorem dX2_readItem_99 : decode cX2_readItem 99 = .ok (.ireturn, 1) := by decide +kernel
theorem dX2_readRoot_0 : decode cX2_readRoot 0 = .ok (.aload_n 0, 1) := by decide +kernel
theorem dX2_readRoot_1 : decode cX2_readRoot 1 = .ok (.iconst 3, 1) := by decide +kernel
theorem dX2_readRoot_2 : decode cX2_readRoot 2 = .ok (.bipush 44, 2) := by decide +kernel
theorem dX2_readRoot_4 : decode cX2_readRoot 4 = .ok (.invokevirtual 50, 3) := by decide +kernel
theorem dX2_readRoot_7 : decode cX2_readRoot 7 = .ok (.istore_n 2, 1) := by decide +kernel
theorem dX2_readRoot_8 : decode cX2_readRoot 8 = .ok (.aload_n 0, 1) := by decide +kernel
theorem dX2_readRoot_9 : decode cX2_readRoot 9 = .ok (.iconst 0, 1) := by decide +kernel
theorem dX2_readRoot_10 : decode cX2_readRoot 10 = .ok (.bipush 60, 2) := by decide +kernel
theorem dX2_readRoot_12 : decode cX2_readRoot 12 = .ok (.bipush 44, 2) := by decide +kernel
theorem dX2_readRoot_14 : decode cX2_readRoot 14 = .ok (.invokevirtual 54, 3) := by decide +kernel
theorem dX2_readRoot_17 : decode cX2_readRoot 17 = .ok (.istore_n 3, 1) := by decide +kernel
theorem dX2_readRoot_18 : decode cX2_readRoot 18 = .ok (.aload_n 0, 1) := by decide +kernel
theorem dX2_readRoot_19 : decode cX2_readRoot 19 = .ok (.iconst 0, 1) := by decide +kernel
theorem dX2_readRoot_20 : decode cX2_readRoot 20 = .ok (.iconst 3, 1) := by decide +kernel
theorem dX2_readRoot_21 : decode cX2_readRoot 21 = .ok (.bipush 59, 2) := by decide +kernel
theorem dX2_readRoot_23 : decode cX2_readRoot 23 = .ok (.invokevirtual 54, 3) := by decide +kernel
theorem dX2_readRoot_26 : decode cX2_readRoot 26 = .ok (.istore 4, 2) := by decide +kernel
theorem dX2_readRoot_28 : decode cX2_readRoot 28 = .ok (.iload_n 2, 1) := by decide +kernel
theorem dX2_readRoot_29 : decode cX2_readRoot 29 = .ok (.ifCond .lt 27, 3) := by decide +kernel
theorem dX2_readRoot_32 : decode cX2_readRoot 32 = .ok (.iload_n 3, 1) := by decide +kernel
theorem dX2_readRoot_33 : decode cX2_readRoot 33 = .ok (.ifCond .lt 23, 3) := by decide +kernel
theorem dX2_readRoot_36 : decode cX2_readRoot 36 = .ok (.iload 4, 2) := by decide +kernel
theorem dX2_readRoot_38 : decode cX2_readRoot 38 = .ok (.ifCond .lt 18, 3) := by decide +kernel
theorem dX2_readRoot_41 : decode cX2_readRoot 41 = .ok (.aload_n 1, 1) := by decide +kernel
theorem dX2_readRoot_42 : decode cX2_readRoot 42 = .ok (.iload_n 2, 1) := by decide +kernel
theorem dX2_readRoot_43 : decode cX2_readRoot 43 = .ok (.iload_n 3, 1) := by decide +kernel
theorem dX2_readRoot_44 : decode cX2_readRoot 44 = .ok (.iload 4, 2) := by decide +kernel
theorem dX2_readRoot_46 : decode cX2_readRoot 46 = .ok (.invokevirtual 58, 3) := by decide +kernel
theorem dX2_readRoot_49 : decode cX2_readRoot 49 = .ok (.ifCond .eq 7, 3) := by decide +kernel
theorem dX2_readRoot_52 : decode cX2_readRoot 52 = .ok (.iconst 1, 1) := by decide +kernel
theorem dX2_readRoot_53 : decode cX2_readRoot 53 = .ok (.goto 4, 3) := by decide +kernel
theorem dX2_readRoot_56 : decode cX2_readRoot 56 = .ok (.iconst 0, 1) := by decide +kernel
theorem dX2_readRoot_57 : decode cX2_readRoot 57 = .ok (.ireturn, 1) := by decide +kernel
theorem dX2_readReader_0 : decode cX2_readReader 0 = .ok (.aload_n 0, 1) := by decide +kernel
theorem dX2_readReader_1 : decode cX2_readReader 1 = .ok (.iconst 0, 1) := by decide +kernel
theorem dX2_readReader_2 : decode cX2_readReader 2 = .ok (.iconst 4, 1) := by decide +kernel
theorem dX2_readReader_3 : decode cX2_readReader 3 = .ok (.bipush 44, 2) := by decide +kernel
theorem dX2_readReader_5 : decode cX2_readReader 5 = .ok (.invokevirtual 54, 3) := by decide +kernel
theorem dX2_readReader_8 : decode cX2_readReader 8 = .ok (.istore_n 2, 1) := by decide +kernel
theorem dX2_readReader_9 : decode cX2_readReader 9 = .ok (.aload_n 0, 1) := by decide +kernel
theorem dX2_readReader_10 : decode cX2_readReader 10 = .ok (.iconst 1, 1) := by decide +kernel
theorem dX2_readReader_11 : decode cX2_readReader 11 = .ok (.bipush 12, 2) := by decide +kernel
theorem dX2_readReader_13 : decode cX2_readReader 13 = .ok (.bipush 44, 2) := by decide +kernel
theorem dX2_readReader_15 : decode cX2_readReader 15 = .ok (.invokevirtual 54, 3) := by decide +kernel
theorem dX2_readReader_18 : decode cX2_readReader 18 = .ok (.istore_n 3, 1) := by decide +kernel
theorem dX2_readReader_19 : decode cX2_readReader 19 = .ok (.aload_n 0, 1) := by decide +kernel
theorem dX2_readReader_20 : decode cX2_readReader 20 = .ok (.iconst 0, 1) := by decide +kernel
theorem dX2_readReader_21 : decode cX2_readReader 21 = .ok (.bipush 60, 2) := by decide +kernel
theorem dX2_readReader_23 : decode cX2_readReader 23 = .ok (.bipush 59, 2) := by decide +kernel
theorem dX2_readReader_25 : decode cX2_readReader 25 = .ok (.invokevirtual 54, 3) := by decide +kernel
theorem dX2_readReader_28 : decode cX2_readReader 28 = .ok (.istore 4, 2) := by decide +kernel
theorem dX2_readReader_30 : decode cX2_readReader 30 = .ok (.iload_n 2, 1) := by decide +kernel
theorem dX2_readReader_31 : decode cX2_readReader 31 = .ok (.ifCond .lt 27, 3) := by decide +kernel
theorem dX2_readReader_34 : decode cX2_readReader 34 = .ok (.iload_n 3, 1) := by decide +kernel
theorem dX2_readReader_35 : decode cX2_readReader 35 = .ok (.ifCond .lt 23, 3) := by decide +kernel
theorem dX2_readReader_38 : decode cX2_readReader 38 = .ok (.iload 4, 2) := by decide +kernel
theorem dX2_readReader_40 : decode cX2_readReader 40 = .ok (.ifCond .lt 18, 3) := by decide +kernel
theorem dX2_readReader_43 : decode cX2_readReader 43 = .ok (.aload_n 1, 1) := by decide +kernel
theorem dX2_readReader_44 : decode cX2_readReader 44 = .ok (.iload_n 2, 1) := by decide +kernel
theorem dX2_readReader_45 : decode cX2_readReader 45 = .ok (.iload_n 3, 1) := by decide +kernel
theorem dX2_readReader_46 : decode cX2_readReader 46 = .ok (.iload 4, 2) := by decide +kernel
theorem dX2_readReader_48 : decode cX2_readReader 48 = .ok (.invokevirtual 62, 3) := by decide +kernel
theorem dX2_readReader_51 : decode cX2_readReader 51 = .ok (.ifCond .eq 7, 3) := by decide +kernel
theorem dX2_readReader_54 : decode cX2_readReader 54 = .ok (.iconst 1, 1) := by decide +kernel
theorem dX2_readReader_55 : decode cX2_readReader 55 = .ok (.goto 4, 3) := by decide +kernel
theorem dX2_readReader_58 : decode cX2_readReader 58 = .ok (.iconst 0, 1) := by decide +kernel
theorem dX2_readReader_59 : decode cX2_readReader 59 = .ok (.ireturn, 1) := by decide +kernel
theorem dX2_readWriting_0 : decode cX2_readWriting 0 = .ok (.aload_n 1, 1) := by decide +kernel
theorem dX2_readWriting_1 : decode cX2_readWriting 1 = .ok (.aload_n 0, 1) := by decide +kernel
theorem dX2_readWriting_2 : decode cX2_readWriting 2 = .ok (.bipush 9, 2) := by decide +kernel
theorem dX2_readWriting_4 : decode cX2_readWriting 4 = .ok (.bipush 59, 2) := by decide +kernel
theorem dX2_readWriting_6 : decode cX2_readWriting 6 = .ok (.invokevirtual 50, 3) := by decide +kernel
theorem dX2_readWriting_9 : decode cX2_readWriting 9 = .ok (.putfield 65, 3) := by decide +kernel
theorem dX2_readWriting_12 : decode cX2_readWriting 12 = .ok (.aload_n 1, 1) := by decide +kernel
theorem dX2_readWriting_13 : decode cX2_readWriting 13 = .ok (.getfield 65, 3) := by decide +kernel
theorem dX2_readWriting_16 : decode cX2_readWriting 16 = .ok (.ifCond .lt 7, 3) := by decide +kernel
theorem dX2_readWriting_19 : decode cX2_readWriting 19 = .ok (.iconst 1, 1) := by decide +kernel
theorem dX2_readWriting_20 : decode cX2_readWriting 20 = .ok (.goto 4, 3) := by decide +kernel
theorem dX2_readWriting_23 : decode cX2_readWriting 23 = .ok (.iconst 0, 1) := by decide +kernel
theorem dX2_readWriting_24 : decode cX2_readWriting 24 = .ok (.ireturn, 1) := by decide +kernel
theorem dX2_readRiver_0 : decode cX2_readRiver 0 = .ok (.aload_n 0, 1) := by decide +kernel
theorem dX2_readRiver_1 : decode cX2_readRiver 1 = .ok (.iconst 3, 1) := by decide +kernel
theorem dX2_readRiver_2 : decode cX2_readRiver 2 = .ok (.bipush 60, 2) := by decide +kernel
theorem dX2_readRiver_4 : decode cX2_readRiver 4 = .ok (.bipush 44, 2) := by decide +kernel
theorem dX2_readRiver_6 : decode cX2_readRiver 6 = .ok (.invokevirtual 54, 3) := by decide +kernel
theorem dX2_readRiver_9 : decode cX2_readRiver 9 = .ok (.istore_n 2, 1) := by decide +kernel
theorem dX2_readRiver_10 : decode cX2_readRiver 10 = .ok (.aload_n 0, 1) := by decide +kernel
theorem dX2_readRiver_11 : decode cX2_readRiver 11 = .ok (.iconst 0, 1) := by decide +kernel
theorem dX2_readRiver_12 : decode cX2_readRiver 12 = .ok (.bipush 24, 2) := by decide +kernel
theorem dX2_readRiver_14 : decode cX2_readRiver 14 = .ok (.bipush 44, 2) := by decide +kernel
theorem dX2_readRiver_16 : decode cX2_readRiver 16 = .ok (.invokevirtual 54, 3) := by decide +kernel
theorem dX2_readRiver_19 : decode cX2_readRiver 19 = .ok (.istore_n 3, 1) := by decide +kernel
theorem dX2_readRiver_20 : decode cX2_readRiver 20 = .ok (.aload_n 0, 1) := by decide +kernel
theorem dX2_readRiver_21 : decode cX2_readRiver 21 = .ok (.iconst 1, 1) := by decide +kernel
theorem dX2_readRiver_22 : decode cX2_readRiver 22 = .ok (.bipush 20, 2) := by decide +kernel
theorem dX2_readRiver_24 : decode cX2_readRiver 24 = .ok (.bipush 59, 2) := by decide +kernel
theorem dX2_readRiver_26 : decode cX2_readRiver 26 = .ok (.invokevirtual 54, 3) := by decide +kernel
theorem dX2_readRiver_29 : decode cX2_readRiver 29 = .ok (.istore 4, 2) := by decide +kernel
theorem dX2_readRiver_31 : decode cX2_readRiver 31 = .ok (.aload_n 1, 1) := by decide +kernel
theorem dX2_readRiver_32 : decode cX2_readRiver 32 = .ok (.iload_n 2, 1) := by decide +kernel
theorem dX2_readRiver_33 : decode cX2_readRiver 33 = .ok (.iload_n 3, 1) := by decide +kernel
theorem dX2_readRiver_34 : decode cX2_readRiver 34 = .ok (.iload 4, 2) := by decide +kernel
theorem dX2_readRiver_36 : decode cX2_readRiver 36 = .ok (.invokevirtual 68, 3) := by decide +kernel
theorem dX2_readRiver_39 : decode cX2_readRiver 39 = .ok (.iload_n 2, 1) := by decide +kernel
theorem dX2_readRiver_40 : decode cX2_readRiver 40 = .ok (.ifCond .lt 16, 3) := by decide +kernel
theorem dX2_readRiver_43 : decode cX2_readRiver 43 = .ok (.iload_n 3, 1) := by decide +kernel
theorem dX2_readRiver_44 : decode cX2_readRiver 44 = .ok (.ifCond .lt 12, 3) := by decide +kernel
theorem dX2_readRiver_47 : decode cX2_readRiver 47 = .ok (.iload 4, 2) := by decide +kernel
theorem dX2_readRiver_49 : decode cX2_readRiver 49 = .ok (.ifCond .lt 7, 3) := by decide +kernel
theorem dX2_readRiver_52 : decode cX2_readRiver 52 = .ok (.iconst 1, 1) := by decide +kernel
theorem dX2_readRiver_53 : decode cX2_readRiver 53 = .ok (.goto 4, 3) := by decide +kernel
theorem dX2_readRiver_56 : decode cX2_readRiver 56 = .ok (.iconst 0, 1) := by decide +kernel
theorem dX2_readRiver_57 : decode cX2_readRiver 57 = .ok (.ireturn, 1) := by decide +kernel
theorem dX2_readGold_0 : decode cX2_readGold 0 = .ok (.aload_n 1, 1) := by decide +kernel
theorem dX2_readGold_1 : decode cX2_readGold 1 = .ok (.aload_n 0, 1) := by decide +kernel
theorem dX2_readGold_2 : decode cX2_readGold 2 = .ok (.iconst 0, 1) := by decide +kernel
theorem dX2_readGold_3 : decode cX2_readGold 3 = .ok (.bipush 99, 2) := by decide +kernel
theorem dX2_readGold_5 : decode cX2_readGold 5 = .ok (.bipush 59, 2) := by decide +kernel
theorem dX2_readGold_7 : decode cX2_readGold 7 = .ok (.invokevirtual 54, 3) := by decide +kernel
theorem dX2_readGold_10 : decode cX2_readGold 10 = .ok (.putfield 72, 3) := by decide +kernel
theorem dX2_readGold_13 : decode cX2_readGold 13 = .ok (.aload_n 1, 1) := by decide +kernel
theorem dX2_readGold_14 : decode cX2_readGold 14 = .ok (.getfield 72, 3) := by decide +kernel
theorem dX2_readGold_17 : decode cX2_readGold 17 = .ok (.ifCond .lt 7, 3) := by decide +kernel
theorem dX2_readGold_20 : decode cX2_readGold 20 = .ok (.iconst 1, 1) := by decide +kernel
theorem dX2_readGold_21 : decode cX2_readGold 21 = .ok (.goto 4, 3) := by decide +kernel
theorem dX2_readGold_24 : decode cX2_readGold 24 = .ok (.iconst 0, 1) := by decide +kernel
theorem dX2_readGold_25 : decode cX2_readGold 25 = .ok (.ireturn, 1) := by decide +kernel
theorem dX2_readRow_0 : decode cX2_readRow 0 = .ok (.iconst 0, 1) := by decide +kernel
theorem dX2_readRow_1 : decode cX2_readRow 1 = .ok (.istore_n 3, 1) := by decide +kernel
theorem dX2_readRow_2 : decode cX2_readRow 2 = .ok (.iconst 0, 1) := by decide +kernel
theorem dX2_readRow_3 : decode cX2_readRow 3 = .ok (.istore 4, 2) := by decide +kernel
theorem dX2_readRow_5 : decode cX2_readRow 5 = .ok (.iload 4, 2) := by decide +kernel
theorem dX2_readRow_7 : decode cX2_readRow 7 = .ok (.iload_n 1, 1) := by decide +kernel
theorem dX2_readRow_8 : decode cX2_readRow 8 = .ok (.if_icmp .ge 52, 3) := by decide +kernel
theorem dX2_readRow_11 : decode cX2_readRow 11 = .ok (.aload_n 0, 1) := by decide +kernel
theorem dX2_readRow_12 : decode cX2_readRow 12 = .ok (.invokevirtual 31, 3) := by decide +kernel
theorem dX2_readRow_15 : decode cX2_readRow 15 = .ok (.bipush 97, 2) := by decide +kernel
theorem dX2_readRow_17 : decode cX2_readRow 17 = .ok (.if_icmp .lt 43, 3) := by decide +kernel
theorem dX2_readRow_20 : decode cX2_readRow 20 = .ok (.aload_n 0, 1) := by decide +kernel
theorem dX2_readRow_21 : decode cX2_readRow 21 = .ok (.invokevirtual 31, 3) := by decide +kernel
theorem dX2_readRow_24 : decode cX2_readRow 24 = .ok (.bipush 101, 2) := by decide +kernel
theorem dX2_readRow_26 : decode cX2_readRow 26 = .ok (.if_icmp .gt 34, 3) := by decide +kernel
theorem dX2_readRow_29 : decode cX2_readRow 29 = .ok (.iload_n 3, 1) := by decide +kernel
theorem dX2_readRow_30 : decode cX2_readRow 30 = .ok (.bipush 6, 2) := by decide +kernel
theorem dX2_readRow_32 : decode cX2_readRow 32 = .ok (.imul, 1) := by decide +kernel
theorem dX2_readRow_33 : decode cX2_readRow 33 = .ok (.aload_n 0, 1) := by decide +kernel
theorem dX2_readRow_34 : decode cX2_readRow 34 = .ok (.invokevirtual 31, 3) := by decide +kernel
theorem dX2_readRow_37 : decode cX2_readRow 37 = .ok (.iadd, 1) := by decide +kernel
theorem dX2_readRow_38 : decode cX2_readRow 38 = .ok (.bipush 97, 2) := by decide +kernel
theorem dX2_readRow_40 : decode cX2_readRow 40 = .ok (.isub, 1) := by decide +kernel
theorem dX2_readRow_41 : decode cX2_readRow 41 = .ok (.iconst 1, 1) := by decide +kernel
theorem dX2_readRow_42 : decode cX2_readRow 42 = .ok (.iadd, 1) := by decide +kernel
theorem dX2_readRow_43 : decode cX2_readRow 43 = .ok (.istore_n 3, 1) := by decide +kernel
theorem dX2_readRow_44 : decode cX2_readRow 44 = .ok (.aload_n 0, 1) := by decide +kernel
theorem dX2_readRow_45 : decode cX2_readRow 45 = .ok (.dup, 1) := by decide +kernel
theorem dX2_readRow_46 : decode cX2_readRow 46 = .ok (.getfield 24, 3) := by decide +kernel
theorem dX2_readRow_49 : decode cX2_readRow 49 = .ok (.iconst 1, 1) := by decide +kernel
theorem dX2_readRow_50 : decode cX2_readRow 50 = .ok (.iadd, 1) := by decide +kernel
theorem dX2_readRow_51 : decode cX2_readRow 51 = .ok (.putfield 24, 3) := by decide +kernel
theorem dX2_readRow_54 : decode cX2_readRow 54 = .ok (.iinc 4 1, 3) := by decide +kernel
theorem dX2_readRow_57 : decode cX2_readRow 57 = .ok (.goto (-52), 3) := by decide +kernel
theorem dX2_readRow_60 : decode cX2_readRow 60 = .ok (.iload_n 3, 1) := by decide +kernel
theorem dX2_readRow_61 : decode cX2_readRow 61 = .ok (.ifCond .le 15, 3) := by decide +kernel
theorem dX2_readRow_64 : decode cX2_readRow 64 = .ok (.aload_n 0, 1) := by decide +kernel
theorem dX2_readRow_65 : decode cX2_readRow 65 = .ok (.iload_n 2, 1) := by decide +kernel
theorem dX2_readRow_66 : decode cX2_readRow 66 = .ok (.invokevirtual 75, 3) := by decide +kernel
theorem dX2_readRow_69 : decode cX2_readRow 69 = .ok (.ifCond .eq 7, 3) := by decide +kernel
theorem dX2_readRow_72 : decode cX2_readRow 72 = .ok (.iload_n 3, 1) := by decide +kernel
theorem dX2_readRow_73 : decode cX2_readRow 73 = .ok (.goto 4, 3) := by decide +kernel
theorem dX2_readRow_76 : decode cX2_readRow 76 = .ok (.iconst (-1), 1) := by decide +kernel
theorem dX2_readRow_77 : decode cX2_readRow 77 = .ok (.ireturn, 1) := by decide +kernel
theorem dX2_readNumber_0 : decode cX2_readNumber 0 = .ok (.iconst (-1), 1) := by decide +kernel
theorem dX2_readNumber_1 : decode cX2_readNumber 1 = .ok (.istore 4, 2) := by decide +kernel
theorem dX2_readNumber_3 : decode cX2_readNumber 3 = .ok (.iconst 0, 1) := by decide +kernel
theorem dX2_readNumber_4 : decode cX2_readNumber 4 = .ok (.istore 5, 2) := by decide +kernel
theorem dX2_readNumber_6 : decode cX2_readNumber 6 = .ok (.iload 5, 2) := by decide +kernel
theorem dX2_readNumber_8 : decode cX2_readNumber 8 = .ok (.iconst 2, 1) := by decide +kernel
theorem dX2_readNumber_9 : decode cX2_readNumber 9 = .ok (.if_icmp .ge 56, 3) := by decide +kernel
theorem dX2_readNumber_12 : decode cX2_readNumber 12 = .ok (.aload_n 0, 1) := by decide +kernel
theorem dX2_readNumber_13 : decode cX2_readNumber 13 = .ok (.invokevirtual 31, 3) := by decide +kernel
theorem dX2_readNumber_16 : decode cX2_readNumber 16 = .ok (.bipush 48, 2) := by decide +kernel
theorem dX2_readNumber_18 : decode cX2_readNumber 18 = .ok (.if_icmp .lt 47, 3) := by decide +kernel
theorem dX2_readNumber_21 : decode cX2_readNumber 21 = .ok (.aload_n 0, 1) := by decide +kernel
theorem dX2_readNumber_22 : decode cX2_readNumber 22 = .ok (.invokevirtual 31, 3) := by decide +kernel
theorem dX2_readNumber_25 : decode cX2_readNumber 25 = .ok (.bipush 57, 2) := by decide +kernel
theorem dX2_readNumber_27 : decode cX2_readNumber 27 = .ok (.if_icmp .gt 38, 3) := by decide +kernel
theorem dX2_readNumber_30 : decode cX2_readNumber 30 = .ok (.iconst 0, 1) := by decide +kernel
theorem dX2_readNumber_31 : decode cX2_readNumber 31 = .ok (.iload 4, 2) := by decide +kernel
theorem dX2_readNumber_33 : decode cX2_readNumber 33 = .ok (.invokestatic 79, 3) := by decide +kernel
theorem dX2_readNumber_36 : decode cX2_readNumber 36 = .ok (.bipush 10, 2) := by decide +kernel
theorem dX2_readNumber_38 : decode cX2_readNumber 38 = .ok (.imul, 1) := by decide +kernel
theorem dX2_readNumber_39 : decode cX2_readNumber 39 = .ok (.aload_n 0, 1) := by decide +kernel
theorem dX2_readNumber_40 : decode cX2_readNumber 40 = .ok (.invokevirtual 31, 3) := by decide +kernel
theorem dX2_readNumber_43 : decode cX2_readNumber 43 = .ok (.iadd, 1) := by decide +kernel
theorem dX2_readNumber_44 : decode cX2_readNumber 44 = .ok (.bipush 48, 2) := by decide +kernel
theorem dX2_readNumber_46 : decode cX2_readNumber 46 = .ok (.isub, 1) := by decide +kernel
theorem dX2_readNumber_47 : decode cX2_readNumber 47 = .ok (.istore 4, 2) := by decide +kernel
theorem dX2_readNumber_49 : decode cX2_readNumber 49 = .ok (.aload_n 0, 1) := by decide +kernel
theorem dX2_readNumber_50 : decode cX2_readNumber 50 = .ok (.dup, 1) := by decide +kernel
theorem dX2_readNumber_51 : decode cX2_readNumber 51 = .ok (.getfield 24, 3) := by decide +kernel
theorem dX2_readNumber_54 : decode cX2_readNumber 54 = .ok (.iconst 1, 1) := by decide +kernel
theorem dX2_readNumber_55 : decode cX2_readNumber 55 = .ok (.iadd, 1) := by decide +kernel
theorem dX2_readNumber_56 : decode cX2_readNumber 56 = .ok (.putfield 24, 3) := by decide +kernel
theorem dX2_readNumber_59 : decode cX2_readNumber 59 = .ok (.iinc 5 1, 3) := by decide +kernel
theorem dX2_readNumber_62 : decode cX2_readNumber 62 = .ok (.goto (-56), 3) := by decide +kernel
theorem dX2_readNumber_65 : decode cX2_readNumber 65 = .ok (.iload 4, 2) := by decide +kernel
theorem dX2_readNumber_67 : decode cX2_readNumber 67 = .ok (.iload_n 1, 1) := by decide +kernel
theorem dX2_readNumber_68 : decode cX2_readNumber 68 = .ok (.if_icmp .lt 22, 3) := by decide +kernel
theorem dX2_readNumber_71 : decode cX2_readNumber 71 = .ok (.iload 4, 2) := by decide +kernel
theorem dX2_readNumber_73 : decode cX2_readNumber 73 = .ok (.iload_n 2, 1) := by decide +kernel
theorem dX2_readNumber_74 : decode cX2_readNumber 74 = .ok (.if_icmp .gt 16, 3) := by decide +kernel
theorem dX2_readNumber_77 : decode cX2_readNumber 77 = .ok (.aload_n 0, 1) := by decide +kernel
theorem dX2_readNumber_78 : decode cX2_readNumber 78 = .ok (.iload_n 3, 1) := by decide +kernel
theorem dX2_readNumber_79 : decode cX2_readNumber 79 = .ok (.invokevirtual 75, 3) := by decide +kernel
theorem dX2_readNumber_82 : decode cX2_readNumber 82 = .ok (.ifCond .eq 8, 3) := by decide +kernel
theorem dX2_readNumber_85 : decode cX2_readNumber 85 = .ok (.iload 4, 2) := by decide +kernel
theorem dX2_readNumber_87 : decode cX2_readNumber 87 = .ok (.goto 4, 3) := by decide +kernel
theorem dX2_readNumber_90 : decode cX2_readNumber 90 = .ok (.iconst (-1), 1) := by decide +kernel
theorem dX2_readNumber_91 : decode cX2_readNumber 91 = .ok (.ireturn, 1) := by decide +kernel
theorem dX2_isNext_0 : decode cX2_isNext 0 = .ok (.aload_n 0, 1) := by decide +kernel
theorem dX2_isNext_1 : decode cX2_isNext 1 = .ok (.invokevirtual 31, 3) := by decide +kernel
theorem dX2_isNext_4 : decode cX2_isNext 4 = .ok (.iload_n 1, 1) := by decide +kernel
theorem dX2_isNext_5 : decode cX2_isNext 5 = .ok (.if_icmp .ne 7, 3) := by decide +kernel
theorem dX2_isNext_8 : decode cX2_isNext 8 = .ok (.iconst 1, 1) := by decide +kernel
theorem dX2_isNext_9 : decode cX2_isNext 9 = .ok (.goto 4, 3) := by decide +kernel
theorem dX2_isNext_12 : decode cX2_isNext 12 = .ok (.iconst 0, 1) := by decide +kernel
theorem dX2_isNext_13 : decode cX2_isNext 13 = .ok (.istore_n 2, 1) := by decide +kernel
theorem dX2_isNext_14 : decode cX2_isNext 14 = .ok (.aload_n 0, 1) := by decide +kernel
theorem dX2_isNext_15 : decode cX2_isNext 15 = .ok (.dup, 1) := by decide +kernel
theorem dX2_isNext_16 : decode cX2_isNext 16 = .ok (.getfield 24, 3) := by decide +kernel
theorem dX2_isNext_19 : decode cX2_isNext 19 = .ok (.iconst 1, 1) := by decide +kernel
theorem dX2_isNext_20 : decode cX2_isNext 20 = .ok (.iadd, 1) := by decide +kernel
theorem dX2_isNext_21 : decode cX2_isNext 21 = .ok (.putfield 24, 3) := by decide +kernel
theorem dX2_isNext_24 : decode cX2_isNext 24 = .ok (.iload_n 2, 1) := by decide +kernel
theorem dX2_isNext_25 : decode cX2_isNext 25 = .ok (.ireturn, 1) := by decide +kernel
theorem dX2_sign_0 : decode cX2_sign 0 = .ok (.aload_n 0, 1) := by decide +kernel
theorem dX2_sign_1 : decode cX2_sign 1 = .ok (.getfield 24, 3) := by decide +kernel
theorem dX2_sign_4 : decode cX2_sign 4 = .ok (.aload_n 0, 1) := by decide +kernel
theorem dX2_sign_5 : decode cX2_sign 5 = .ok (.getfield 15, 3) := by decide +kernel
theorem dX2_sign_8 : decode cX2_sign 8 = .ok (.if_icmp .ge 25, 3) := by decide +kernel
theorem dX2_sign_11 : decode cX2_sign 11 = .ok (.aload_n 0, 1) := by decide +kernel
theorem dX2_sign_12 : decode cX2_sign 12 = .ok (.getfield 24, 3) := by decide +kernel
theorem dX2_sign_15 : decode cX2_sign 15 = .ok (.sipush 200, 3) := by decide +kernel
theorem dX2_sign_18 : decode cX2_sign 18 = .ok (.if_icmp .ge 15, 3) := by decide +kernel
theorem dX2_sign_21 : decode cX2_sign 21 = .ok (.aload_n 0, 1) := by decide +kernel
theorem dX2_sign_22 : decode cX2_sign 22 = .ok (.getfield 9, 3) := by decide +kernel
theorem dX2_sign_25 : decode cX2_sign 25 = .ok (.aload_n 0, 1) := by decide +kernel
theorem dX2_sign_26 : decode cX2_sign 26 = .ok (.getfield 24, 3) := by decide +kernel
theorem dX2_sign_29 : decode cX2_sign 29 = .ok (.caload, 1) := by decide +kernel
theorem dX2_sign_30 : decode cX2_sign 30 = .ok (.goto 4, 3) := by decide +kernel
theorem dX2_sign_33 : decode cX2_sign 33 = .ok (.iconst 0, 1) := by decide +kernel
theorem dX2_sign_34 : decode cX2_sign 34 = .ok (.ireturn, 1) := by decide +kernel
theorem dX3_init_0 : decode cX3_init 0 = .ok (.aload_n 0, 1) := by decide +kernel
theorem dX3_init_1 : decode cX3_init 1 = .ok (.invokespecial 3, 3) := by decide +kernel
theorem dX3_init_4 : decode cX3_init 4 = .ok (.aload_n 0, 1) := by decide +kernel
theorem dX3_init_5 : decode cX3_init 5 = .ok (.bipush 8, 2) := by decide +kernel
theorem dX3_init_7 : decode cX3_init 7 = .ok (.newarray .int, 2) := by decide +kernel
theorem dX3_init_9 : decode cX3_init 9 = .ok (.putfield 9, 3) := by decide +kernel
theorem dX3_init_12 : decode cX3_init 12 = .ok (.aload_n 0, 1) := by decide +kernel
theorem dX3_init_13 : decode cX3_init 13 = .ok (.bipush 8, 2) := by decide +kernel
theorem dX3_init_15 : decode cX3_init 15 = .ok (.newarray .int, 2) := by decide +kernel
theorem dX3_init_17 : decode cX3_init 17 = .ok (.putfield 15, 3) := by decide +kernel
theorem dX3_init_20 : decode cX3_init 20 = .ok (.aload_n 0, 1) := by decide +kernel
theorem dX3_init_21 : decode cX3_init 21 = .ok (.bipush 8, 2) := by decide +kernel
theorem dX3_init_23 : decode cX3_init 23 = .ok (.newarray .int, 2) := by decide +kernel
theorem dX3_init_25 : decode cX3_init 25 = .ok (.putfield 18, 3) := by decide +kernel
theorem dX3_init_28 : decode cX3_init 28 = .ok (.aload_n 0, 1) := by decide +kernel
theorem dX3_init_29 : decode cX3_init 29 = .ok (.bipush 8, 2) := by decide +kernel
theorem dX3_init_31 : decode cX3_init 31 = .ok (.newarray .int, 2) := by decide +kernel
theorem dX3_init_33 : decode cX3_init 33 = .ok (.putfield 21, 3) := by decide +kernel
theorem dX3_init_36 : decode cX3_init 36 = .ok (.aload_n 0, 1) := by decide +kernel
theorem dX3_init_37 : decode cX3_init 37 = .ok (.iconst 5, 1) := by decide +kernel
theorem dX3_init_38 : decode cX3_init 38 = .ok (.newarray .int, 2) := by decide +kernel
theorem dX3_init_40 : decode cX3_init 40 = .ok (.putfield 24, 3) := by decide +kernel
theorem dX3_init_43 : decode cX3_init 43 = .ok (.aload_n 0, 1) := by decide +kernel
theorem dX3_init_44 : decode cX3_init 44 = .ok (.iconst 5, 1) := by decide +kernel
theorem dX3_init_45 : decode cX3_init 45 = .ok (.newarray .int, 2) := by decide +kernel
theorem dX3_init_47 : decode cX3_init 47 = .ok (.putfield 27, 3) := by decide +kernel
theorem dX3_init_50 : decode cX3_init 50 = .ok (.aload_n 0, 1) := by decide +kernel
theorem dX3_init_51 : decode cX3_init 51 = .ok (.iconst 5, 1) := by decide +kernel
theorem dX3_init_52 : decode cX3_init 52 = .ok (.newarray .int, 2) := by decide +kernel
theorem dX3_init_54 : decode cX3_init 54 = .ok (.putfield 30, 3) := by decide +kernel
theorem dX3_init_57 : decode cX3_init 57 = .ok (.aload_n 0, 1) := by decide +kernel
theorem dX3_init_58 : decode cX3_init 58 = .ok (.sipush 216, 3) := by decide +kernel
theorem dX3_init_61 : decode cX3_init 61 = .ok (.newarray .int, 2) := by decide +kernel
theorem dX3_init_63 : decode cX3_init 63 = .ok (.putfield 33, 3) := by decide +kernel
theorem dX3_init_66 : decode cX3_init 66 = .ok (.return_, 1) := by decide +kernel
theorem dX3_clear_0 : decode cX3_clear 0 = .ok (.iconst 0, 1) := by decide +kernel
theorem dX3_clear_1 : decode cX3_clear 1 = .ok (.istore_n 1, 1) := by decide +kernel
theorem dX3_clear_2 : decode cX3_clear 2 = .ok (.iload_n 1, 1) := by decide +kernel
theorem dX3_clear_3 : decode cX3_clear 3 = .ok (.aload_n 0, 1) := by decide +kernel
theorem dX3_clear_4 : decode cX3_clear 4 = .ok (.getfield 36, 3) := by decide +kernel
theorem dX3_clear_7 : decode cX3_clear 7 = .ok (.if_icmp .ge 21, 3) := by decide +kernel
theorem dX3_clear_10 : decode cX3_clear 10 = .ok (.aload_n 0, 1) := by decide +kernel
theorem dX3_clear_11 : decode cX3_clear 11 = .ok (.getfield 33, 3) := by decide +kernel
theorem dX3_clear_14 : decode cX3_clear 14 = .ok (.aload_n 0, 1) := by decide +kernel
theorem dX3_clear_15 : decode cX3_clear 15 = .ok (.getfield 9, 3) := by decide +kernel
theorem dX3_clear_18 : decode cX3_clear 18 = .ok (.iload_n 1, 1) := by decide +kernel
theorem dX3_clear_19 : decode cX3_clear 19 = .ok (.iaload, 1) := by decide +kernel
theorem dX3_clear_20 : decode cX3_clear 20 = .ok (.iconst 0, 1) := by decide +kernel
theorem dX3_clear_21 : decode cX3_clear 21 = .ok (.iastore, 1) := by decide +kernel
theorem dX3_clear_22 : decode cX3_clear 22 = .ok (.iinc 1 1, 3) := by decide +kernel
theorem dX3_clear_25 : decode cX3_clear 25 = .ok (.goto (-23), 3) := by decide +kernel
theorem dX3_clear_28 : decode cX3_clear 28 = .ok (.aload_n 0, 1) := by decide +kernel
theorem dX3_clear_29 : decode cX3_clear 29 = .ok (.iconst 0, 1) := by decide +kernel
theorem dX3_clear_30 : decode cX3_clear 30 = .ok (.putfield 36, 3) := by decide +kernel
theorem dX3_clear_33 : decode cX3_clear 33 = .ok (.aload_n 0, 1) := by decide +kernel
theorem dX3_clear_34 : decode cX3_clear 34 = .ok (.iconst 0, 1) := by decide +kernel
theorem dX3_clear_35 : decode cX3_clear 35 = .ok (.putfield 40, 3) := by decide +kernel
theorem dX3_clear_38 : decode cX3_clear 38 = .ok (.aload_n 0, 1) := by decide +kernel
theorem dX3_clear_39 : decode cX3_clear 39 = .ok (.iconst 0, 1) := by decide +kernel
theorem dX3_clear_40 : decode cX3_clear 40 = .ok (.putfield 43, 3) := by decide +kernel
theorem dX3_clear_43 : decode cX3_clear 43 = .ok (.aload_n 0, 1) := by decide +kernel
theorem dX3_clear_44 : decode cX3_clear 44 = .ok (.bipush 20, 2) := by decide +kernel
theorem dX3_clear_46 : decode cX3_clear 46 = .ok (.bipush 6, 2) := by decide +kernel
theorem dX3_clear_48 : decode cX3_clear 48 = .ok (.iconst 3, 1) := by decide +kernel
theorem dX3_clear_49 : decode cX3_clear 49 = .ok (.invokevirtual 46, 3) := by decide +kernel
theorem dX3_clear_52 : decode cX3_clear 52 = .ok (.aload_n 0, 1) := by decide +kernel
theorem dX3_clear_53 : decode cX3_clear 53 = .ok (.bipush 30, 2) := by decide +kernel
theorem dX3_clear_55 : decode cX3_clear 55 = .ok (.putfield 50, 3) := by decide +kernel
theorem dX3_clear_58 : decode cX3_clear 58 = .ok (.return_, 1) := by decide +kernel
theorem dX3_addRoot_0 : decode cX3_addRoot 0 = .ok (.iload_n 1, 1) := by decide +kernel
theorem dX3_addRoot_1 : decode cX3_addRoot 1 = .ok (.ifCond .le 22, 3) := by decide +kernel
theorem dX3_addRoot_4 : decode cX3_addRoot 4 = .ok (.iload_n 1, 1) := by decide +kernel
theorem dX3_addRoot_5 : decode cX3_addRoot 5 = .ok (.sipush 216, 3) := by decide +kernel
theorem dX3_addRoot_8 : decode cX3_addRoot 8 = .ok (.if_icmp .ge 15, 3) := by decide +kernel
theorem dX3_addRoot_11 : decode cX3_addRoot 11 = .ok (.iload_n 2, 1) := by decide +kernel
theorem dX3_addRoot_12 : decode cX3_addRoot 12 = .ok (.ifCond .gt 7, 3) := by decide +kernel
theorem dX3_addRoot_15 : decode cX3_addRoot 15 = .ok (.iload_n 3, 1) := by decide +kernel
theorem dX3_addRoot_16 : decode cX3_addRoot 16 = .ok (.ifCond .le 7, 3) := by decide +kernel
theorem dX3_addRoot_19 : decode cX3_addRoot 19 = .ok (.iconst 1, 1) := by decide +kernel
theorem dX3_addRoot_20 : decode cX3_addRoot 20 = .ok (.goto 4, 3) := by decide +kernel
theorem dX3_addRoot_23 : decode cX3_addRoot 23 = .ok (.iconst 0, 1) := by decide +kernel
theorem dX3_addRoot_24 : decode cX3_addRoot 24 = .ok (.istore 4, 2) := by decide +kernel
theorem dX3_addRoot_26 : decode cX3_addRoot 26 = .ok (.iload 4, 2) := by decide +kernel
theorem dX3_addRoot_28 : decode cX3_addRoot 28 = .ok (.ifCond .eq 21, 3) := by decide +kernel
theorem dX3_addRoot_31 : decode cX3_addRoot 31 = .ok (.aload_n 0, 1) := by decide +kernel
theorem dX3_addRoot_32 : decode cX3_addRoot 32 = .ok (.getfield 36, 3) := by decide +kernel
theorem dX3_addRoot_35 : decode cX3_addRoot 35 = .ok (.bipush 8, 2) := by decide +kernel
theorem dX3_addRoot_37 : decode cX3_addRoot 37 = .ok (.if_icmp .ge 12, 3) := by decide +kernel
theorem dX3_addRoot_40 : decode cX3_addRoot 40 = .ok (.aload_n 0, 1) := by decide +kernel
theorem dX3_addRoot_41 : decode cX3_addRoot 41 = .ok (.getfield 33, 3) := by decide +kernel
theorem dX3_addRoot_44 : decode cX3_addRoot 44 = .ok (.iload_n 1, 1) := by decide +kernel
theorem dX3_addRoot_45 : decode cX3_addRoot 45 = .ok (.iaload, 1) := by decide +kernel
theorem dX3_addRoot_46 : decode cX3_addRoot 46 = .ok (.ifCond .eq 5, 3) := by decide +kernel
theorem dX3_addRoot_49 : decode cX3_addRoot 49 = .ok (.iconst 0, 1) := by decide +kernel
theorem dX3_addRoot_50 : decode cX3_addRoot 50 = .ok (.ireturn, 1) := by decide +kernel
theorem dX3_addRoot_51 : decode cX3_addRoot 51 = .ok (.aload_n 0, 1) := by decide +kernel
theorem dX3_addRoot_52 : decode cX3_addRoot 52 = .ok (.getfield 9, 3) := by decide +kernel
theorem dX3_addRoot_55 : decode cX3_addRoot 55 = .ok (.aload_n 0, 1) := by decide +kernel
theorem dX3_addRoot_56 : decode cX3_addRoot 56 = .ok (.getfield 36, 3) := by decide +kernel
theorem dX3_addRoot_59 : decode cX3_addRoot 59 = .ok (.iload_n 1, 1) := by decide +kernel
theorem dX3_addRoot_60 : decode cX3_addRoot 60 = .ok (.iastore, 1) := by decide +kernel
theorem dX3_addRoot_61 : decode cX3_addRoot 61 = .ok (.aload_n 0, 1) := by decide +kernel
theorem dX3_addRoot_62 : decode cX3_addRoot 62 = .ok (.getfield 15, 3) := by decide +kernel
theorem dX3_addRoot_65 : decode cX3_addRoot 65 = .ok (.aload_n 0, 1) := by decide +kernel
theorem dX3_addRoot_66 : decode cX3_addRoot 66 = .ok (.getfield 36, 3) := by decide +kernel
theorem dX3_addRoot_69 : decode cX3_addRoot 69 = .ok (.iload_n 1, 1) := by decide +kernel
theorem dX3_addRoot_70 : decode cX3_addRoot 70 = .ok (.invokestatic 53, 3) := by decide +kernel
theorem dX3_addRoot_73 : decode cX3_addRoot 73 = .ok (.iastore, 1) := by decide +kernel
theorem dX3_addRoot_74 : decode cX3_addRoot 74 = .ok (.aload_n 0, 1) := by decide +kernel
theorem dX3_addRoot_75 : decode cX3_addRoot 75 = .ok (.getfield 18, 3) := by decide +kernel
theorem dX3_addRoot_78 : decode cX3_addRoot 78 = .ok (.aload_n 0, 1) := by decide +kernel
theorem dX3_addRoot_79 : decode cX3_addRoot 79 = .ok (.getfield 36, 3) := by decide +kernel
theorem dX3_addRoot_82 : decode cX3_addRoot 82 = .ok (.iload_n 2, 1) := by decide +kernel
theorem dX3_addRoot_83 : decode cX3_addRoot 83 = .ok (.iastore, 1) := by decide +kernel
theorem dX3_addRoot_84 : decode cX3_addRoot 84 = .ok (.aload_n 0, 1) := by decide +kernel
theorem dX3_addRoot_85 : decode cX3_addRoot 85 = .ok (.getfield 21, 3) := by decide +kernel
theorem dX3_addRoot_88 : decode cX3_addRoot 88 = .ok (.aload_n 0, 1) := by decide +kernel
theorem dX3_addRoot_89 : decode cX3_addRoot 89 = .ok (.getfield 36, 3) := by decide +kernel
theorem dX3_addRoot_92 : decode cX3_addRoot 92 = .ok (.iload_n 3, 1) := by decide +kernel
theorem dX3_addRoot_93 : decode cX3_addRoot 93 = .ok (.iastore, 1) := by decide +kernel
theorem dX3_addRoot_94 : decode cX3_addRoot 94 = .ok (.aload_n 0, 1) := by decide +kernel
theorem dX3_addRoot_95 : decode cX3_addRoot 95 = .ok (.getfield 33, 3) := by decide +kernel
theorem dX3_addRoot_98 : decode cX3_addRoot 98 = .ok (.iload_n 1, 1) := by decide +kernel
theorem dX3_addRoot_99 : decode cX3_addRoot 99 = .ok (.iload_n 2, 1) := by decide +kernel
theorem dX3_addRoot_100 : decode cX3_addRoot 100 = .ok (.ifCond .le 14, 3) := by decide +kernel
theorem dX3_addRoot_103 : decode cX3_addRoot 103 = .ok (.iconst 1, 1) := by decide +kernel
theorem dX3_addRoot_104 : decode cX3_addRoot 104 = .ok (.iconst 2, 1) := by decide +kernel
theorem dX3_addRoot_105 : decode cX3_addRoot 105 = .ok (.aload_n 0, 1) := by decide +kernel
theorem dX3_addRoot_106 : decode cX3_addRoot 106 = .ok (.getfield 36, 3) := by decide +kernel
theorem dX3_addRoot_109 : decode cX3_addRoot 109 = .ok (.imul, 1) := by decide +kernel
theorem dX3_addRoot_110 : decode cX3_addRoot 110 = .ok (.ishl, 1) := by decide +kernel
theorem dX3_addRoot_111 : decode cX3_addRoot 111 = .ok (.goto 4, 3) := by decide +kernel
theorem dX3_addRoot_114 : decode cX3_addRoot 114 = .ok (.iconst 0, 1) := by decide +kernel
theorem dX3_addRoot_115 : decode cX3_addRoot 115 = .ok (.iload_n 3, 1) := by decide +kernel
theorem dX3_addRoot_116 : decode cX3_addRoot 116 = .ok (.ifCond .le 14, 3) := by decide +kernel
theorem dX3_addRoot_119 : decode cX3_addRoot 119 = .ok (.iconst 2, 1) := by decide +kernel
theorem dX3_addRoot_120 : decode cX3_addRoot 120 = .ok (.iconst 2, 1) := by decide +kernel
theorem dX3_addRoot_121 : decode cX3_addRoot 121 = .ok (.aload_n 0, 1) := by decide +kernel
theorem dX3_addRoot_122 : decode cX3_addRoot 122 = .ok (.getfield 36, 3) := by decide +kernel
theorem dX3_addRoot_125 : decode cX3_addRoot 125 = .ok (.imul, 1) := by decide +kernel
theorem dX3_addRoot_126 : decode cX3_addRoot 126 = .ok (.ishl, 1) := by decide +kernel
theorem dX3_addRoot_127 : decode cX3_addRoot 127 = .ok (.goto 4, 3) := by decide +kernel
theorem dX3_addRoot_130 : decode cX3_addRoot 130 = .ok (.iconst 0, 1) := by decide +kernel
theorem dX3_addRoot_131 : decode cX3_addRoot 131 = .ok (.ior, 1) := by decide +kernel
theorem dX3_addRoot_132 : decode cX3_addRoot 132 = .ok (.iastore, 1) := by decide +kernel
theorem dX3_addRoot_133 : decode cX3_addRoot 133 = .ok (.aload_n 0, 1) := by decide +kernel
theorem dX3_addRoot_134 : decode cX3_addRoot 134 = .ok (.dup, 1) := by decide +kernel
theorem dX3_addRoot_135 : decode cX3_addRoot 135 = .ok (.getfield 36, 3) := by decide +kernel
theorem dX3_addRoot_138 : decode cX3_addRoot 138 = .ok (.iconst 1, 1) := by decide +kernel
theorem dX3_addRoot_139 : decode cX3_addRoot 139 = .ok (.iadd, 1) := by decide +kernel
theorem dX3_addRoot_140 : decode cX3_addRoot 140 = .ok (.putfield 36, 3) := by decide +kernel
theorem dX3_addRoot_143 : decode cX3_addRoot 143 = .ok (.iconst 1, 1) := by decide +kernel
theorem dX3_addRoot_144 : decode cX3_addRoot 144 = .ok (.ireturn, 1) := by decide +kernel
theorem dX3_addReader_0 : decode cX3_addReader 0 = .ok (.aload_n 0, 1) := by decide +kernel
theorem dX3_addReader_1 : decode cX3_addReader 1 = .ok (.getfield 40, 3) := by decide +kernel
theorem dX3_addReader_4 : decode cX3_addReader 4 = .ok (.iconst 5, 1) := by decide +kernel
theorem dX3_addReader_5 : decode cX3_addReader 5 = .ok (.if_icmp .lt 5, 3) := by decide +kernel
theorem dX3_addReader_8 : decode cX3_addReader 8 = .ok (.iconst 0, 1) := by decide +kernel
theorem dX3_addReader_9 : decode cX3_addReader 9 = .ok (.ireturn, 1) := by decide +kernel
theorem dX3_addReader_10 : decode cX3_addReader 10 = .ok (.aload_n 0, 1) := by decide +kernel
theorem dX3_addReader_11 : decode cX3_addReader 11 = .ok (.getfield 24, 3) := by decide +kernel
theorem dX3_addReader_14 : decode cX3_addReader 14 = .ok (.aload_n 0, 1) := by decide +kernel
theorem dX3_addReader_15 : decode cX3_addReader 15 = .ok (.getfield 40, 3) := by decide +kernel
theorem dX3_addReader_18 : decode cX3_addReader 18 = .ok (.iload_n 1, 1) := by decide +kernel
theorem dX3_addReader_19 : decode cX3_addReader 19 = .ok (.iastore, 1) := by decide +kernel
theorem dX3_addReader_20 : decode cX3_addReader 20 = .ok (.aload_n 0, 1) := by decide +kernel
theorem dX3_addReader_21 : decode cX3_addReader 21 = .ok (.getfield 27, 3) := by decide +kernel
theorem dX3_addReader_24 : decode cX3_addReader 24 = .ok (.aload_n 0, 1) := by decide +kernel
theorem dX3_addReader_25 : decode cX3_addReader 25 = .ok (.getfield 40, 3) := by decide +kernel
theorem dX3_addReader_28 : decode cX3_addReader 28 = .ok (.iload_n 2, 1) := by decide +kernel
theorem dX3_addReader_29 : decode cX3_addReader 29 = .ok (.iastore, 1) := by decide +kernel
theorem dX3_addReader_30 : decode cX3_addReader 30 = .ok (.aload_n 0, 1) := by decide +kernel
theorem dX3_addReader_31 : decode cX3_addReader 31 = .ok (.getfield 30, 3) := by decide +kernel
theorem dX3_addReader_34 : decode cX3_addReader 34 = .ok (.aload_n 0, 1) := by decide +kernel
theorem dX3_addReader_35 : decode cX3_addReader 35 = .ok (.getfield 40, 3) := by decide +kernel
theorem dX3_addReader_38 : decode cX3_addReader 38 = .ok (.iload_n 3, 1) := by decide +kernel
theorem dX3_addReader_39 : decode cX3_addReader 39 = .ok (.iastore, 1) := by decide +kernel
theorem dX3_addReader_40 : decode cX3_addReader 40 = .ok (.aload_n 0, 1) := by decide +kernel
theorem dX3_addReader_41 : decode cX3_addReader 41 = .ok (.dup, 1) := by decide +kernel
theorem dX3_addReader_42 : decode cX3_addReader 42 = .ok (.getfield 40, 3) := by decide +kernel
theorem dX3_addReader_45 : decode cX3_addReader 45 = .ok (.iconst 1, 1) := by decide +kernel
theorem dX3_addReader_46 : decode cX3_addReader 46 = .ok (.iadd, 1) := by decide +kernel
theorem dX3_addReader_47 : decode cX3_addReader 47 = .ok (.putfield 40, 3) := by decide +kernel
theorem dX3_addReader_50 : decode cX3_addReader 50 = .ok (.iconst 1, 1) := by decide +kernel
theorem dX3_addReader_51 : decode cX3_addReader 51 = .ok (.ireturn, 1) := by decide +kernel
theorem dX3_setRiver_0 : decode cX3_setRiver 0 = .ok (.aload_n 0, 1) := by decide +kernel
theorem dX3_setRiver_1 : decode cX3_setRiver 1 = .ok (.iload_n 1, 1) := by decide +kernel
theorem dX3_setRiver_2 : decode cX3_setRiver 2 = .ok (.putfield 57, 3) := by decide +kernel
theorem dX3_setRiver_5 : decode cX3_setRiver 5 = .ok (.aload_n 0, 1) := by decide +kernel
theorem dX3_setRiver_6 : decode cX3_setRiver 6 = .ok (.iload_n 2, 1) := by decide +kernel
theorem dX3_setRiver_7 : decode cX3_setRiver 7 = .ok (.putfield 60, 3) := by decide +kernel
theorem dX3_setRiver_10 : decode cX3_setRiver 10 = .ok (.aload_n 0, 1) := by decide +kernel
theorem dX3_setRiver_11 : decode cX3_setRiver 11 = .ok (.iload_n 3, 1) := by decide +kernel
theorem dX3_setRiver_12 : decode cX3_setRiver 12 = .ok (.putfield 63, 3) := by decide +kernel
theorem dX3_setRiver_15 : decode cX3_setRiver 15 = .ok (.return_, 1) := by decide +kernel
theorem dX3_wordsSaying_0 : decode cX3_wordsSaying 0 = .ok (.iconst 0, 1) := by decide +kernel
theorem dX3_wordsSaying_1 : decode cX3_wordsSaying 1 = .ok (.istore_n 2, 1) := by decide +kernel
theorem dX3_wordsSaying_2 : decode cX3_wordsSaying 2 = .ok (.iconst 0, 1) := by decide +kernel
theorem dX3_wordsSaying_3 : decode cX3_wordsSaying 3 = .ok (.istore_n 3, 1) := by decide +kernel
theorem dX3_wordsSaying_4 : decode cX3_wordsSaying 4 = .ok (.iload_n 3, 1) := by decide +kernel
theorem dX3_wordsSaying_5 : decode cX3_wordsSaying 5 = .ok (.aload_n 0, 1) := by decide +kernel
theorem dX3_wordsSaying_6 : decode cX3_wordsSaying 6 = .ok (.getfield 36, 3) := by decide +kernel
theorem dX3_wordsSaying_9 : decode cX3_wordsSaying 9 = .ok (.if_icmp .ge 31, 3) := by decide +kernel
theorem dX3_wordsSaying_12 : decode cX3_wordsSaying 12 = .ok (.iload_n 2, 1) := by decide +kernel
theorem dX3_wordsSaying_13 : decode cX3_wordsSaying 13 = .ok (.aload_n 0, 1) := by decide +kernel
theorem dX3_wordsSaying_14 : decode cX3_wordsSaying 14 = .ok (.getfield 21, 3) := by decide +kernel
theorem dX3_wordsSaying_17 : decode cX3_wordsSaying 17 = .ok (.iload_n 3, 1) := by decide +kernel
theorem dX3_wordsSaying_18 : decode cX3_wordsSaying 18 = .ok (.iaload, 1) := by decide +kernel
theorem dX3_wordsSaying_19 : decode cX3_wordsSaying 19 = .ok (.iload_n 1, 1) := by decide +kernel
theorem dX3_wordsSaying_20 : decode cX3_wordsSaying 20 = .ok (.if_icmp .ne 11, 3) := by decide +kernel
theorem dX3_wordsSaying_23 : decode cX3_wordsSaying 23 = .ok (.iconst 2, 1) := by decide +kernel
theorem dX3_wordsSaying_24 : decode cX3_wordsSaying 24 = .ok (.iconst 2, 1) := by decide +kernel
theorem dX3_wordsSaying_25 : decode cX3_wordsSaying 25 = .ok (.iload_n 3, 1) := by decide +kernel
theorem dX3_wordsSaying_26 : decode cX3_wordsSaying 26 = .ok (.imul, 1) := by decide +kernel
theorem dX3_wordsSaying_27 : decode cX3_wordsSaying 27 = .ok (.ishl, 1) := by decide +kernel
theorem dX3_wordsSaying_28 : decode cX3_wordsSaying 28 = .ok (.goto 4, 3) := by decide +kernel
theorem dX3_wordsSaying_31 : decode cX3_wordsSaying 31 = .ok (.iconst 0, 1) := by decide +kernel
theorem dX3_wordsSaying_32 : decode cX3_wordsSaying 32 = .ok (.ior, 1) := by decide +kernel
theorem dX3_wordsSaying_33 : decode cX3_wordsSaying 33 = .ok (.istore_n 2, 1) := by decide +kernel
theorem dX3_wordsSaying_34 : decode cX3_wordsSaying 34 = .ok (.iinc 3 1, 3) := by decide +kernel
theorem dX3_wordsSaying_37 : decode cX3_wordsSaying 37 = .ok (.goto (-33), 3) := by decide +kernel
theorem dX3_wordsSaying_40 : decode cX3_wordsSaying 40 = .ok (.iload_n 2, 1) := by decide +kernel
theorem dX3_wordsSaying_41 : decode cX3_wordsSaying 41 = .ok (.ireturn, 1) := by decide +kernel
theorem dX3_depthIn_0 : decode cX3_depthIn 0 = .ok (.iload_n 1, 1) := by decide +kernel
theorem dX3_depthIn_1 : decode cX3_depthIn 1 = .ok (.aload_n 0, 1) := by decide +kernel
theorem dX3_depthIn_2 : decode cX3_depthIn 2 = .ok (.getfield 60, 3) := by decide +kernel
theorem dX3_depthIn_5 : decode cX3_depthIn 5 = .ok (.if_icmp .gt 10, 3) := by decide +kernel
theorem dX3_depthIn_8 : decode cX3_depthIn 8 = .ok (.aload_n 0, 1) := by decide +kernel
theorem dX3_depthIn_9 : decode cX3_depthIn 9 = .ok (.getfield 57, 3) := by decide +kernel
theorem dX3_depthIn_12 : decode cX3_depthIn 12 = .ok (.goto 23, 3) := by decide +kernel
theorem dX3_depthIn_15 : decode cX3_depthIn 15 = .ok (.iconst 0, 1) := by decide +kernel
theorem dX3_depthIn_16 : decode cX3_depthIn 16 = .ok (.aload_n 0, 1) := by decide +kernel
theorem dX3_depthIn_17 : decode cX3_depthIn 17 = .ok (.getfield 57, 3) := by decide +kernel
theorem dX3_depthIn_20 : decode cX3_depthIn 20 = .ok (.aload_n 0, 1) := by decide +kernel
theorem dX3_depthIn_21 : decode cX3_depthIn 21 = .ok (.getfield 63, 3) := by decide +kernel
theorem dX3_depthIn_24 : decode cX3_depthIn 24 = .ok (.iload_n 1, 1) := by decide +kernel
theorem dX3_depthIn_25 : decode cX3_depthIn 25 = .ok (.aload_n 0, 1) := by decide +kernel
theorem dX3_depthIn_26 : decode cX3_depthIn 26 = .ok (.getfield 60, 3) := by decide +kernel
theorem dX3_depthIn_29 : decode cX3_depthIn 29 = .ok (.isub, 1) := by decide +kernel
theorem dX3_depthIn_30 : decode cX3_depthIn 30 = .ok (.imul, 1) := by decide +kernel
theorem dX3_depthIn_31 : decode cX3_depthIn 31 = .ok (.isub, 1) := by decide +kernel
theorem dX3_depthIn_32 : decode cX3_depthIn 32 = .ok (.invokestatic 66, 3) := by decide +kernel
theorem dX3_depthIn_35 : decode cX3_depthIn 35 = .ok (.ireturn, 1) := by decide +kernel
theorem dX3_fall_0 : decode cX3_fall 0 = .ok (.aload_n 0, 1) := by decide +kernel
theorem dX3_fall_1 : decode cX3_fall 1 = .ok (.getfield 63, 3) := by decide +kernel
theorem dX3_fall_4 : decode cX3_fall 4 = .ok (.ifCond .gt 8, 3) := by decide +kernel
theorem dX3_fall_7 : decode cX3_fall 7 = .ok (.aload_n 0, 1) := by decide +kernel
theorem dX3_fall_8 : decode cX3_fall 8 = .ok (.getfield 60, 3) := by decide +kernel
theorem dX3_fall_11 : decode cX3_fall 11 = .ok (.ireturn, 1) := by decide +kernel
theorem dX3_fall_12 : decode cX3_fall 12 = .ok (.aload_n 0, 1) := by decide +kernel
theorem dX3_fall_13 : decode cX3_fall 13 = .ok (.getfield 60, 3) := by decide +kernel
theorem dX3_fall_16 : decode cX3_fall 16 = .ok (.aload_n 0, 1) := by decide +kernel
theorem dX3_fall_17 : decode cX3_fall 17 = .ok (.getfield 57, 3) := by decide +kernel
theorem dX3_fall_20 : decode cX3_fall 20 = .ok (.iconst 2, 1) := by decide +kernel
theorem dX3_fall_21 : decode cX3_fall 21 = .ok (.isub, 1) := by decide +kernel
theorem dX3_fall_22 : decode cX3_fall 22 = .ok (.aload_n 0, 1) := by decide +kernel
theorem dX3_fall_23 : decode cX3_fall 23 = .ok (.getfield 63, 3) := by decide +kernel
theorem dX3_fall_26 : decode cX3_fall 26 = .ok (.iadd, 1) := by decide +kernel
theorem dX3_fall_27 : decode cX3_fall 27 = .ok (.iconst 1, 1) := by decide +kernel
theorem dX3_fall_28 : decode cX3_fall 28 = .ok (.isub, 1) := by decide +kernel
theorem dX3_fall_29 : decode cX3_fall 29 = .ok (.aload_n 0, 1) := by decide +kernel
theorem dX3_fall_30 : decode cX3_fall 30 = .ok (.getfield 63, 3) := by decide +kernel
theorem dX3_fall_33 : decode cX3_fall 33 = .ok (.idiv, 1) := by decide +kernel
theorem dX3_fall_34 : decode cX3_fall 34 = .ok (.iadd, 1) := by decide +kernel
theorem dX3_fall_35 : decode cX3_fall 35 = .ok (.ireturn, 1) := by decide +kernel
theorem dX3_priceOf_0 : decode cX3_priceOf 0 = .ok (.iconst 0, 1) := by decide +kernel
theorem dX3_priceOf_1 : decode cX3_priceOf 1 = .ok (.istore_n 2, 1) := by decide +kernel
theorem dX3_priceOf_2 : decode cX3_priceOf 2 = .ok (.iconst 0, 1) := by decide +kernel
theorem dX3_priceOf_3 : decode cX3_priceOf 3 = .ok (.istore_n 3, 1) := by decide +kernel
theorem dX3_priceOf_4 : decode cX3_priceOf 4 = .ok (.iload_n 3, 1) := by decide +kernel
theorem dX3_priceOf_5 : decode cX3_priceOf 5 = .ok (.aload_n 0, 1) := by decide +kernel
theorem dX3_priceOf_6 : decode cX3_priceOf 6 = .ok (.getfield 40, 3) := by decide +kernel
theorem dX3_priceOf_9 : decode cX3_priceOf 9 = .ok (.if_icmp .ge 30, 3) := by decide +kernel
theorem dX3_priceOf_12 : decode cX3_priceOf 12 = .ok (.iload_n 2, 1) := by decide +kernel
theorem dX3_priceOf_13 : decode cX3_priceOf 13 = .ok (.iload_n 1, 1) := by decide +kernel
theorem dX3_priceOf_14 : decode cX3_priceOf 14 = .ok (.iload_n 3, 1) := by decide +kernel
theorem dX3_priceOf_15 : decode cX3_priceOf 15 = .ok (.invokestatic 72, 3) := by decide +kernel
theorem dX3_priceOf_18 : decode cX3_priceOf 18 = .ok (.ifCond .eq 12, 3) := by decide +kernel
theorem dX3_priceOf_21 : decode cX3_priceOf 21 = .ok (.aload_n 0, 1) := by decide +kernel
theorem dX3_priceOf_22 : decode cX3_priceOf 22 = .ok (.getfield 30, 3) := by decide +kernel
theorem dX3_priceOf_25 : decode cX3_priceOf 25 = .ok (.iload_n 3, 1) := by decide +kernel
theorem dX3_priceOf_26 : decode cX3_priceOf 26 = .ok (.iaload, 1) := by decide +kernel
theorem dX3_priceOf_27 : decode cX3_priceOf 27 = .ok (.goto 4, 3) := by decide +kernel
theorem dX3_priceOf_30 : decode cX3_priceOf 30 = .ok (.iconst 0, 1) := by decide +kernel
theorem dX3_priceOf_31 : decode cX3_priceOf 31 = .ok (.iadd, 1) := by decide +kernel
theorem dX3_priceOf_32 : decode cX3_priceOf 32 = .ok (.istore_n 2, 1) := by decide +kernel
theorem dX3_priceOf_33 : decode cX3_priceOf 33 = .ok (.iinc 3 1, 3) := by decide +kernel
theorem dX3_priceOf_36 : decode cX3_priceOf 36 = .ok (.goto (-32), 3) := by decide +kernel
theorem dX3_priceOf_39 : decode cX3_priceOf 39 = .ok (.iload_n 2, 1) := by decide +kernel
theorem dX3_priceOf_40 : decode cX3_priceOf 40 = .ok (.ireturn, 1) := by decide +kernel
theorem dX3_hoursOf_0 : decode cX3_hoursOf 0 = .ok (.iconst 0, 1) := by decide +kernel
theorem dX3_hoursOf_1 : decode cX3_hoursOf 1 = .ok (.istore_n 2, 1) := by decide +kernel
theorem dX3_hoursOf_2 : decode cX3_hoursOf 2 = .ok (.iconst 0, 1) := by decide +kernel
theorem dX3_hoursOf_3 : decode cX3_hoursOf 3 = .ok (.istore_n 3, 1) := by decide +kernel
theorem dX3_hoursOf_4 : decode cX3_hoursOf 4 = .ok (.iload_n 3, 1) := by decide +kernel
theorem dX3_hoursOf_5 : decode cX3_hoursOf 5 = .ok (.aload_n 0, 1) := by decide +kernel
theorem dX3_hoursOf_6 : decode cX3_hoursOf 6 = .ok (.getfield 40, 3) := by decide +kernel
theorem dX3_hoursOf_9 : decode cX3_hoursOf 9 = .ok (.if_icmp .ge 30, 3) := by decide +kernel
theorem dX3_hoursOf_12 : decode cX3_hoursOf 12 = .ok (.iload_n 2, 1) := by decide +kernel
theorem dX3_hoursOf_13 : decode cX3_hoursOf 13 = .ok (.iload_n 1, 1) := by decide +kernel
theorem dX3_hoursOf_14 : decode cX3_hoursOf 14 = .ok (.iload_n 3, 1) := by decide +kernel
theorem dX3_hoursOf_15 : decode cX3_hoursOf 15 = .ok (.invokestatic 72, 3) := by decide +kernel
theorem dX3_hoursOf_18 : decode cX3_hoursOf 18 = .ok (.ifCond .eq 12, 3) := by decide +kernel
theorem dX3_hoursOf_21 : decode cX3_hoursOf 21 = .ok (.aload_n 0, 1) := by decide +kernel
theorem dX3_hoursOf_22 : decode cX3_hoursOf 22 = .ok (.getfield 27, 3) := by decide +kernel
theorem dX3_hoursOf_25 : decode cX3_hoursOf 25 = .ok (.iload_n 3, 1) := by decide +kernel
theorem dX3_hoursOf_26 : decode cX3_hoursOf 26 = .ok (.iaload, 1) := by decide +kernel
theorem dX3_hoursOf_27 : decode cX3_hoursOf 27 = .ok (.goto 4, 3) := by decide +kernel
theorem dX3_hoursOf_30 : decode cX3_hoursOf 30 = .ok (.iconst 0, 1) := by decide +kernel
theorem dX3_hoursOf_31 : decode cX3_hoursOf 31 = .ok (.iadd, 1) := by decide +kernel
theorem dX3_hoursOf_32 : decode cX3_hoursOf 32 = .ok (.istore_n 2, 1) := by decide +kernel
theorem dX3_hoursOf_33 : decode cX3_hoursOf 33 = .ok (.iinc 3 1, 3) := by decide +kernel
theorem dX3_hoursOf_36 : decode cX3_hoursOf 36 = .ok (.goto (-32), 3) := by decide +kernel
theorem dX3_hoursOf_39 : decode cX3_hoursOf 39 = .ok (.iload_n 2, 1) := by decide +kernel
theorem dX3_hoursOf_40 : decode cX3_hoursOf 40 = .ok (.ireturn, 1) := by decide +kernel
theorem dJ6_bitCount_0f7a4_0 : decode cJ6_bitCount_0f7a4 0 = .ok (.iload_n 0, 1) := by decide +kernel
theorem dJ6_bitCount_0f7a4_1 : decode cJ6_bitCount_0f7a4 1 = .ok (.iload_n 0, 1) := by decide +kernel
theorem dJ6_bitCount_0f7a4_2 : decode cJ6_bitCount_0f7a4 2 = .ok (.iconst 1, 1) := by decide +kernel
theorem dJ6_bitCount_0f7a4_3 : decode cJ6_bitCount_0f7a4 3 = .ok (.iushr, 1) := by decide +kernel
theorem dJ6_bitCount_0f7a4_4 : decode cJ6_bitCount_0f7a4 4 = .ok (.ldc_w 265, 3) := by decide +kernel
theorem dJ6_bitCount_0f7a4_7 : decode cJ6_bitCount_0f7a4 7 = .ok (.iand, 1) := by decide +kernel
theorem dJ6_bitCount_0f7a4_8 : decode cJ6_bitCount_0f7a4 8 = .ok (.isub, 1) := by decide +kernel
theorem dJ6_bitCount_0f7a4_9 : decode cJ6_bitCount_0f7a4 9 = .ok (.istore_n 0, 1) := by decide +kernel
theorem dJ6_bitCount_0f7a4_10 : decode cJ6_bitCount_0f7a4 10 = .ok (.iload_n 0, 1) := by decide +kernel
theorem dJ6_bitCount_0f7a4_11 : decode cJ6_bitCount_0f7a4 11 = .ok (.ldc_w 266, 3) := by decide +kernel
theorem dJ6_bitCount_0f7a4_14 : decode cJ6_bitCount_0f7a4 14 = .ok (.iand, 1) := by decide +kernel
theorem dJ6_bitCount_0f7a4_15 : decode cJ6_bitCount_0f7a4 15 = .ok (.iload_n 0, 1) := by decide +kernel
theorem dJ6_bitCount_0f7a4_16 : decode cJ6_bitCount_0f7a4 16 = .ok (.iconst 2, 1) := by decide +kernel
theorem dJ6_bitCount_0f7a4_17 : decode cJ6_bitCount_0f7a4 17 = .ok (.iushr, 1) := by decide +kernel
theorem dJ6_bitCount_0f7a4_18 : decode cJ6_bitCount_0f7a4 18 = .ok (.ldc_w 266, 3) := by decide +kernel
theorem dJ6_bitCount_0f7a4_21 : decode cJ6_bitCount_0f7a4 21 = .ok (.iand, 1) := by decide +kernel
theorem dJ6_bitCount_0f7a4_22 : decode cJ6_bitCount_0f7a4 22 = .ok (.iadd, 1) := by decide +kernel
theorem dJ6_bitCount_0f7a4_23 : decode cJ6_bitCount_0f7a4 23 = .ok (.istore_n 0, 1) := by decide +kernel
theorem dJ6_bitCount_0f7a4_24 : decode cJ6_bitCount_0f7a4 24 = .ok (.iload_n 0, 1) := by decide +kernel
theorem dJ6_bitCount_0f7a4_25 : decode cJ6_bitCount_0f7a4 25 = .ok (.iload_n 0, 1) := by decide +kernel
theorem dJ6_bitCount_0f7a4_26 : decode cJ6_bitCount_0f7a4 26 = .ok (.iconst 4, 1) := by decide +kernel
theorem dJ6_bitCount_0f7a4_27 : decode cJ6_bitCount_0f7a4 27 = .ok (.iushr, 1) := by decide +kernel
theorem dJ6_bitCount_0f7a4_28 : decode cJ6_bitCount_0f7a4 28 = .ok (.iadd, 1) := by decide +kernel
theorem dJ6_bitCount_0f7a4_29 : decode cJ6_bitCount_0f7a4 29 = .ok (.ldc_w 267, 3) := by decide +kernel
theorem dJ6_bitCount_0f7a4_32 : decode cJ6_bitCount_0f7a4 32 = .ok (.iand, 1) := by decide +kernel
theorem dJ6_bitCount_0f7a4_33 : decode cJ6_bitCount_0f7a4 33 = .ok (.istore_n 0, 1) := by decide +kernel
theorem dJ6_bitCount_0f7a4_34 : decode cJ6_bitCount_0f7a4 34 = .ok (.iload_n 0, 1) := by decide +kernel
theorem dJ6_bitCount_0f7a4_35 : decode cJ6_bitCount_0f7a4 35 = .ok (.iload_n 0, 1) := by decide +kernel
theorem dJ6_bitCount_0f7a4_36 : decode cJ6_bitCount_0f7a4 36 = .ok (.bipush 8, 2) := by decide +kernel
theorem dJ6_bitCount_0f7a4_38 : decode cJ6_bitCount_0f7a4 38 = .ok (.iushr, 1) := by decide +kernel
theorem dJ6_bitCount_0f7a4_39 : decode cJ6_bitCount_0f7a4 39 = .ok (.iadd, 1) := by decide +kernel
theorem dJ6_bitCount_0f7a4_40 : decode cJ6_bitCount_0f7a4 40 = .ok (.istore_n 0, 1) := by decide +kernel
theorem dJ6_bitCount_0f7a4_41 : decode cJ6_bitCount_0f7a4 41 = .ok (.iload_n 0, 1) := by decide +kernel
theorem dJ6_bitCount_0f7a4_42 : decode cJ6_bitCount_0f7a4 42 = .ok (.iload_n 0, 1) := by decide +kernel
theorem dJ6_bitCount_0f7a4_43 : decode cJ6_bitCount_0f7a4 43 = .ok (.bipush 16, 2) := by decide +kernel
theorem dJ6_bitCount_0f7a4_45 : decode cJ6_bitCount_0f7a4 45 = .ok (.iushr, 1) := by decide +kernel
theorem dJ6_bitCount_0f7a4_46 : decode cJ6_bitCount_0f7a4 46 = .ok (.iadd, 1) := by decide +kernel
theorem dJ6_bitCount_0f7a4_47 : decode cJ6_bitCount_0f7a4 47 = .ok (.istore_n 0, 1) := by decide +kernel
theorem dJ6_bitCount_0f7a4_48 : decode cJ6_bitCount_0f7a4 48 = .ok (.iload_n 0, 1) := by decide +kernel
theorem dJ6_bitCount_0f7a4_49 : decode cJ6_bitCount_0f7a4 49 = .ok (.bipush 63, 2) := by decide +kernel
theorem dJ6_bitCount_0f7a4_51 : decode cJ6_bitCount_0f7a4 51 = .ok (.iand, 1) := by decide +kernel
theorem dJ6_bitCount_0f7a4_52 : decode cJ6_bitCount_0f7a4 52 = .ok (.ireturn, 1) := by decide +kernel
theorem dJ9_max_7cf53_0 : decode cJ9_max_7cf53 0 = .ok (.iload_n 0, 1) := by decide +kernel
theorem dJ9_max_7cf53_1 : decode cJ9_max_7cf53 1 = .ok (.iload_n 1, 1) := by decide +kernel
theorem dJ9_max_7cf53_2 : decode cJ9_max_7cf53 2 = .ok (.if_icmp .lt 7, 3) := by decide +kernel
theorem dJ9_max_7cf53_5 : decode cJ9_max_7cf53 5 = .ok (.iload_n 0, 1) := by decide +kernel
theorem dJ9_max_7cf53_6 : decode cJ9_max_7cf53 6 = .ok (.goto 4, 3) := by decide +kernel
theorem dJ9_max_7cf53_9 : decode cJ9_max_7cf53 9 = .ok (.iload_n 1, 1) := by decide +kernel
theorem dJ9_max_7cf53_10 : decode cJ9_max_7cf53 10 = .ok (.ireturn, 1) := by decide +kernel
theorem dJ0_length_8abf5_0 : decode cJ0_length_8abf5 0 = .ok (.aload_n 0, 1) := by decide +kernel
theorem dJ0_length_8abf5_1 : decode cJ0_length_8abf5 1 = .ok (.getfield 9, 3) := by decide +kernel
theorem dJ0_length_8abf5_4 : decode cJ0_length_8abf5 4 = .ok (.arraylength, 1) := by decide +kernel
theorem dJ0_length_8abf5_5 : decode cJ0_length_8abf5 5 = .ok (.aload_n 0, 1) := by decide +kernel
theorem dJ0_length_8abf5_6 : decode cJ0_length_8abf5 6 = .ok (.invokevirtual 335, 3) := by decide +kernel
theorem dJ0_length_8abf5_9 : decode cJ0_length_8abf5 9 = .ok (.ishr, 1) := by decide +kernel
theorem dJ0_length_8abf5_10 : decode cJ0_length_8abf5 10 = .ok (.ireturn, 1) := by decide +kernel
theorem dJ0_charAt_5068e_0 : decode cJ0_charAt_5068e 0 = .ok (.aload_n 0, 1) := by decide +kernel
theorem dJ0_charAt_5068e_1 : decode cJ0_charAt_5068e 1 = .ok (.invokevirtual 492, 3) := by decide +kernel
theorem dJ0_charAt_5068e_4 : decode cJ0_charAt_5068e 4 = .ok (.ifCond .eq 12, 3) := by decide +kernel
theorem dJ0_charAt_5068e_7 : decode cJ0_charAt_5068e 7 = .ok (.aload_n 0, 1) := by decide +kernel
theorem dJ0_charAt_5068e_8 : decode cJ0_charAt_5068e 8 = .ok (.getfield 9, 3) := by decide +kernel
theorem dJ0_charAt_5068e_11 : decode cJ0_charAt_5068e 11 = .ok (.iload_n 1, 1) := by decide +kernel
theorem dJ0_charAt_5068e_12 : decode cJ0_charAt_5068e 12 = .ok (.invokestatic 495, 3) := by decide +kernel
theorem dJ0_charAt_5068e_15 : decode cJ0_charAt_5068e 15 = .ok (.ireturn, 1) := by decide +kernel
theorem dJ0_charAt_5068e_16 : decode cJ0_charAt_5068e 16 = .ok (.aload_n 0, 1) := by decide +kernel
theorem dJ0_charAt_5068e_17 : decode cJ0_charAt_5068e 17 = .ok (.getfield 9, 3) := by decide +kernel
theorem dJ0_charAt_5068e_20 : decode cJ0_charAt_5068e 20 = .ok (.iload_n 1, 1) := by decide +kernel
theorem dJ0_charAt_5068e_21 : decode cJ0_charAt_5068e 21 = .ok (.invokestatic 498, 3) := by decide +kernel
theorem dJ0_charAt_5068e_24 : decode cJ0_charAt_5068e 24 = .ok (.ireturn, 1) := by decide +kernel
theorem dJ0_coder_7d493_0 : decode cJ0_coder_7d493 0 = .ok (.getstatic 38, 3) := by decide +kernel
theorem dJ0_coder_7d493_3 : decode cJ0_coder_7d493 3 = .ok (.ifCond .eq 10, 3) := by decide +kernel
theorem dJ0_coder_7d493_6 : decode cJ0_coder_7d493 6 = .ok (.aload_n 0, 1) := by decide +kernel
theorem dJ0_coder_7d493_7 : decode cJ0_coder_7d493 7 = .ok (.getfield 15, 3) := by decide +kernel
theorem dJ0_coder_7d493_10 : decode cJ0_coder_7d493 10 = .ok (.goto 4, 3) := by decide +kernel
theorem dJ0_coder_7d493_13 : decode cJ0_coder_7d493 13 = .ok (.iconst 1, 1) := by decide +kernel
theorem dJ0_coder_7d493_14 : decode cJ0_coder_7d493 14 = .ok (.ireturn, 1) := by decide +kernel
theorem dJ0_isLatin1_aae02_0 : decode cJ0_isLatin1_aae02 0 = .ok (.getstatic 38, 3) := by decide +kernel
theorem dJ0_isLatin1_aae02_3 : decode cJ0_isLatin1_aae02 3 = .ok (.ifCond .eq 14, 3) := by decide +kernel
theorem dJ0_isLatin1_aae02_6 : decode cJ0_isLatin1_aae02 6 = .ok (.aload_n 0, 1) := by decide +kernel
theorem dJ0_isLatin1_aae02_7 : decode cJ0_isLatin1_aae02 7 = .ok (.getfield 15, 3) := by decide +kernel
theorem dJ0_isLatin1_aae02_10 : decode cJ0_isLatin1_aae02 10 = .ok (.ifCond .ne 7, 3) := by decide +kernel
theorem dJ0_isLatin1_aae02_13 : decode cJ0_isLatin1_aae02 13 = .ok (.iconst 1, 1) := by decide +kernel
theorem dJ0_isLatin1_aae02_14 : decode cJ0_isLatin1_aae02 14 = .ok (.goto 4, 3) := by decide +kernel
theorem dJ0_isLatin1_aae02_17 : decode cJ0_isLatin1_aae02 17 = .ok (.iconst 0, 1) := by decide +kernel
theorem dJ0_isLatin1_aae02_18 : decode cJ0_isLatin1_aae02 18 = .ok (.ireturn, 1) := by decide +kernel
theorem dJ0_checkIndex_df160_0 : decode cJ0_checkIndex_df160 0 = .ok (.iload_n 0, 1) := by decide +kernel
theorem dJ0_checkIndex_df160_1 : decode cJ0_checkIndex_df160 1 = .ok (.iload_n 1, 1) := by decide +kernel
theorem dJ0_checkIndex_df160_2 : decode cJ0_checkIndex_df160 2 = .ok (.getstatic 1053, 3) := by decide +kernel
theorem dJ0_checkIndex_df160_5 : decode cJ0_checkIndex_df160 5 = .ok (.invokestatic 1059, 3) := by decide +kernel
theorem dJ0_checkIndex_df160_8 : decode cJ0_checkIndex_df160 8 = .ok (.pop, 1) := by decide +kernel
theorem dJ0_checkIndex_df160_9 : decode cJ0_checkIndex_df160 9 = .ok (.return_, 1) := by decide +kernel
theorem dJ1_charAt_3b067_0 : decode cJ1_charAt_3b067 0 = .ok (.iload_n 1, 1) := by decide +kernel
theorem dJ1_charAt_3b067_1 : decode cJ1_charAt_3b067 1 = .ok (.aload_n 0, 1) := by decide +kernel
theorem dJ1_charAt_3b067_2 : decode cJ1_charAt_3b067 2 = .ok (.arraylength, 1) := by decide +kernel
theorem dJ1_charAt_3b067_3 : decode cJ1_charAt_3b067 3 = .ok (.invokestatic 9, 3) := by decide +kernel
theorem dJ1_charAt_3b067_6 : decode cJ1_charAt_3b067 6 = .ok (.aload_n 0, 1) := by decide +kernel
theorem dJ1_charAt_3b067_7 : decode cJ1_charAt_3b067 7 = .ok (.iload_n 1, 1) := by decide +kernel
theorem dJ1_charAt_3b067_8 : decode cJ1_charAt_3b067 8 = .ok (.baload, 1) := by decide +kernel
theorem dJ1_charAt_3b067_9 : decode cJ1_charAt_3b067 9 = .ok (.sipush 255, 3) := by decide +kernel
theorem dJ1_charAt_3b067_12 : decode cJ1_charAt_3b067 12 = .ok (.iand, 1) := by decide +kernel
theorem dJ1_charAt_3b067_13 : decode cJ1_charAt_3b067 13 = .ok (.i2c, 1) := by decide +kernel
theorem dJ1_charAt_3b067_14 : decode cJ1_charAt_3b067 14 = .ok (.ireturn, 1) := by decide +kernel
theorem dJ2_getChar_3b067_0 : decode cJ2_getChar_3b067 0 = .ok (.getstatic 44, 3) := by decide +kernel
theorem dJ2_getChar_3b067_3 : decode cJ2_getChar_3b067 3 = .ok (.ifCond .ne 25, 3) := by decide +kernel
theorem dJ2_getChar_3b067_6 : decode cJ2_getChar_3b067 6 = .ok (.iload_n 1, 1) := by decide +kernel
theorem dJ2_getChar_3b067_7 : decode cJ2_getChar_3b067 7 = .ok (.ifCond .lt 11, 3) := by decide +kernel
theorem dJ2_getChar_3b067_10 : decode cJ2_getChar_3b067 10 = .ok (.iload_n 1, 1) := by decide +kernel
theorem dJ2_getChar_3b067_11 : decode cJ2_getChar_3b067 11 = .ok (.aload_n 0, 1) := by decide +kernel
theorem dJ2_getChar_3b067_12 : decode cJ2_getChar_3b067 12 = .ok (.invokestatic 48, 3) := by decide +kernel
theorem dJ2_getChar_3b067_15 : decode cJ2_getChar_3b067 15 = .ok (.if_icmp .lt 13, 3) := by decide +kernel
theorem dJ2_getChar_3b067_18 : decode cJ2_getChar_3b067 18 = .ok (.new 52, 3) := by decide +kernel
theorem dJ2_getChar_3b067_21 : decode cJ2_getChar_3b067 21 = .ok (.dup, 1) := by decide +kernel
theorem dJ2_getChar_3b067_22 : decode cJ2_getChar_3b067 22 = .ok (.ldc 54, 2) := by decide +kernel
theorem dJ2_getChar_3b067_24 : decode cJ2_getChar_3b067 24 = .ok (.invokespecial 56, 3) := by decide +kernel
theorem dJ2_getChar_3b067_27 : decode cJ2_getChar_3b067 27 = .ok (.athrow, 1) := by decide +kernel
theorem dJ2_getChar_3b067_28 : decode cJ2_getChar_3b067 28 = .ok (.iload_n 1, 1) := by decide +kernel
theorem dJ2_getChar_3b067_29 : decode cJ2_getChar_3b067 29 = .ok (.iconst 1, 1) := by decide +kernel
theorem dJ2_getChar_3b067_30 : decode cJ2_getChar_3b067 30 = .ok (.ishl, 1) := by decide +kernel
theorem dJ2_getChar_3b067_31 : decode cJ2_getChar_3b067 31 = .ok (.istore_n 1, 1) := by decide +kernel
theorem dJ2_getChar_3b067_32 : decode cJ2_getChar_3b067 32 = .ok (.aload_n 0, 1) := by decide +kernel
theorem dJ2_getChar_3b067_33 : decode cJ2_getChar_3b067 33 = .ok (.iload_n 1, 1) := by decide +kernel
theorem dJ2_getChar_3b067_34 : decode cJ2_getChar_3b067 34 = .ok (.iinc 1 1, 3) := by decide +kernel
theorem dJ2_getChar_3b067_37 : decode cJ2_getChar_3b067 37 = .ok (.baload, 1) := by decide +kernel
theorem dJ2_getChar_3b067_38 : decode cJ2_getChar_3b067 38 = .ok (.sipush 255, 3) := by decide +kernel
theorem dJ2_getChar_3b067_41 : decode cJ2_getChar_3b067 41 = .ok (.iand, 1) := by decide +kernel
theorem dJ2_getChar_3b067_42 : decode cJ2_getChar_3b067 42 = .ok (.getstatic 59, 3) := by decide +kernel
theorem dJ2_getChar_3b067_45 : decode cJ2_getChar_3b067 45 = .ok (.ishl, 1) := by decide +kernel
theorem dJ2_getChar_3b067_46 : decode cJ2_getChar_3b067 46 = .ok (.aload_n 0, 1) := by decide +kernel
theorem dJ2_getChar_3b067_47 : decode cJ2_getChar_3b067 47 = .ok (.iload_n 1, 1) := by decide +kernel
theorem dJ2_getChar_3b067_48 : decode cJ2_getChar_3b067 48 = .ok (.baload, 1) := by decide +kernel
theorem dJ2_getChar_3b067_49 : decode cJ2_getChar_3b067 49 = .ok (.sipush 255, 3) := by decide +kernel
theorem dJ2_getChar_3b067_52 : decode cJ2_getChar_3b067 52 = .ok (.iand, 1) := by decide +kernel
theorem dJ2_getChar_3b067_53 : decode cJ2_getChar_3b067 53 = .ok (.getstatic 63, 3) := by decide +kernel
theorem dJ2_getChar_3b067_56 : decode cJ2_getChar_3b067 56 = .ok (.ishl, 1) := by decide +kernel
theorem dJ2_getChar_3b067_57 : decode cJ2_getChar_3b067 57 = .ok (.ior, 1) := by decide +kernel
theorem dJ2_getChar_3b067_58 : decode cJ2_getChar_3b067 58 = .ok (.i2c, 1) := by decide +kernel
theorem dJ2_getChar_3b067_59 : decode cJ2_getChar_3b067 59 = .ok (.ireturn, 1) := by decide +kernel
theorem dJ2_length_9d52b_0 : decode cJ2_length_9d52b 0 = .ok (.aload_n 0, 1) := by decide +kernel
theorem dJ2_length_9d52b_1 : decode cJ2_length_9d52b 1 = .ok (.arraylength, 1) := by decide +kernel
theorem dJ2_length_9d52b_2 : decode cJ2_length_9d52b 2 = .ok (.iconst 1, 1) := by decide +kernel
theorem dJ2_length_9d52b_3 : decode cJ2_length_9d52b 3 = .ok (.ishr, 1) := by decide +kernel
theorem dJ2_length_9d52b_4 : decode cJ2_length_9d52b 4 = .ok (.ireturn, 1) := by decide +kernel
theorem dJ2_charAt_3b067_0 : decode cJ2_charAt_3b067 0 = .ok (.iload_n 1, 1) := by decide +kernel
theorem dJ2_charAt_3b067_1 : decode cJ2_charAt_3b067 1 = .ok (.aload_n 0, 1) := by decide +kernel
theorem dJ2_charAt_3b067_2 : decode cJ2_charAt_3b067 2 = .ok (.invokestatic 67, 3) := by decide +kernel
theorem dJ2_charAt_3b067_5 : decode cJ2_charAt_3b067 5 = .ok (.aload_n 0, 1) := by decide +kernel
theorem dJ2_charAt_3b067_6 : decode cJ2_charAt_3b067 6 = .ok (.iload_n 1, 1) := by decide +kernel
theorem dJ2_charAt_3b067_7 : decode cJ2_charAt_3b067 7 = .ok (.invokestatic 71, 3) := by decide +kernel
theorem dJ2_charAt_3b067_10 : decode cJ2_charAt_3b067 10 = .ok (.ireturn, 1) := by decide +kernel
theorem dJ2_checkIndex_2214a_0 : decode cJ2_checkIndex_2214a 0 = .ok (.iload_n 0, 1) := by decide +kernel
theorem dJ2_checkIndex_2214a_1 : decode cJ2_checkIndex_2214a 1 = .ok (.aload_n 1, 1) := by decide +kernel
theorem dJ2_checkIndex_2214a_2 : decode cJ2_checkIndex_2214a 2 = .ok (.invokestatic 48, 3) := by decide +kernel
theorem dJ2_checkIndex_2214a_5 : decode cJ2_checkIndex_2214a 5 = .ok (.invokestatic 414, 3) := by decide +kernel
theorem dJ2_checkIndex_2214a_8 : decode cJ2_checkIndex_2214a 8 = .ok (.return_, 1) := by decide +kernel
theorem dJ3_checkIndex_8e157_0 : decode cJ3_checkIndex_8e157 0 = .ok (.iload_n 0, 1) := by decide +kernel
theorem dJ3_checkIndex_8e157_1 : decode cJ3_checkIndex_8e157 1 = .ok (.ifCond .lt 8, 3) := by decide +kernel
theorem dJ3_checkIndex_8e157_4 : decode cJ3_checkIndex_8e157 4 = .ok (.iload_n 0, 1) := by decide +kernel
theorem dJ3_checkIndex_8e157_5 : decode cJ3_checkIndex_8e157 5 = .ok (.iload_n 1, 1) := by decide +kernel
theorem dJ3_checkIndex_8e157_6 : decode cJ3_checkIndex_8e157 6 = .ok (.if_icmp .lt 10, 3) := by decide +kernel
theorem dJ3_checkIndex_8e157_9 : decode cJ3_checkIndex_8e157 9 = .ok (.aload_n 2, 1) := by decide +kernel
theorem dJ3_checkIndex_8e157_10 : decode cJ3_checkIndex_8e157 10 = .ok (.iload_n 0, 1) := by decide +kernel
theorem dJ3_checkIndex_8e157_11 : decode cJ3_checkIndex_8e157 11 = .ok (.iload_n 1, 1) := by decide +kernel
theorem dJ3_checkIndex_8e157_12 : decode cJ3_checkIndex_8e157 12 = .ok (.invokestatic 95, 3) := by decide +kernel
theorem dJ3_checkIndex_8e157_15 : decode cJ3_checkIndex_8e157 15 = .ok (.athrow, 1) := by decide +kernel
theorem dJ3_checkIndex_8e157_16 : decode cJ3_checkIndex_8e157 16 = .ok (.iload_n 0, 1) := by decide +kernel
theorem dJ3_checkIndex_8e157_17 : decode cJ3_checkIndex_8e157 17 = .ok (.ireturn, 1) := by decide +kernel
