theorem dX4_init_0 : decode cX4_init 0 = .ok (.aload_n 0, 1) := by decide +kernel
theorem dX4_init_1 : decode cX4_init 1 = .ok (.invokespecial 1, 3) := by decide +kernel
theorem dX4_init_4 : decode cX4_init 4 = .ok (.aload_n 0, 1) := by decide +kernel
theorem dX4_init_5 : decode cX4_init 5 = .ok (.iconst 5, 1) := by decide +kernel
theorem dX4_init_6 : decode cX4_init 6 = .ok (.newarray .int, 2) := by decide +kernel
theorem dX4_init_8 : decode cX4_init 8 = .ok (.putfield 9, 3) := by decide +kernel
theorem dX4_init_11 : decode cX4_init 11 = .ok (.aload_n 0, 1) := by decide +kernel
theorem dX4_init_12 : decode cX4_init 12 = .ok (.new 13, 3) := by decide +kernel
theorem dX4_init_15 : decode cX4_init 15 = .ok (.dup, 1) := by decide +kernel
theorem dX4_init_16 : decode cX4_init 16 = .ok (.invokespecial 15, 3) := by decide +kernel
theorem dX4_init_19 : decode cX4_init 19 = .ok (.putfield 16, 3) := by decide +kernel
theorem dX4_init_22 : decode cX4_init 22 = .ok (.aload_n 0, 1) := by decide +kernel
theorem dX4_init_23 : decode cX4_init 23 = .ok (.new 13, 3) := by decide +kernel
theorem dX4_init_26 : decode cX4_init 26 = .ok (.dup, 1) := by decide +kernel
theorem dX4_init_27 : decode cX4_init 27 = .ok (.invokespecial 15, 3) := by decide +kernel
theorem dX4_init_30 : decode cX4_init 30 = .ok (.putfield 20, 3) := by decide +kernel
theorem dX4_init_33 : decode cX4_init 33 = .ok (.aload_n 0, 1) := by decide +kernel
theorem dX4_init_34 : decode cX4_init 34 = .ok (.bipush 6, 2) := by decide +kernel
theorem dX4_init_36 : decode cX4_init 36 = .ok (.newarray .int, 2) := by decide +kernel
theorem dX4_init_38 : decode cX4_init 38 = .ok (.putfield 23, 3) := by decide +kernel
theorem dX4_init_41 : decode cX4_init 41 = .ok (.aload_n 0, 1) := by decide +kernel
theorem dX4_init_42 : decode cX4_init 42 = .ok (.bipush 6, 2) := by decide +kernel
theorem dX4_init_44 : decode cX4_init 44 = .ok (.newarray .int, 2) := by decide +kernel
theorem dX4_init_46 : decode cX4_init 46 = .ok (.putfield 26, 3) := by decide +kernel
theorem dX4_init_49 : decode cX4_init 49 = .ok (.aload_n 0, 1) := by decide +kernel
theorem dX4_init_50 : decode cX4_init 50 = .ok (.iconst 5, 1) := by decide +kernel
theorem dX4_init_51 : decode cX4_init 51 = .ok (.newarray .int, 2) := by decide +kernel
theorem dX4_init_53 : decode cX4_init 53 = .ok (.putfield 29, 3) := by decide +kernel
theorem dX4_init_56 : decode cX4_init 56 = .ok (.aload_n 0, 1) := by decide +kernel
theorem dX4_init_57 : decode cX4_init 57 = .ok (.new 32, 3) := by decide +kernel
theorem dX4_init_60 : decode cX4_init 60 = .ok (.dup, 1) := by decide +kernel
theorem dX4_init_61 : decode cX4_init 61 = .ok (.invokespecial 34, 3) := by decide +kernel
theorem dX4_init_64 : decode cX4_init 64 = .ok (.putfield 35, 3) := by decide +kernel
theorem dX4_init_67 : decode cX4_init 67 = .ok (.aload_n 0, 1) := by decide +kernel
theorem dX4_init_68 : decode cX4_init 68 = .ok (.new 39, 3) := by decide +kernel
theorem dX4_init_71 : decode cX4_init 71 = .ok (.dup, 1) := by decide +kernel
theorem dX4_init_72 : decode cX4_init 72 = .ok (.invokespecial 41, 3) := by decide +kernel
theorem dX4_init_75 : decode cX4_init 75 = .ok (.putfield 42, 3) := by decide +kernel
theorem dX4_init_78 : decode cX4_init 78 = .ok (.aload_n 0, 1) := by decide +kernel
theorem dX4_init_79 : decode cX4_init 79 = .ok (.new 39, 3) := by decide +kernel
theorem dX4_init_82 : decode cX4_init 82 = .ok (.dup, 1) := by decide +kernel
theorem dX4_init_83 : decode cX4_init 83 = .ok (.invokespecial 41, 3) := by decide +kernel
theorem dX4_init_86 : decode cX4_init 86 = .ok (.putfield 46, 3) := by decide +kernel
theorem dX4_init_89 : decode cX4_init 89 = .ok (.aload_n 0, 1) := by decide +kernel
theorem dX4_init_90 : decode cX4_init 90 = .ok (.new 49, 3) := by decide +kernel
theorem dX4_init_93 : decode cX4_init 93 = .ok (.dup, 1) := by decide +kernel
theorem dX4_init_94 : decode cX4_init 94 = .ok (.aload_n 0, 1) := by decide +kernel
theorem dX4_init_95 : decode cX4_init 95 = .ok (.getfield 42, 3) := by decide +kernel
theorem dX4_init_98 : decode cX4_init 98 = .ok (.invokespecial 51, 3) := by decide +kernel
theorem dX4_init_101 : decode cX4_init 101 = .ok (.putfield 54, 3) := by decide +kernel
theorem dX4_init_104 : decode cX4_init 104 = .ok (.iconst 0, 1) := by decide +kernel
theorem dX4_init_105 : decode cX4_init 105 = .ok (.istore_n 1, 1) := by decide +kernel
theorem dX4_init_106 : decode cX4_init 106 = .ok (.iload_n 1, 1) := by decide +kernel
theorem dX4_init_107 : decode cX4_init 107 = .ok (.ldc 58, 2) := by decide +kernel
theorem dX4_init_109 : decode cX4_init 109 = .ok (.invokevirtual 60, 3) := by decide +kernel
theorem dX4_init_112 : decode cX4_init 112 = .ok (.if_icmp .ge 23, 3) := by decide +kernel
theorem dX4_init_115 : decode cX4_init 115 = .ok (.aload_n 0, 1) := by decide +kernel
theorem dX4_init_116 : decode cX4_init 116 = .ok (.getfield 35, 3) := by decide +kernel
theorem dX4_init_119 : decode cX4_init 119 = .ok (.ldc 58, 2) := by decide +kernel
theorem dX4_init_121 : decode cX4_init 121 = .ok (.iload_n 1, 1) := by decide +kernel
theorem dX4_init_122 : decode cX4_init 122 = .ok (.invokevirtual 66, 3) := by decide +kernel
theorem dX4_init_125 : decode cX4_init 125 = .ok (.invokevirtual 70, 3) := by decide +kernel
theorem dX4_init_128 : decode cX4_init 128 = .ok (.pop, 1) := by decide +kernel
theorem dX4_init_129 : decode cX4_init 129 = .ok (.iinc 1 1, 3) := by decide +kernel
theorem dX4_init_132 : decode cX4_init 132 = .ok (.goto (-26), 3) := by decide +kernel
theorem dX4_init_135 : decode cX4_init 135 = .ok (.aload_n 0, 1) := by decide +kernel
theorem dX4_init_136 : decode cX4_init 136 = .ok (.getfield 35, 3) := by decide +kernel
theorem dX4_init_139 : decode cX4_init 139 = .ok (.aload_n 0, 1) := by decide +kernel
theorem dX4_init_140 : decode cX4_init 140 = .ok (.getfield 42, 3) := by decide +kernel
theorem dX4_init_143 : decode cX4_init 143 = .ok (.invokevirtual 74, 3) := by decide +kernel
theorem dX4_init_146 : decode cX4_init 146 = .ok (.pop, 1) := by decide +kernel
theorem dX4_init_147 : decode cX4_init 147 = .ok (.aload_n 0, 1) := by decide +kernel
theorem dX4_init_148 : decode cX4_init 148 = .ok (.getfield 35, 3) := by decide +kernel
theorem dX4_init_151 : decode cX4_init 151 = .ok (.invokevirtual 78, 3) := by decide +kernel
theorem dX4_init_154 : decode cX4_init 154 = .ok (.aload_n 0, 1) := by decide +kernel
theorem dX4_init_155 : decode cX4_init 155 = .ok (.invokevirtual 81, 3) := by decide +kernel
theorem dX4_init_158 : decode cX4_init 158 = .ok (.return_, 1) := by decide +kernel
theorem dX4_write_0 : decode cX4_write 0 = .ok (.iload_n 1, 1) := by decide +kernel
theorem dX4_write_1 : decode cX4_write 1 = .ok (.bipush 32, 2) := by decide +kernel
theorem dX4_write_3 : decode cX4_write 3 = .ok (.if_icmp .lt 9, 3) := by decide +kernel
theorem dX4_write_6 : decode cX4_write 6 = .ok (.iload_n 1, 1) := by decide +kernel
theorem dX4_write_7 : decode cX4_write 7 = .ok (.bipush 126, 2) := by decide +kernel
theorem dX4_write_9 : decode cX4_write 9 = .ok (.if_icmp .le 5, 3) := by decide +kernel
theorem dX4_write_12 : decode cX4_write 12 = .ok (.iconst (-1), 1) := by decide +kernel
theorem dX4_write_13 : decode cX4_write 13 = .ok (.ireturn, 1) := by decide +kernel
theorem dX4_write_14 : decode cX4_write 14 = .ok (.aload_n 0, 1) := by decide +kernel
theorem dX4_write_15 : decode cX4_write 15 = .ok (.getfield 35, 3) := by decide +kernel
theorem dX4_write_18 : decode cX4_write 18 = .ok (.iload_n 1, 1) := by decide +kernel
theorem dX4_write_19 : decode cX4_write 19 = .ok (.i2c, 1) := by decide +kernel
theorem dX4_write_20 : decode cX4_write 20 = .ok (.invokevirtual 70, 3) := by decide +kernel
theorem dX4_write_23 : decode cX4_write 23 = .ok (.ifCond .eq 13, 3) := by decide +kernel
theorem dX4_write_26 : decode cX4_write 26 = .ok (.aload_n 0, 1) := by decide +kernel
theorem dX4_write_27 : decode cX4_write 27 = .ok (.getfield 35, 3) := by decide +kernel
theorem dX4_write_30 : decode cX4_write 30 = .ok (.getfield 84, 3) := by decide +kernel
theorem dX4_write_33 : decode cX4_write 33 = .ok (.goto 5, 3) := by decide +kernel
theorem dX4_write_36 : decode cX4_write 36 = .ok (.bipush (-3), 2) := by decide +kernel
theorem dX4_write_38 : decode cX4_write 38 = .ok (.ireturn, 1) := by decide +kernel
theorem dX4_wipe_0 : decode cX4_wipe 0 = .ok (.aload_n 0, 1) := by decide +kernel
theorem dX4_wipe_1 : decode cX4_wipe 1 = .ok (.getfield 35, 3) := by decide +kernel
theorem dX4_wipe_4 : decode cX4_wipe 4 = .ok (.getfield 84, 3) := by decide +kernel
theorem dX4_wipe_7 : decode cX4_wipe 7 = .ok (.istore_n 1, 1) := by decide +kernel
theorem dX4_wipe_8 : decode cX4_wipe 8 = .ok (.aload_n 0, 1) := by decide +kernel
theorem dX4_wipe_9 : decode cX4_wipe 9 = .ok (.getfield 35, 3) := by decide +kernel
theorem dX4_wipe_12 : decode cX4_wipe 12 = .ok (.invokevirtual 78, 3) := by decide +kernel
theorem dX4_wipe_15 : decode cX4_wipe 15 = .ok (.iload_n 1, 1) := by decide +kernel
theorem dX4_wipe_16 : decode cX4_wipe 16 = .ok (.ireturn, 1) := by decide +kernel
theorem dX4_fault_0 : decode cX4_fault 0 = .ok (.aload_n 0, 1) := by decide +kernel
theorem dX4_fault_1 : decode cX4_fault 1 = .ok (.getfield 35, 3) := by decide +kernel
theorem dX4_fault_4 : decode cX4_fault 4 = .ok (.aload_n 0, 1) := by decide +kernel
theorem dX4_fault_5 : decode cX4_fault 5 = .ok (.getfield 46, 3) := by decide +kernel
theorem dX4_fault_8 : decode cX4_fault 8 = .ok (.invokevirtual 74, 3) := by decide +kernel
theorem dX4_fault_11 : decode cX4_fault 11 = .ok (.ireturn, 1) := by decide +kernel
theorem dX4_lay_0 : decode cX4_lay 0 = .ok (.aload_n 0, 1) := by decide +kernel
theorem dX4_lay_1 : decode cX4_lay 1 = .ok (.getfield 35, 3) := by decide +kernel
theorem dX4_lay_4 : decode cX4_lay 4 = .ok (.aload_n 0, 1) := by decide +kernel
theorem dX4_lay_5 : decode cX4_lay 5 = .ok (.getfield 46, 3) := by decide +kernel
theorem dX4_lay_8 : decode cX4_lay 8 = .ok (.invokevirtual 74, 3) := by decide +kernel
theorem dX4_lay_11 : decode cX4_lay 11 = .ok (.bipush (-4), 2) := by decide +kernel
theorem dX4_lay_13 : decode cX4_lay 13 = .ok (.if_icmp .ne 23, 3) := by decide +kernel
theorem dX4_lay_16 : decode cX4_lay 16 = .ok (.aload_n 0, 1) := by decide +kernel
theorem dX4_lay_17 : decode cX4_lay 17 = .ok (.getfield 46, 3) := by decide +kernel
theorem dX4_lay_20 : decode cX4_lay 20 = .ok (.getfield 87, 3) := by decide +kernel
theorem dX4_lay_23 : decode cX4_lay 23 = .ok (.ifCond .eq 13, 3) := by decide +kernel
theorem dX4_lay_26 : decode cX4_lay 26 = .ok (.aload_n 0, 1) := by decide +kernel
theorem dX4_lay_27 : decode cX4_lay 27 = .ok (.getfield 46, 3) := by decide +kernel
theorem dX4_lay_30 : decode cX4_lay 30 = .ok (.getfield 90, 3) := by decide +kernel
theorem dX4_lay_33 : decode cX4_lay 33 = .ok (.ifCond .ne 6, 3) := by decide +kernel
theorem dX4_lay_36 : decode cX4_lay 36 = .ok (.bipush (-2), 2) := by decide +kernel
theorem dX4_lay_38 : decode cX4_lay 38 = .ok (.ireturn, 1) := by decide +kernel
theorem dX4_lay_39 : decode cX4_lay 39 = .ok (.aload_n 0, 1) := by decide +kernel
theorem dX4_lay_40 : decode cX4_lay 40 = .ok (.getfield 35, 3) := by decide +kernel
theorem dX4_lay_43 : decode cX4_lay 43 = .ok (.aload_n 0, 1) := by decide +kernel
theorem dX4_lay_44 : decode cX4_lay 44 = .ok (.getfield 42, 3) := by decide +kernel
theorem dX4_lay_47 : decode cX4_lay 47 = .ok (.invokevirtual 74, 3) := by decide +kernel
theorem dX4_lay_50 : decode cX4_lay 50 = .ok (.pop, 1) := by decide +kernel
theorem dX4_lay_51 : decode cX4_lay 51 = .ok (.aload_n 0, 1) := by decide +kernel
theorem dX4_lay_52 : decode cX4_lay 52 = .ok (.invokevirtual 81, 3) := by decide +kernel
theorem dX4_lay_55 : decode cX4_lay 55 = .ok (.aload_n 0, 1) := by decide +kernel
theorem dX4_lay_56 : decode cX4_lay 56 = .ok (.getfield 42, 3) := by decide +kernel
theorem dX4_lay_59 : decode cX4_lay 59 = .ok (.getfield 87, 3) := by decide +kernel
theorem dX4_lay_62 : decode cX4_lay 62 = .ok (.ireturn, 1) := by decide +kernel
theorem dX4_root_0 : decode cX4_root 0 = .ok (.iload_n 1, 1) := by decide +kernel
theorem dX4_root_1 : decode cX4_root 1 = .ok (.ifCond .lt 23, 3) := by decide +kernel
theorem dX4_root_4 : decode cX4_root 4 = .ok (.iload_n 1, 1) := by decide +kernel
theorem dX4_root_5 : decode cX4_root 5 = .ok (.aload_n 0, 1) := by decide +kernel
theorem dX4_root_6 : decode cX4_root 6 = .ok (.getfield 42, 3) := by decide +kernel
theorem dX4_root_9 : decode cX4_root 9 = .ok (.getfield 87, 3) := by decide +kernel
theorem dX4_root_12 : decode cX4_root 12 = .ok (.if_icmp .ge 12, 3) := by decide +kernel
theorem dX4_root_15 : decode cX4_root 15 = .ok (.iload_n 2, 1) := by decide +kernel
theorem dX4_root_16 : decode cX4_root 16 = .ok (.ifCond .lt 8, 3) := by decide +kernel
theorem dX4_root_19 : decode cX4_root 19 = .ok (.iload_n 2, 1) := by decide +kernel
theorem dX4_root_20 : decode cX4_root 20 = .ok (.iconst 2, 1) := by decide +kernel
theorem dX4_root_21 : decode cX4_root 21 = .ok (.if_icmp .le 5, 3) := by decide +kernel
theorem dX4_root_24 : decode cX4_root 24 = .ok (.iconst (-1), 1) := by decide +kernel
theorem dX4_root_25 : decode cX4_root 25 = .ok (.ireturn, 1) := by decide +kernel
theorem dX4_root_26 : decode cX4_root 26 = .ok (.iload_n 2, 1) := by decide +kernel
theorem dX4_root_27 : decode cX4_root 27 = .ok (.ifCond .ne 13, 3) := by decide +kernel
theorem dX4_root_30 : decode cX4_root 30 = .ok (.aload_n 0, 1) := by decide +kernel
theorem dX4_root_31 : decode cX4_root 31 = .ok (.getfield 42, 3) := by decide +kernel
theorem dX4_root_34 : decode cX4_root 34 = .ok (.getfield 93, 3) := by decide +kernel
theorem dX4_root_37 : decode cX4_root 37 = .ok (.iload_n 1, 1) := by decide +kernel
theorem dX4_root_38 : decode cX4_root 38 = .ok (.iaload, 1) := by decide +kernel
theorem dX4_root_39 : decode cX4_root 39 = .ok (.ireturn, 1) := by decide +kernel
theorem dX4_root_40 : decode cX4_root 40 = .ok (.iload_n 2, 1) := by decide +kernel
theorem dX4_root_41 : decode cX4_root 41 = .ok (.iconst 1, 1) := by decide +kernel
theorem dX4_root_42 : decode cX4_root 42 = .ok (.if_icmp .ne 15, 3) := by decide +kernel
theorem dX4_root_45 : decode cX4_root 45 = .ok (.aload_n 0, 1) := by decide +kernel
theorem dX4_root_46 : decode cX4_root 46 = .ok (.getfield 42, 3) := by decide +kernel
theorem dX4_root_49 : decode cX4_root 49 = .ok (.getfield 96, 3) := by decide +kernel
theorem dX4_root_52 : decode cX4_root 52 = .ok (.iload_n 1, 1) := by decide +kernel
theorem dX4_root_53 : decode cX4_root 53 = .ok (.iaload, 1) := by decide +kernel
theorem dX4_root_54 : decode cX4_root 54 = .ok (.goto 12, 3) := by decide +kernel
theorem dX4_root_57 : decode cX4_root 57 = .ok (.aload_n 0, 1) := by decide +kernel
theorem dX4_root_58 : decode cX4_root 58 = .ok (.getfield 42, 3) := by decide +kernel
theorem dX4_root_61 : decode cX4_root 61 = .ok (.getfield 99, 3) := by decide +kernel
theorem dX4_root_64 : decode cX4_root 64 = .ok (.iload_n 1, 1) := by decide +kernel
theorem dX4_root_65 : decode cX4_root 65 = .ok (.iaload, 1) := by decide +kernel
theorem dX4_root_66 : decode cX4_root 66 = .ok (.ireturn, 1) := by decide +kernel
theorem dX4_reader_0 : decode cX4_reader 0 = .ok (.aload_n 0, 1) := by decide +kernel
theorem dX4_reader_1 : decode cX4_reader 1 = .ok (.iload_n 1, 1) := by decide +kernel
theorem dX4_reader_2 : decode cX4_reader 2 = .ok (.invokevirtual 102, 3) := by decide +kernel
theorem dX4_reader_5 : decode cX4_reader 5 = .ok (.ifCond .eq 12, 3) := by decide +kernel
theorem dX4_reader_8 : decode cX4_reader 8 = .ok (.iload_n 2, 1) := by decide +kernel
theorem dX4_reader_9 : decode cX4_reader 9 = .ok (.ifCond .lt 8, 3) := by decide +kernel
theorem dX4_reader_12 : decode cX4_reader 12 = .ok (.iload_n 2, 1) := by decide +kernel
theorem dX4_reader_13 : decode cX4_reader 13 = .ok (.iconst 3, 1) := by decide +kernel
theorem dX4_reader_14 : decode cX4_reader 14 = .ok (.if_icmp .le 5, 3) := by decide +kernel
theorem dX4_reader_17 : decode cX4_reader 17 = .ok (.iconst (-1), 1) := by decide +kernel
theorem dX4_reader_18 : decode cX4_reader 18 = .ok (.ireturn, 1) := by decide +kernel
theorem dX4_reader_19 : decode cX4_reader 19 = .ok (.iload_n 2, 1) := by decide +kernel
theorem dX4_reader_20 : decode cX4_reader 20 = .ok (.iconst 3, 1) := by decide +kernel
theorem dX4_reader_21 : decode cX4_reader 21 = .ok (.if_icmp .ne 15, 3) := by decide +kernel
theorem dX4_reader_24 : decode cX4_reader 24 = .ok (.aload_n 0, 1) := by decide +kernel
theorem dX4_reader_25 : decode cX4_reader 25 = .ok (.iload_n 1, 1) := by decide +kernel
theorem dX4_reader_26 : decode cX4_reader 26 = .ok (.aload_n 0, 1) := by decide +kernel
theorem dX4_reader_27 : decode cX4_reader 27 = .ok (.getfield 9, 3) := by decide +kernel
theorem dX4_reader_30 : decode cX4_reader 30 = .ok (.iconst 4, 1) := by decide +kernel
theorem dX4_reader_31 : decode cX4_reader 31 = .ok (.iaload, 1) := by decide +kernel
theorem dX4_reader_32 : decode cX4_reader 32 = .ok (.invokevirtual 106, 3) := by decide +kernel
theorem dX4_reader_35 : decode cX4_reader 35 = .ok (.ireturn, 1) := by decide +kernel
theorem dX4_reader_36 : decode cX4_reader 36 = .ok (.iload_n 2, 1) := by decide +kernel
theorem dX4_reader_37 : decode cX4_reader 37 = .ok (.ifCond .ne 13, 3) := by decide +kernel
theorem dX4_reader_40 : decode cX4_reader 40 = .ok (.aload_n 0, 1) := by decide +kernel
theorem dX4_reader_41 : decode cX4_reader 41 = .ok (.getfield 42, 3) := by decide +kernel
theorem dX4_reader_44 : decode cX4_reader 44 = .ok (.getfield 110, 3) := by decide +kernel
theorem dX4_reader_47 : decode cX4_reader 47 = .ok (.iload_n 1, 1) := by decide +kernel
theorem dX4_reader_48 : decode cX4_reader 48 = .ok (.iaload, 1) := by decide +kernel
theorem dX4_reader_49 : decode cX4_reader 49 = .ok (.ireturn, 1) := by decide +kernel
theorem dX4_reader_50 : decode cX4_reader 50 = .ok (.iload_n 2, 1) := by decide +kernel
theorem dX4_reader_51 : decode cX4_reader 51 = .ok (.iconst 1, 1) := by decide +kernel
theorem dX4_reader_52 : decode cX4_reader 52 = .ok (.if_icmp .ne 15, 3) := by decide +kernel
theorem dX4_reader_55 : decode cX4_reader 55 = .ok (.aload_n 0, 1) := by decide +kernel
theorem dX4_reader_56 : decode cX4_reader 56 = .ok (.getfield 42, 3) := by decide +kernel
theorem dX4_reader_59 : decode cX4_reader 59 = .ok (.getfield 113, 3) := by decide +kernel
theorem dX4_reader_62 : decode cX4_reader 62 = .ok (.iload_n 1, 1) := by decide +kernel
theorem dX4_reader_63 : decode cX4_reader 63 = .ok (.iaload, 1) := by decide +kernel
theorem dX4_reader_64 : decode cX4_reader 64 = .ok (.goto 12, 3) := by decide +kernel
theorem dX4_reader_67 : decode cX4_reader 67 = .ok (.aload_n 0, 1) := by decide +kernel
theorem dX4_reader_68 : decode cX4_reader 68 = .ok (.getfield 42, 3) := by decide +kernel
theorem dX4_reader_71 : decode cX4_reader 71 = .ok (.getfield 116, 3) := by decide +kernel
theorem dX4_reader_74 : decode cX4_reader 74 = .ok (.iload_n 1, 1) := by decide +kernel
theorem dX4_reader_75 : decode cX4_reader 75 = .ok (.iaload, 1) := by decide +kernel
theorem dX4_reader_76 : decode cX4_reader 76 = .ok (.ireturn, 1) := by decide +kernel
theorem dX4_reading_0 : decode cX4_reading 0 = .ok (.aload_n 0, 1) := by decide +kernel
theorem dX4_reading_1 : decode cX4_reading 1 = .ok (.iload_n 1, 1) := by decide +kernel
theorem dX4_reading_2 : decode cX4_reading 2 = .ok (.invokevirtual 102, 3) := by decide +kernel
theorem dX4_reading_5 : decode cX4_reading 5 = .ok (.ifCond .eq 21, 3) := by decide +kernel
theorem dX4_reading_8 : decode cX4_reading 8 = .ok (.iload_n 3, 1) := by decide +kernel
theorem dX4_reading_9 : decode cX4_reading 9 = .ok (.ifCond .lt 17, 3) := by decide +kernel
theorem dX4_reading_12 : decode cX4_reading 12 = .ok (.iload_n 3, 1) := by decide +kernel
theorem dX4_reading_13 : decode cX4_reading 13 = .ok (.iconst 2, 1) := by decide +kernel
theorem dX4_reading_14 : decode cX4_reading 14 = .ok (.if_icmp .gt 12, 3) := by decide +kernel
theorem dX4_reading_17 : decode cX4_reading 17 = .ok (.aload_n 0, 1) := by decide +kernel
theorem dX4_reading_18 : decode cX4_reading 18 = .ok (.iload_n 1, 1) := by decide +kernel
theorem dX4_reading_19 : decode cX4_reading 19 = .ok (.iload_n 2, 1) := by decide +kernel
theorem dX4_reading_20 : decode cX4_reading 20 = .ok (.invokevirtual 119, 3) := by decide +kernel
theorem dX4_reading_23 : decode cX4_reading 23 = .ok (.ifCond .ne 5, 3) := by decide +kernel
theorem dX4_reading_26 : decode cX4_reading 26 = .ok (.iconst (-1), 1) := by decide +kernel
theorem dX4_reading_27 : decode cX4_reading 27 = .ok (.ireturn, 1) := by decide +kernel
theorem dX4_reading_28 : decode cX4_reading 28 = .ok (.aload_n 0, 1) := by decide +kernel
theorem dX4_reading_29 : decode cX4_reading 29 = .ok (.getfield 54, 3) := by decide +kernel
theorem dX4_reading_32 : decode cX4_reading 32 = .ok (.iload_n 2, 1) := by decide +kernel
theorem dX4_reading_33 : decode cX4_reading 33 = .ok (.invokevirtual 123, 3) := by decide +kernel
theorem dX4_reading_36 : decode cX4_reading 36 = .ok (.iload_n 3, 1) := by decide +kernel
theorem dX4_reading_37 : decode cX4_reading 37 = .ok (.ifCond .ne 11, 3) := by decide +kernel
theorem dX4_reading_40 : decode cX4_reading 40 = .ok (.aload_n 0, 1) := by decide +kernel
theorem dX4_reading_41 : decode cX4_reading 41 = .ok (.getfield 54, 3) := by decide +kernel
theorem dX4_reading_44 : decode cX4_reading 44 = .ok (.getfield 127, 3) := by decide +kernel
theorem dX4_reading_47 : decode cX4_reading 47 = .ok (.ireturn, 1) := by decide +kernel
theorem dX4_reading_48 : decode cX4_reading 48 = .ok (.iload_n 3, 1) := by decide +kernel
theorem dX4_reading_49 : decode cX4_reading 49 = .ok (.iconst 1, 1) := by decide +kernel
theorem dX4_reading_50 : decode cX4_reading 50 = .ok (.if_icmp .ne 13, 3) := by decide +kernel
theorem dX4_reading_53 : decode cX4_reading 53 = .ok (.aload_n 0, 1) := by decide +kernel
theorem dX4_reading_54 : decode cX4_reading 54 = .ok (.getfield 54, 3) := by decide +kernel
theorem dX4_reading_57 : decode cX4_reading 57 = .ok (.getfield 130, 3) := by decide +kernel
theorem dX4_reading_60 : decode cX4_reading 60 = .ok (.goto 10, 3) := by decide +kernel
theorem dX4_reading_63 : decode cX4_reading 63 = .ok (.aload_n 0, 1) := by decide +kernel
theorem dX4_reading_64 : decode cX4_reading 64 = .ok (.getfield 54, 3) := by decide +kernel
theorem dX4_reading_67 : decode cX4_reading 67 = .ok (.getfield 133, 3) := by decide +kernel
theorem dX4_reading_70 : decode cX4_reading 70 = .ok (.ireturn, 1) := by decide +kernel
theorem dX4_word_0 : decode cX4_word 0 = .ok (.aload_n 0, 1) := by decide +kernel
theorem dX4_word_1 : decode cX4_word 1 = .ok (.iload_n 1, 1) := by decide +kernel
theorem dX4_word_2 : decode cX4_word 2 = .ok (.invokevirtual 102, 3) := by decide +kernel
theorem dX4_word_5 : decode cX4_word 5 = .ok (.ifCond .eq 16, 3) := by decide +kernel
theorem dX4_word_8 : decode cX4_word 8 = .ok (.iload_n 3, 1) := by decide +kernel
theorem dX4_word_9 : decode cX4_word 9 = .ok (.ifCond .lt 12, 3) := by decide +kernel
theorem dX4_word_12 : decode cX4_word 12 = .ok (.aload_n 0, 1) := by decide +kernel
theorem dX4_word_13 : decode cX4_word 13 = .ok (.iload_n 1, 1) := by decide +kernel
theorem dX4_word_14 : decode cX4_word 14 = .ok (.iload_n 2, 1) := by decide +kernel
theorem dX4_word_15 : decode cX4_word 15 = .ok (.invokevirtual 119, 3) := by decide +kernel
theorem dX4_word_18 : decode cX4_word 18 = .ok (.ifCond .ne 5, 3) := by decide +kernel
theorem dX4_word_21 : decode cX4_word 21 = .ok (.iconst (-1), 1) := by decide +kernel
theorem dX4_word_22 : decode cX4_word 22 = .ok (.ireturn, 1) := by decide +kernel
theorem dX4_word_23 : decode cX4_word 23 = .ok (.aload_n 0, 1) := by decide +kernel
theorem dX4_word_24 : decode cX4_word 24 = .ok (.getfield 54, 3) := by decide +kernel
theorem dX4_word_27 : decode cX4_word 27 = .ok (.iload_n 2, 1) := by decide +kernel
theorem dX4_word_28 : decode cX4_word 28 = .ok (.invokevirtual 123, 3) := by decide +kernel
theorem dX4_word_31 : decode cX4_word 31 = .ok (.iload_n 3, 1) := by decide +kernel
theorem dX4_word_32 : decode cX4_word 32 = .ok (.aload_n 0, 1) := by decide +kernel
theorem dX4_word_33 : decode cX4_word 33 = .ok (.getfield 54, 3) := by decide +kernel
theorem dX4_word_36 : decode cX4_word 36 = .ok (.getfield 127, 3) := by decide +kernel
theorem dX4_word_39 : decode cX4_word 39 = .ok (.if_icmp .ge 21, 3) := by decide +kernel
theorem dX4_word_42 : decode cX4_word 42 = .ok (.iload_n 3, 1) := by decide +kernel
theorem dX4_word_43 : decode cX4_word 43 = .ok (.bipush 9, 2) := by decide +kernel
theorem dX4_word_45 : decode cX4_word 45 = .ok (.if_icmp .ge 15, 3) := by decide +kernel
theorem dX4_word_48 : decode cX4_word 48 = .ok (.aload_n 0, 1) := by decide +kernel
theorem dX4_word_49 : decode cX4_word 49 = .ok (.getfield 54, 3) := by decide +kernel
theorem dX4_word_52 : decode cX4_word 52 = .ok (.getfield 136, 3) := by decide +kernel
theorem dX4_word_55 : decode cX4_word 55 = .ok (.iload_n 3, 1) := by decide +kernel
theorem dX4_word_56 : decode cX4_word 56 = .ok (.iaload, 1) := by decide +kernel
theorem dX4_word_57 : decode cX4_word 57 = .ok (.goto 5, 3) := by decide +kernel
theorem dX4_word_60 : decode cX4_word 60 = .ok (.bipush (-4), 2) := by decide +kernel
theorem dX4_word_62 : decode cX4_word 62 = .ok (.ireturn, 1) := by decide +kernel
theorem dX4_tells_0 : decode cX4_tells 0 = .ok (.aload_n 0, 1) := by decide +kernel
theorem dX4_tells_1 : decode cX4_tells 1 = .ok (.iload_n 1, 1) := by decide +kernel
theorem dX4_tells_2 : decode cX4_tells 2 = .ok (.invokevirtual 102, 3) := by decide +kernel
theorem dX4_tells_5 : decode cX4_tells 5 = .ok (.ifCond .eq 12, 3) := by decide +kernel
theorem dX4_tells_8 : decode cX4_tells 8 = .ok (.iload_n 2, 1) := by decide +kernel
theorem dX4_tells_9 : decode cX4_tells 9 = .ok (.ifCond .lt 8, 3) := by decide +kernel
theorem dX4_tells_12 : decode cX4_tells 12 = .ok (.iload_n 2, 1) := by decide +kernel
theorem dX4_tells_13 : decode cX4_tells 13 = .ok (.iconst 2, 1) := by decide +kernel
theorem dX4_tells_14 : decode cX4_tells 14 = .ok (.if_icmp .le 5, 3) := by decide +kernel
theorem dX4_tells_17 : decode cX4_tells 17 = .ok (.iconst (-1), 1) := by decide +kernel
theorem dX4_tells_18 : decode cX4_tells 18 = .ok (.ireturn, 1) := by decide +kernel
theorem dX4_tells_19 : decode cX4_tells 19 = .ok (.aload_n 0, 1) := by decide +kernel
theorem dX4_tells_20 : decode cX4_tells 20 = .ok (.iload_n 1, 1) := by decide +kernel
theorem dX4_tells_21 : decode cX4_tells 21 = .ok (.aload_n 0, 1) := by decide +kernel
theorem dX4_tells_22 : decode cX4_tells 22 = .ok (.getfield 9, 3) := by decide +kernel
theorem dX4_tells_25 : decode cX4_tells 25 = .ok (.iconst 4, 1) := by decide +kernel
theorem dX4_tells_26 : decode cX4_tells 26 = .ok (.iaload, 1) := by decide +kernel
theorem dX4_tells_27 : decode cX4_tells 27 = .ok (.invokevirtual 139, 3) := by decide +kernel
theorem dX4_tells_30 : decode cX4_tells 30 = .ok (.istore_n 3, 1) := by decide +kernel
theorem dX4_tells_31 : decode cX4_tells 31 = .ok (.iload_n 3, 1) := by decide +kernel
theorem dX4_tells_32 : decode cX4_tells 32 = .ok (.bipush (-4), 2) := by decide +kernel
theorem dX4_tells_34 : decode cX4_tells 34 = .ok (.if_icmp .eq 7, 3) := by decide +kernel
theorem dX4_tells_37 : decode cX4_tells 37 = .ok (.iload_n 2, 1) := by decide +kernel
theorem dX4_tells_38 : decode cX4_tells 38 = .ok (.ifCond .ne 5, 3) := by decide +kernel
theorem dX4_tells_41 : decode cX4_tells 41 = .ok (.iload_n 3, 1) := by decide +kernel
theorem dX4_tells_42 : decode cX4_tells 42 = .ok (.ireturn, 1) := by decide +kernel
theorem dX4_tells_43 : decode cX4_tells 43 = .ok (.iload_n 2, 1) := by decide +kernel
theorem dX4_tells_44 : decode cX4_tells 44 = .ok (.iconst 1, 1) := by decide +kernel
theorem dX4_tells_45 : decode cX4_tells 45 = .ok (.if_icmp .ne 13, 3) := by decide +kernel
theorem dX4_tells_48 : decode cX4_tells 48 = .ok (.aload_n 0, 1) := by decide +kernel
theorem dX4_tells_49 : decode cX4_tells 49 = .ok (.getfield 54, 3) := by decide +kernel
theorem dX4_tells_52 : decode cX4_tells 52 = .ok (.getfield 130, 3) := by decide +kernel
theorem dX4_tells_55 : decode cX4_tells 55 = .ok (.goto 10, 3) := by decide +kernel
theorem dX4_tells_58 : decode cX4_tells 58 = .ok (.aload_n 0, 1) := by decide +kernel
theorem dX4_tells_59 : decode cX4_tells 59 = .ok (.getfield 54, 3) := by decide +kernel
theorem dX4_tells_62 : decode cX4_tells 62 = .ok (.getfield 133, 3) := by decide +kernel
theorem dX4_tells_65 : decode cX4_tells 65 = .ok (.ireturn, 1) := by decide +kernel
theorem dX4_ask_0 : decode cX4_ask 0 = .ok (.aload_n 0, 1) := by decide +kernel
theorem dX4_ask_1 : decode cX4_ask 1 = .ok (.iload_n 1, 1) := by decide +kernel
theorem dX4_ask_2 : decode cX4_ask 2 = .ok (.invokevirtual 102, 3) := by decide +kernel
theorem dX4_ask_5 : decode cX4_ask 5 = .ok (.ifCond .ne 5, 3) := by decide +kernel
theorem dX4_ask_8 : decode cX4_ask 8 = .ok (.iconst (-1), 1) := by decide +kernel
theorem dX4_ask_9 : decode cX4_ask 9 = .ok (.ireturn, 1) := by decide +kernel
theorem dX4_ask_10 : decode cX4_ask 10 = .ok (.aload_n 0, 1) := by decide +kernel
theorem dX4_ask_11 : decode cX4_ask 11 = .ok (.getfield 9, 3) := by decide +kernel
theorem dX4_ask_14 : decode cX4_ask 14 = .ok (.iconst 1, 1) := by decide +kernel
theorem dX4_ask_15 : decode cX4_ask 15 = .ok (.iaload, 1) := by decide +kernel
theorem dX4_ask_16 : decode cX4_ask 16 = .ok (.aload_n 0, 1) := by decide +kernel
theorem dX4_ask_17 : decode cX4_ask 17 = .ok (.getfield 42, 3) := by decide +kernel
theorem dX4_ask_20 : decode cX4_ask 20 = .ok (.getfield 116, 3) := by decide +kernel
theorem dX4_ask_23 : decode cX4_ask 23 = .ok (.iload_n 1, 1) := by decide +kernel
theorem dX4_ask_24 : decode cX4_ask 24 = .ok (.iaload, 1) := by decide +kernel
theorem dX4_ask_25 : decode cX4_ask 25 = .ok (.if_icmp .ge 6, 3) := by decide +kernel
theorem dX4_ask_28 : decode cX4_ask 28 = .ok (.bipush (-2), 2) := by decide +kernel
theorem dX4_ask_30 : decode cX4_ask 30 = .ok (.ireturn, 1) := by decide +kernel
theorem dX4_ask_31 : decode cX4_ask 31 = .ok (.aload_n 0, 1) := by decide +kernel
theorem dX4_ask_32 : decode cX4_ask 32 = .ok (.getfield 16, 3) := by decide +kernel
theorem dX4_ask_35 : decode cX4_ask 35 = .ok (.aload_n 0, 1) := by decide +kernel
theorem dX4_ask_36 : decode cX4_ask 36 = .ok (.getfield 9, 3) := by decide +kernel
theorem dX4_ask_39 : decode cX4_ask 39 = .ok (.invokevirtual 142, 3) := by decide +kernel
theorem dX4_ask_42 : decode cX4_ask 42 = .ok (.aload_n 0, 1) := by decide +kernel
theorem dX4_ask_43 : decode cX4_ask 43 = .ok (.getfield 9, 3) := by decide +kernel
theorem dX4_ask_46 : decode cX4_ask 46 = .ok (.iconst 1, 1) := by decide +kernel
theorem dX4_ask_47 : decode cX4_ask 47 = .ok (.dup2, 1) := by decide +kernel
theorem dX4_ask_48 : decode cX4_ask 48 = .ok (.iaload, 1) := by decide +kernel
theorem dX4_ask_49 : decode cX4_ask 49 = .ok (.aload_n 0, 1) := by decide +kernel
theorem dX4_ask_50 : decode cX4_ask 50 = .ok (.getfield 42, 3) := by decide +kernel
theorem dX4_ask_53 : decode cX4_ask 53 = .ok (.getfield 116, 3) := by decide +kernel
theorem dX4_ask_56 : decode cX4_ask 56 = .ok (.iload_n 1, 1) := by decide +kernel
theorem dX4_ask_57 : decode cX4_ask 57 = .ok (.iaload, 1) := by decide +kernel
theorem dX4_ask_58 : decode cX4_ask 58 = .ok (.isub, 1) := by decide +kernel
theorem dX4_ask_59 : decode cX4_ask 59 = .ok (.iastore, 1) := by decide +kernel
theorem dX4_ask_60 : decode cX4_ask 60 = .ok (.aload_n 0, 1) := by decide +kernel
theorem dX4_ask_61 : decode cX4_ask 61 = .ok (.getfield 9, 3) := by decide +kernel
theorem dX4_ask_64 : decode cX4_ask 64 = .ok (.iconst 0, 1) := by decide +kernel
theorem dX4_ask_65 : decode cX4_ask 65 = .ok (.dup2, 1) := by decide +kernel
theorem dX4_ask_66 : decode cX4_ask 66 = .ok (.iaload, 1) := by decide +kernel
theorem dX4_ask_67 : decode cX4_ask 67 = .ok (.aload_n 0, 1) := by decide +kernel
theorem dX4_ask_68 : decode cX4_ask 68 = .ok (.getfield 42, 3) := by decide +kernel
theorem dX4_ask_71 : decode cX4_ask 71 = .ok (.getfield 113, 3) := by decide +kernel
theorem dX4_ask_74 : decode cX4_ask 74 = .ok (.iload_n 1, 1) := by decide +kernel
theorem dX4_ask_75 : decode cX4_ask 75 = .ok (.iaload, 1) := by decide +kernel
theorem dX4_ask_76 : decode cX4_ask 76 = .ok (.iadd, 1) := by decide +kernel
theorem dX4_ask_77 : decode cX4_ask 77 = .ok (.iastore, 1) := by decide +kernel
theorem dX4_ask_78 : decode cX4_ask 78 = .ok (.aload_n 0, 1) := by decide +kernel
theorem dX4_ask_79 : decode cX4_ask 79 = .ok (.getfield 9, 3) := by decide +kernel
theorem dX4_ask_82 : decode cX4_ask 82 = .ok (.iconst 2, 1) := by decide +kernel
theorem dX4_ask_83 : decode cX4_ask 83 = .ok (.dup2, 1) := by decide +kernel
theorem dX4_ask_84 : decode cX4_ask 84 = .ok (.iaload, 1) := by decide +kernel
theorem dX4_ask_85 : decode cX4_ask 85 = .ok (.aload_n 0, 1) := by decide +kernel
theorem dX4_ask_86 : decode cX4_ask 86 = .ok (.iload_n 1, 1) := by decide +kernel
theorem dX4_ask_87 : decode cX4_ask 87 = .ok (.invokevirtual 146, 3) := by decide +kernel
theorem dX4_ask_90 : decode cX4_ask 90 = .ok (.ior, 1) := by decide +kernel
theorem dX4_ask_91 : decode cX4_ask 91 = .ok (.iastore, 1) := by decide +kernel
theorem dX4_ask_92 : decode cX4_ask 92 = .ok (.aload_n 0, 1) := by decide +kernel
theorem dX4_ask_93 : decode cX4_ask 93 = .ok (.getfield 9, 3) := by decide +kernel
theorem dX4_ask_96 : decode cX4_ask 96 = .ok (.iconst 2, 1) := by decide +kernel
theorem dX4_ask_97 : decode cX4_ask 97 = .ok (.iaload, 1) := by decide +kernel
theorem dX4_ask_98 : decode cX4_ask 98 = .ok (.ireturn, 1) := by decide +kernel
theorem dX4_shut_0 : decode cX4_shut 0 = .ok (.aload_n 0, 1) := by decide +kernel
theorem dX4_shut_1 : decode cX4_shut 1 = .ok (.getfield 9, 3) := by decide +kernel
theorem dX4_shut_4 : decode cX4_shut 4 = .ok (.iconst 2, 1) := by decide +kernel
theorem dX4_shut_5 : decode cX4_shut 5 = .ok (.iaload, 1) := by decide +kernel
theorem dX4_shut_6 : decode cX4_shut 6 = .ok (.iconst 1, 1) := by decide +kernel
theorem dX4_shut_7 : decode cX4_shut 7 = .ok (.invokestatic 150, 3) := by decide +kernel
theorem dX4_shut_10 : decode cX4_shut 10 = .ok (.ifCond .eq 20, 3) := by decide +kernel
theorem dX4_shut_13 : decode cX4_shut 13 = .ok (.aload_n 0, 1) := by decide +kernel
theorem dX4_shut_14 : decode cX4_shut 14 = .ok (.getfield 9, 3) := by decide +kernel
theorem dX4_shut_17 : decode cX4_shut 17 = .ok (.iconst 3, 1) := by decide +kernel
theorem dX4_shut_18 : decode cX4_shut 18 = .ok (.iaload, 1) := by decide +kernel
theorem dX4_shut_19 : decode cX4_shut 19 = .ok (.iconst 1, 1) := by decide +kernel
theorem dX4_shut_20 : decode cX4_shut 20 = .ok (.if_icmp .eq 10, 3) := by decide +kernel
theorem dX4_shut_23 : decode cX4_shut 23 = .ok (.aload_n 0, 1) := by decide +kernel
theorem dX4_shut_24 : decode cX4_shut 24 = .ok (.invokevirtual 153, 3) := by decide +kernel
theorem dX4_shut_27 : decode cX4_shut 27 = .ok (.ifCond .eq 6, 3) := by decide +kernel
theorem dX4_shut_30 : decode cX4_shut 30 = .ok (.bipush (-2), 2) := by decide +kernel
theorem dX4_shut_32 : decode cX4_shut 32 = .ok (.ireturn, 1) := by decide +kernel
theorem dX4_shut_33 : decode cX4_shut 33 = .ok (.aload_n 0, 1) := by decide +kernel
theorem dX4_shut_34 : decode cX4_shut 34 = .ok (.getfield 16, 3) := by decide +kernel
theorem dX4_shut_37 : decode cX4_shut 37 = .ok (.aload_n 0, 1) := by decide +kernel
theorem dX4_shut_38 : decode cX4_shut 38 = .ok (.getfield 9, 3) := by decide +kernel
theorem dX4_shut_41 : decode cX4_shut 41 = .ok (.invokevirtual 142, 3) := by decide +kernel
theorem dX4_shut_44 : decode cX4_shut 44 = .ok (.aload_n 0, 1) := by decide +kernel
theorem dX4_shut_45 : decode cX4_shut 45 = .ok (.getfield 9, 3) := by decide +kernel
theorem dX4_shut_48 : decode cX4_shut 48 = .ok (.iconst 3, 1) := by decide +kernel
theorem dX4_shut_49 : decode cX4_shut 49 = .ok (.iconst 1, 1) := by decide +kernel
theorem dX4_shut_50 : decode cX4_shut 50 = .ok (.iastore, 1) := by decide +kernel
theorem dX4_shut_51 : decode cX4_shut 51 = .ok (.aload_n 0, 1) := by decide +kernel
theorem dX4_shut_52 : decode cX4_shut 52 = .ok (.getfield 42, 3) := by decide +kernel
theorem dX4_shut_55 : decode cX4_shut 55 = .ok (.invokevirtual 157, 3) := by decide +kernel
theorem dX4_shut_58 : decode cX4_shut 58 = .ok (.aload_n 0, 1) := by decide +kernel
theorem dX4_shut_59 : decode cX4_shut 59 = .ok (.getfield 9, 3) := by decide +kernel
theorem dX4_shut_62 : decode cX4_shut 62 = .ok (.iconst 0, 1) := by decide +kernel
theorem dX4_shut_63 : decode cX4_shut 63 = .ok (.iaload, 1) := by decide +kernel
theorem dX4_shut_64 : decode cX4_shut 64 = .ok (.isub, 1) := by decide +kernel
theorem dX4_shut_65 : decode cX4_shut 65 = .ok (.ireturn, 1) := by decide +kernel
theorem dX4_carve_0 : decode cX4_carve 0 = .ok (.iload_n 1, 1) := by decide +kernel
theorem dX4_carve_1 : decode cX4_carve 1 = .ok (.ifCond .lt 8, 3) := by decide +kernel
theorem dX4_carve_4 : decode cX4_carve 4 = .ok (.iload_n 1, 1) := by decide +kernel
theorem dX4_carve_5 : decode cX4_carve 5 = .ok (.iconst 5, 1) := by decide +kernel
theorem dX4_carve_6 : decode cX4_carve 6 = .ok (.if_icmp .lt 5, 3) := by decide +kernel
theorem dX4_carve_9 : decode cX4_carve 9 = .ok (.iconst (-1), 1) := by decide +kernel
theorem dX4_carve_10 : decode cX4_carve 10 = .ok (.ireturn, 1) := by decide +kernel
theorem dX4_carve_11 : decode cX4_carve 11 = .ok (.aload_n 0, 1) := by decide +kernel
theorem dX4_carve_12 : decode cX4_carve 12 = .ok (.getfield 9, 3) := by decide +kernel
theorem dX4_carve_15 : decode cX4_carve 15 = .ok (.iconst 4, 1) := by decide +kernel
theorem dX4_carve_16 : decode cX4_carve 16 = .ok (.iaload, 1) := by decide +kernel
theorem dX4_carve_17 : decode cX4_carve 17 = .ok (.invokestatic 160, 3) := by decide +kernel
theorem dX4_carve_20 : decode cX4_carve 20 = .ok (.bipush 9, 2) := by decide +kernel
theorem dX4_carve_22 : decode cX4_carve 22 = .ok (.if_icmp .lt 6, 3) := by decide +kernel
theorem dX4_carve_25 : decode cX4_carve 25 = .ok (.bipush (-3), 2) := by decide +kernel
theorem dX4_carve_27 : decode cX4_carve 27 = .ok (.ireturn, 1) := by decide +kernel
theorem dX4_carve_28 : decode cX4_carve 28 = .ok (.aload_n 0, 1) := by decide +kernel
theorem dX4_carve_29 : decode cX4_carve 29 = .ok (.getfield 16, 3) := by decide +kernel
theorem dX4_carve_32 : decode cX4_carve 32 = .ok (.aload_n 0, 1) := by decide +kernel
theorem dX4_carve_33 : decode cX4_carve 33 = .ok (.getfield 9, 3) := by decide +kernel
theorem dX4_carve_36 : decode cX4_carve 36 = .ok (.invokevirtual 142, 3) := by decide +kernel
theorem dX4_carve_39 : decode cX4_carve 39 = .ok (.aload_n 0, 1) := by decide +kernel
theorem dX4_carve_40 : decode cX4_carve 40 = .ok (.getfield 9, 3) := by decide +kernel
theorem dX4_carve_43 : decode cX4_carve 43 = .ok (.iconst 4, 1) := by decide +kernel
theorem dX4_carve_44 : decode cX4_carve 44 = .ok (.aload_n 0, 1) := by decide +kernel
theorem dX4_carve_45 : decode cX4_carve 45 = .ok (.getfield 9, 3) := by decide +kernel
theorem dX4_carve_48 : decode cX4_carve 48 = .ok (.iconst 4, 1) := by decide +kernel
theorem dX4_carve_49 : decode cX4_carve 49 = .ok (.iaload, 1) := by decide +kernel
theorem dX4_carve_50 : decode cX4_carve 50 = .ok (.bipush 6, 2) := by decide +kernel
theorem dX4_carve_52 : decode cX4_carve 52 = .ok (.imul, 1) := by decide +kernel
theorem dX4_carve_53 : decode cX4_carve 53 = .ok (.iload_n 1, 1) := by decide +kernel
theorem dX4_carve_54 : decode cX4_carve 54 = .ok (.iadd, 1) := by decide +kernel
theorem dX4_carve_55 : decode cX4_carve 55 = .ok (.iconst 1, 1) := by decide +kernel
theorem dX4_carve_56 : decode cX4_carve 56 = .ok (.iadd, 1) := by decide +kernel
theorem dX4_carve_57 : decode cX4_carve 57 = .ok (.iastore, 1) := by decide +kernel
theorem dX4_carve_58 : decode cX4_carve 58 = .ok (.aload_n 0, 1) := by decide +kernel
theorem dX4_carve_59 : decode cX4_carve 59 = .ok (.getfield 9, 3) := by decide +kernel
theorem dX4_carve_62 : decode cX4_carve 62 = .ok (.iconst 4, 1) := by decide +kernel
theorem dX4_carve_63 : decode cX4_carve 63 = .ok (.iaload, 1) := by decide +kernel
theorem dX4_carve_64 : decode cX4_carve 64 = .ok (.invokestatic 160, 3) := by decide +kernel
theorem dX4_carve_67 : decode cX4_carve 67 = .ok (.ireturn, 1) := by decide +kernel
theorem dX4_rub_0 : decode cX4_rub 0 = .ok (.aload_n 0, 1) := by decide +kernel
theorem dX4_rub_1 : decode cX4_rub 1 = .ok (.getfield 9, 3) := by decide +kernel
theorem dX4_rub_4 : decode cX4_rub 4 = .ok (.iconst 4, 1) := by decide +kernel
theorem dX4_rub_5 : decode cX4_rub 5 = .ok (.iaload, 1) := by decide +kernel
theorem dX4_rub_6 : decode cX4_rub 6 = .ok (.ifCond .ne 6, 3) := by decide +kernel
theorem dX4_rub_9 : decode cX4_rub 9 = .ok (.bipush (-2), 2) := by decide +kernel
theorem dX4_rub_11 : decode cX4_rub 11 = .ok (.ireturn, 1) := by decide +kernel
theorem dX4_rub_12 : decode cX4_rub 12 = .ok (.aload_n 0, 1) := by decide +kernel
theorem dX4_rub_13 : decode cX4_rub 13 = .ok (.getfield 16, 3) := by decide +kernel
theorem dX4_rub_16 : decode cX4_rub 16 = .ok (.aload_n 0, 1) := by decide +kernel
theorem dX4_rub_17 : decode cX4_rub 17 = .ok (.getfield 9, 3) := by decide +kernel
theorem dX4_rub_20 : decode cX4_rub 20 = .ok (.invokevirtual 142, 3) := by decide +kernel
theorem dX4_rub_23 : decode cX4_rub 23 = .ok (.aload_n 0, 1) := by decide +kernel
theorem dX4_rub_24 : decode cX4_rub 24 = .ok (.getfield 9, 3) := by decide +kernel
theorem dX4_rub_27 : decode cX4_rub 27 = .ok (.iconst 4, 1) := by decide +kernel
theorem dX4_rub_28 : decode cX4_rub 28 = .ok (.dup2, 1) := by decide +kernel
theorem dX4_rub_29 : decode cX4_rub 29 = .ok (.iaload, 1) := by decide +kernel
theorem dX4_rub_30 : decode cX4_rub 30 = .ok (.bipush 6, 2) := by decide +kernel
theorem dX4_rub_32 : decode cX4_rub 32 = .ok (.idiv, 1) := by decide +kernel
theorem dX4_rub_33 : decode cX4_rub 33 = .ok (.iastore, 1) := by decide +kernel
theorem dX4_rub_34 : decode cX4_rub 34 = .ok (.aload_n 0, 1) := by decide +kernel
theorem dX4_rub_35 : decode cX4_rub 35 = .ok (.getfield 9, 3) := by decide +kernel
theorem dX4_rub_38 : decode cX4_rub 38 = .ok (.iconst 4, 1) := by decide +kernel
theorem dX4_rub_39 : decode cX4_rub 39 = .ok (.iaload, 1) := by decide +kernel
theorem dX4_rub_40 : decode cX4_rub 40 = .ok (.invokestatic 160, 3) := by decide +kernel
theorem dX4_rub_43 : decode cX4_rub 43 = .ok (.ireturn, 1) := by decide +kernel
theorem dX4_pass_0 : decode cX4_pass 0 = .ok (.iload_n 1, 1) := by decide +kernel
theorem dX4_pass_1 : decode cX4_pass 1 = .ok (.iconst 1, 1) := by decide +kernel
theorem dX4_pass_2 : decode cX4_pass 2 = .ok (.if_icmp .lt 9, 3) := by decide +kernel
theorem dX4_pass_5 : decode cX4_pass 5 = .ok (.iload_n 1, 1) := by decide +kernel
theorem dX4_pass_6 : decode cX4_pass 6 = .ok (.bipush 24, 2) := by decide +kernel
theorem dX4_pass_8 : decode cX4_pass 8 = .ok (.if_icmp .le 5, 3) := by decide +kernel
theorem dX4_pass_11 : decode cX4_pass 11 = .ok (.iconst (-1), 1) := by decide +kernel
theorem dX4_pass_12 : decode cX4_pass 12 = .ok (.ireturn, 1) := by decide +kernel
theorem dX4_pass_13 : decode cX4_pass 13 = .ok (.aload_n 0, 1) := by decide +kernel
theorem dX4_pass_14 : decode cX4_pass 14 = .ok (.getfield 16, 3) := by decide +kernel
theorem dX4_pass_17 : decode cX4_pass 17 = .ok (.aload_n 0, 1) := by decide +kernel
theorem dX4_pass_18 : decode cX4_pass 18 = .ok (.getfield 9, 3) := by decide +kernel
theorem dX4_pass_21 : decode cX4_pass 21 = .ok (.invokevirtual 142, 3) := by decide +kernel
theorem dX4_pass_24 : decode cX4_pass 24 = .ok (.aload_n 0, 1) := by decide +kernel
theorem dX4_pass_25 : decode cX4_pass 25 = .ok (.getfield 9, 3) := by decide +kernel
theorem dX4_pass_28 : decode cX4_pass 28 = .ok (.iconst 0, 1) := by decide +kernel
theorem dX4_pass_29 : decode cX4_pass 29 = .ok (.dup2, 1) := by decide +kernel
theorem dX4_pass_30 : decode cX4_pass 30 = .ok (.iaload, 1) := by decide +kernel
theorem dX4_pass_31 : decode cX4_pass 31 = .ok (.iload_n 1, 1) := by decide +kernel
theorem dX4_pass_32 : decode cX4_pass 32 = .ok (.iadd, 1) := by decide +kernel
theorem dX4_pass_33 : decode cX4_pass 33 = .ok (.iastore, 1) := by decide +kernel
theorem dX4_pass_34 : decode cX4_pass 34 = .ok (.aload_n 0, 1) := by decide +kernel
theorem dX4_pass_35 : decode cX4_pass 35 = .ok (.getfield 42, 3) := by decide +kernel
theorem dX4_pass_38 : decode cX4_pass 38 = .ok (.aload_n 0, 1) := by decide +kernel
theorem dX4_pass_39 : decode cX4_pass 39 = .ok (.getfield 9, 3) := by decide +kernel
theorem dX4_pass_42 : decode cX4_pass 42 = .ok (.iconst 0, 1) := by decide +kernel
theorem dX4_pass_43 : decode cX4_pass 43 = .ok (.iaload, 1) := by decide +kernel
theorem dX4_pass_44 : decode cX4_pass 44 = .ok (.invokevirtual 163, 3) := by decide +kernel
theorem dX4_pass_47 : decode cX4_pass 47 = .ok (.ireturn, 1) := by decide +kernel
theorem dX4_undo_0 : decode cX4_undo 0 = .ok (.aload_n 0, 1) := by decide +kernel
theorem dX4_undo_1 : decode cX4_undo 1 = .ok (.getfield 16, 3) := by decide +kernel
theorem dX4_undo_4 : decode cX4_undo 4 = .ok (.getfield 166, 3) := by decide +kernel
theorem dX4_undo_7 : decode cX4_undo 7 = .ok (.ifCond .ne 6, 3) := by decide +kernel
theorem dX4_undo_10 : decode cX4_undo 10 = .ok (.bipush (-2), 2) := by decide +kernel
theorem dX4_undo_12 : decode cX4_undo 12 = .ok (.ireturn, 1) := by decide +kernel
theorem dX4_undo_13 : decode cX4_undo 13 = .ok (.aload_n 0, 1) := by decide +kernel
theorem dX4_undo_14 : decode cX4_undo 14 = .ok (.getfield 16, 3) := by decide +kernel
theorem dX4_undo_17 : decode cX4_undo 17 = .ok (.aload_n 0, 1) := by decide +kernel
theorem dX4_undo_18 : decode cX4_undo 18 = .ok (.getfield 9, 3) := by decide +kernel
theorem dX4_undo_21 : decode cX4_undo 21 = .ok (.invokevirtual 169, 3) := by decide +kernel
theorem dX4_undo_24 : decode cX4_undo 24 = .ok (.aload_n 0, 1) := by decide +kernel
theorem dX4_undo_25 : decode cX4_undo 25 = .ok (.getfield 16, 3) := by decide +kernel
theorem dX4_undo_28 : decode cX4_undo 28 = .ok (.getfield 166, 3) := by decide +kernel
theorem dX4_undo_31 : decode cX4_undo 31 = .ok (.ireturn, 1) := by decide +kernel
theorem dX4_belief_0 : decode cX4_belief 0 = .ok (.aload_n 0, 1) := by decide +kernel
theorem dX4_belief_1 : decode cX4_belief 1 = .ok (.iload_n 1, 1) := by decide +kernel
theorem dX4_belief_2 : decode cX4_belief 2 = .ok (.invokevirtual 102, 3) := by decide +kernel
theorem dX4_belief_5 : decode cX4_belief 5 = .ok (.ifCond .eq 20, 3) := by decide +kernel
theorem dX4_belief_8 : decode cX4_belief 8 = .ok (.iload_n 2, 1) := by decide +kernel
theorem dX4_belief_9 : decode cX4_belief 9 = .ok (.iconst 1, 1) := by decide +kernel
theorem dX4_belief_10 : decode cX4_belief 10 = .ok (.if_icmp .lt 15, 3) := by decide +kernel
theorem dX4_belief_13 : decode cX4_belief 13 = .ok (.iload_n 2, 1) := by decide +kernel
theorem dX4_belief_14 : decode cX4_belief 14 = .ok (.iconst 3, 1) := by decide +kernel
theorem dX4_belief_15 : decode cX4_belief 15 = .ok (.if_icmp .gt 10, 3) := by decide +kernel
theorem dX4_belief_18 : decode cX4_belief 18 = .ok (.iload_n 3, 1) := by decide +kernel
theorem dX4_belief_19 : decode cX4_belief 19 = .ok (.invokestatic 172, 3) := by decide +kernel
theorem dX4_belief_22 : decode cX4_belief 22 = .ok (.ifCond .ne 5, 3) := by decide +kernel
theorem dX4_belief_25 : decode cX4_belief 25 = .ok (.iconst (-1), 1) := by decide +kernel
theorem dX4_belief_26 : decode cX4_belief 26 = .ok (.ireturn, 1) := by decide +kernel
theorem dX4_belief_27 : decode cX4_belief 27 = .ok (.aload_n 0, 1) := by decide +kernel
theorem dX4_belief_28 : decode cX4_belief 28 = .ok (.iload_n 1, 1) := by decide +kernel
theorem dX4_belief_29 : decode cX4_belief 29 = .ok (.aload_n 0, 1) := by decide +kernel
theorem dX4_belief_30 : decode cX4_belief 30 = .ok (.getfield 9, 3) := by decide +kernel
theorem dX4_belief_33 : decode cX4_belief 33 = .ok (.iconst 4, 1) := by decide +kernel
theorem dX4_belief_34 : decode cX4_belief 34 = .ok (.iaload, 1) := by decide +kernel
theorem dX4_belief_35 : decode cX4_belief 35 = .ok (.invokevirtual 106, 3) := by decide +kernel
theorem dX4_belief_38 : decode cX4_belief 38 = .ok (.istore 4, 2) := by decide +kernel
theorem dX4_belief_40 : decode cX4_belief 40 = .ok (.aload_n 0, 1) := by decide +kernel
theorem dX4_belief_41 : decode cX4_belief 41 = .ok (.getfield 54, 3) := by decide +kernel
theorem dX4_belief_44 : decode cX4_belief 44 = .ok (.ldc 175, 2) := by decide +kernel
theorem dX4_belief_46 : decode cX4_belief 46 = .ok (.aload_n 0, 1) := by decide +kernel
theorem dX4_belief_47 : decode cX4_belief 47 = .ok (.getfield 42, 3) := by decide +kernel
theorem dX4_belief_50 : decode cX4_belief 50 = .ok (.iload_n 2, 1) := by decide +kernel
theorem dX4_belief_51 : decode cX4_belief 51 = .ok (.invokevirtual 176, 3) := by decide +kernel
theorem dX4_belief_54 : decode cX4_belief 54 = .ok (.iconst (-1), 1) := by decide +kernel
theorem dX4_belief_55 : decode cX4_belief 55 = .ok (.ixor, 1) := by decide +kernel
theorem dX4_belief_56 : decode cX4_belief 56 = .ok (.iand, 1) := by decide +kernel
theorem dX4_belief_57 : decode cX4_belief 57 = .ok (.invokevirtual 179, 3) := by decide +kernel
theorem dX4_belief_60 : decode cX4_belief 60 = .ok (.istore 5, 2) := by decide +kernel
theorem dX4_belief_62 : decode cX4_belief 62 = .ok (.iload 4, 2) := by decide +kernel
theorem dX4_belief_64 : decode cX4_belief 64 = .ok (.iload 5, 2) := by decide +kernel
theorem dX4_belief_66 : decode cX4_belief 66 = .ok (.isub, 1) := by decide +kernel
theorem dX4_belief_67 : decode cX4_belief 67 = .ok (.i2l, 1) := by decide +kernel
theorem dX4_belief_68 : decode cX4_belief 68 = .ok (.iload 4, 2) := by decide +kernel
theorem dX4_belief_70 : decode cX4_belief 70 = .ok (.i2l, 1) := by decide +kernel
theorem dX4_belief_71 : decode cX4_belief 71 = .ok (.iload_n 3, 1) := by decide +kernel
theorem dX4_belief_72 : decode cX4_belief 72 = .ok (.invokestatic 182, 3) := by decide +kernel
theorem dX4_belief_75 : decode cX4_belief 75 = .ok (.ireturn, 1) := by decide +kernel
theorem dX4_without_0 : decode cX4_without 0 = .ok (.aload_n 0, 1) := by decide +kernel
theorem dX4_without_1 : decode cX4_without 1 = .ok (.iload_n 1, 1) := by decide +kernel
theorem dX4_without_2 : decode cX4_without 2 = .ok (.invokevirtual 102, 3) := by decide +kernel
theorem dX4_without_5 : decode cX4_without 5 = .ok (.ifCond .ne 5, 3) := by decide +kernel
theorem dX4_without_8 : decode cX4_without 8 = .ok (.iconst (-1), 1) := by decide +kernel
theorem dX4_without_9 : decode cX4_without 9 = .ok (.ireturn, 1) := by decide +kernel
theorem dX4_without_10 : decode cX4_without 10 = .ok (.aload_n 0, 1) := by decide +kernel
theorem dX4_without_11 : decode cX4_without 11 = .ok (.iload_n 1, 1) := by decide +kernel
theorem dX4_without_12 : decode cX4_without 12 = .ok (.aload_n 0, 1) := by decide +kernel
theorem dX4_without_13 : decode cX4_without 13 = .ok (.getfield 9, 3) := by decide +kernel
theorem dX4_without_16 : decode cX4_without 16 = .ok (.iconst 4, 1) := by decide +kernel
theorem dX4_without_17 : decode cX4_without 17 = .ok (.iaload, 1) := by decide +kernel
theorem dX4_without_18 : decode cX4_without 18 = .ok (.invokevirtual 106, 3) := by decide +kernel
theorem dX4_without_21 : decode cX4_without 21 = .ok (.ifCond .ne 6, 3) := by decide +kernel
theorem dX4_without_24 : decode cX4_without 24 = .ok (.bipush (-4), 2) := by decide +kernel
theorem dX4_without_26 : decode cX4_without 26 = .ok (.ireturn, 1) := by decide +kernel
theorem dX4_without_27 : decode cX4_without 27 = .ok (.iconst 0, 1) := by decide +kernel
theorem dX4_without_28 : decode cX4_without 28 = .ok (.istore_n 2, 1) := by decide +kernel
theorem dX4_without_29 : decode cX4_without 29 = .ok (.iconst 0, 1) := by decide +kernel
theorem dX4_without_30 : decode cX4_without 30 = .ok (.istore_n 3, 1) := by decide +kernel
theorem dX4_without_31 : decode cX4_without 31 = .ok (.iload_n 3, 1) := by decide +kernel
theorem dX4_without_32 : decode cX4_without 32 = .ok (.aload_n 0, 1) := by decide +kernel
theorem dX4_without_33 : decode cX4_without 33 = .ok (.getfield 42, 3) := by decide +kernel
theorem dX4_without_36 : decode cX4_without 36 = .ok (.getfield 87, 3) := by decide +kernel
theorem dX4_without_39 : decode cX4_without 39 = .ok (.if_icmp .ge 34, 3) := by decide +kernel
theorem dX4_without_42 : decode cX4_without 42 = .ok (.aload_n 0, 1) := by decide +kernel
theorem dX4_without_43 : decode cX4_without 43 = .ok (.getfield 54, 3) := by decide +kernel
theorem dX4_without_46 : decode cX4_without 46 = .ok (.ldc 175, 2) := by decide +kernel
theorem dX4_without_48 : decode cX4_without 48 = .ok (.iload_n 3, 1) := by decide +kernel
theorem dX4_without_49 : decode cX4_without 49 = .ok (.invokestatic 186, 3) := by decide +kernel
theorem dX4_without_52 : decode cX4_without 52 = .ok (.iconst (-1), 1) := by decide +kernel
theorem dX4_without_53 : decode cX4_without 53 = .ok (.ixor, 1) := by decide +kernel
theorem dX4_without_54 : decode cX4_without 54 = .ok (.iand, 1) := by decide +kernel
theorem dX4_without_55 : decode cX4_without 55 = .ok (.invokevirtual 179, 3) := by decide +kernel
theorem dX4_without_58 : decode cX4_without 58 = .ok (.ifCond .ne 9, 3) := by decide +kernel
theorem dX4_without_61 : decode cX4_without 61 = .ok (.iload_n 2, 1) := by decide +kernel
theorem dX4_without_62 : decode cX4_without 62 = .ok (.iconst 1, 1) := by decide +kernel
theorem dX4_without_63 : decode cX4_without 63 = .ok (.iload_n 3, 1) := by decide +kernel
theorem dX4_without_64 : decode cX4_without 64 = .ok (.ishl, 1) := by decide +kernel
theorem dX4_without_65 : decode cX4_without 65 = .ok (.ior, 1) := by decide +kernel
theorem dX4_without_66 : decode cX4_without 66 = .ok (.istore_n 2, 1) := by decide +kernel
theorem dX4_without_67 : decode cX4_without 67 = .ok (.iinc 3 1, 3) := by decide +kernel
theorem dX4_without_70 : decode cX4_without 70 = .ok (.goto (-39), 3) := by decide +kernel
theorem dX4_without_73 : decode cX4_without 73 = .ok (.iload_n 2, 1) := by decide +kernel
theorem dX4_without_74 : decode cX4_without 74 = .ok (.ireturn, 1) := by decide +kernel
theorem dX4_shortest_0 : decode cX4_shortest 0 = .ok (.aload_n 0, 1) := by decide +kernel
theorem dX4_shortest_1 : decode cX4_shortest 1 = .ok (.iload_n 1, 1) := by decide +kernel
theorem dX4_shortest_2 : decode cX4_shortest 2 = .ok (.invokevirtual 102, 3) := by decide +kernel
theorem dX4_shortest_5 : decode cX4_shortest 5 = .ok (.ifCond .eq 11, 3) := by decide +kernel
theorem dX4_shortest_8 : decode cX4_shortest 8 = .ok (.aload_n 0, 1) := by decide +kernel
theorem dX4_shortest_9 : decode cX4_shortest 9 = .ok (.iload_n 2, 1) := by decide +kernel
theorem dX4_shortest_10 : decode cX4_shortest 10 = .ok (.invokevirtual 102, 3) := by decide +kernel
theorem dX4_shortest_13 : decode cX4_shortest 13 = .ok (.ifCond .ne 5, 3) := by decide +kernel
theorem dX4_shortest_16 : decode cX4_shortest 16 = .ok (.iconst (-1), 1) := by decide +kernel
theorem dX4_shortest_17 : decode cX4_shortest 17 = .ok (.ireturn, 1) := by decide +kernel
theorem dX4_shortest_18 : decode cX4_shortest 18 = .ok (.iconst 1, 1) := by decide +kernel
theorem dX4_shortest_19 : decode cX4_shortest 19 = .ok (.istore_n 3, 1) := by decide +kernel
theorem dX4_shortest_20 : decode cX4_shortest 20 = .ok (.iload_n 3, 1) := by decide +kernel
theorem dX4_shortest_21 : decode cX4_shortest 21 = .ok (.sipush 1295, 3) := by decide +kernel
theorem dX4_shortest_24 : decode cX4_shortest 24 = .ok (.if_icmp .gt 36, 3) := by decide +kernel
theorem dX4_shortest_27 : decode cX4_shortest 27 = .ok (.iload_n 3, 1) := by decide +kernel
theorem dX4_shortest_28 : decode cX4_shortest 28 = .ok (.invokestatic 189, 3) := by decide +kernel
theorem dX4_shortest_31 : decode cX4_shortest 31 = .ok (.ifCond .eq 23, 3) := by decide +kernel
theorem dX4_shortest_34 : decode cX4_shortest 34 = .ok (.aload_n 0, 1) := by decide +kernel
theorem dX4_shortest_35 : decode cX4_shortest 35 = .ok (.iload_n 1, 1) := by decide +kernel
theorem dX4_shortest_36 : decode cX4_shortest 36 = .ok (.iload_n 3, 1) := by decide +kernel
theorem dX4_shortest_37 : decode cX4_shortest 37 = .ok (.invokevirtual 106, 3) := by decide +kernel
theorem dX4_shortest_40 : decode cX4_shortest 40 = .ok (.ifCond .le 14, 3) := by decide +kernel
theorem dX4_shortest_43 : decode cX4_shortest 43 = .ok (.aload_n 0, 1) := by decide +kernel
theorem dX4_shortest_44 : decode cX4_shortest 44 = .ok (.iload_n 2, 1) := by decide +kernel
theorem dX4_shortest_45 : decode cX4_shortest 45 = .ok (.iload_n 3, 1) := by decide +kernel
theorem dX4_shortest_46 : decode cX4_shortest 46 = .ok (.invokevirtual 106, 3) := by decide +kernel
theorem dX4_shortest_49 : decode cX4_shortest 49 = .ok (.ifCond .ne 5, 3) := by decide +kernel
theorem dX4_shortest_52 : decode cX4_shortest 52 = .ok (.iload_n 3, 1) := by decide +kernel
theorem dX4_shortest_53 : decode cX4_shortest 53 = .ok (.ireturn, 1) := by decide +kernel
theorem dX4_shortest_54 : decode cX4_shortest 54 = .ok (.iinc 3 1, 3) := by decide +kernel
theorem dX4_shortest_57 : decode cX4_shortest 57 = .ok (.goto (-37), 3) := by decide +kernel
theorem dX4_shortest_60 : decode cX4_shortest 60 = .ok (.bipush (-4), 2) := by decide +kernel
theorem dX4_shortest_62 : decode cX4_shortest 62 = .ok (.ireturn, 1) := by decide +kernel
theorem dX4_until_0 : decode cX4_until 0 = .ok (.aload_n 0, 1) := by decide +kernel
theorem dX4_until_1 : decode cX4_until 1 = .ok (.iload_n 1, 1) := by decide +kernel
theorem dX4_until_2 : decode cX4_until 2 = .ok (.invokevirtual 102, 3) := by decide +kernel
theorem dX4_until_5 : decode cX4_until 5 = .ok (.ifCond .ne 5, 3) := by decide +kernel
theorem dX4_until_8 : decode cX4_until 8 = .ok (.iconst (-1), 1) := by decide +kernel
theorem dX4_until_9 : decode cX4_until 9 = .ok (.ireturn, 1) := by decide +kernel
theorem dX4_until_10 : decode cX4_until 10 = .ok (.aload_n 0, 1) := by decide +kernel
theorem dX4_until_11 : decode cX4_until 11 = .ok (.getfield 42, 3) := by decide +kernel
theorem dX4_until_14 : decode cX4_until 14 = .ok (.invokevirtual 157, 3) := by decide +kernel
theorem dX4_until_17 : decode cX4_until 17 = .ok (.iconst 1, 1) := by decide +kernel
theorem dX4_until_18 : decode cX4_until 18 = .ok (.isub, 1) := by decide +kernel
theorem dX4_until_19 : decode cX4_until 19 = .ok (.aload_n 0, 1) := by decide +kernel
theorem dX4_until_20 : decode cX4_until 20 = .ok (.getfield 42, 3) := by decide +kernel
theorem dX4_until_23 : decode cX4_until 23 = .ok (.getfield 113, 3) := by decide +kernel
theorem dX4_until_26 : decode cX4_until 26 = .ok (.iload_n 1, 1) := by decide +kernel
theorem dX4_until_27 : decode cX4_until 27 = .ok (.iaload, 1) := by decide +kernel
theorem dX4_until_28 : decode cX4_until 28 = .ok (.isub, 1) := by decide +kernel
theorem dX4_until_29 : decode cX4_until 29 = .ok (.istore_n 2, 1) := by decide +kernel
theorem dX4_until_30 : decode cX4_until 30 = .ok (.aload_n 0, 1) := by decide +kernel
theorem dX4_until_31 : decode cX4_until 31 = .ok (.iload_n 1, 1) := by decide +kernel
theorem dX4_until_32 : decode cX4_until 32 = .ok (.invokevirtual 146, 3) := by decide +kernel
theorem dX4_until_35 : decode cX4_until 35 = .ok (.iconst 1, 1) := by decide +kernel
theorem dX4_until_36 : decode cX4_until 36 = .ok (.invokestatic 150, 3) := by decide +kernel
theorem dX4_until_39 : decode cX4_until 39 = .ok (.ifCond .eq 17, 3) := by decide +kernel
theorem dX4_until_42 : decode cX4_until 42 = .ok (.iload_n 2, 1) := by decide +kernel
theorem dX4_until_43 : decode cX4_until 43 = .ok (.aload_n 0, 1) := by decide +kernel
theorem dX4_until_44 : decode cX4_until 44 = .ok (.getfield 9, 3) := by decide +kernel
theorem dX4_until_47 : decode cX4_until 47 = .ok (.iconst 0, 1) := by decide +kernel
theorem dX4_until_48 : decode cX4_until 48 = .ok (.iaload, 1) := by decide +kernel
theorem dX4_until_49 : decode cX4_until 49 = .ok (.if_icmp .lt 7, 3) := by decide +kernel
theorem dX4_until_52 : decode cX4_until 52 = .ok (.iload_n 2, 1) := by decide +kernel
theorem dX4_until_53 : decode cX4_until 53 = .ok (.goto 5, 3) := by decide +kernel
theorem dX4_until_56 : decode cX4_until 56 = .ok (.bipush (-4), 2) := by decide +kernel
theorem dX4_until_58 : decode cX4_until 58 = .ok (.ireturn, 1) := by decide +kernel
theorem dX4_enough_0 : decode cX4_enough 0 = .ok (.iload_n 1, 1) := by decide +kernel
theorem dX4_enough_1 : decode cX4_enough 1 = .ok (.ifCond .eq 19, 3) := by decide +kernel
theorem dX4_enough_4 : decode cX4_enough 4 = .ok (.iload_n 1, 1) := by decide +kernel
theorem dX4_enough_5 : decode cX4_enough 5 = .ok (.bipush (-15), 2) := by decide +kernel
theorem dX4_enough_7 : decode cX4_enough 7 = .ok (.iand, 1) := by decide +kernel
theorem dX4_enough_8 : decode cX4_enough 8 = .ok (.ifCond .ne 12, 3) := by decide +kernel
theorem dX4_enough_11 : decode cX4_enough 11 = .ok (.iload_n 2, 1) := by decide +kernel
theorem dX4_enough_12 : decode cX4_enough 12 = .ok (.ifCond .lt 8, 3) := by decide +kernel
theorem dX4_enough_15 : decode cX4_enough 15 = .ok (.iload_n 2, 1) := by decide +kernel
theorem dX4_enough_16 : decode cX4_enough 16 = .ok (.iconst 2, 1) := by decide +kernel
theorem dX4_enough_17 : decode cX4_enough 17 = .ok (.if_icmp .le 5, 3) := by decide +kernel
theorem dX4_enough_20 : decode cX4_enough 20 = .ok (.iconst (-1), 1) := by decide +kernel
theorem dX4_enough_21 : decode cX4_enough 21 = .ok (.ireturn, 1) := by decide +kernel
theorem dX4_enough_22 : decode cX4_enough 22 = .ok (.iconst 0, 1) := by decide +kernel
theorem dX4_enough_23 : decode cX4_enough 23 = .ok (.istore_n 3, 1) := by decide +kernel
theorem dX4_enough_24 : decode cX4_enough 24 = .ok (.iload_n 3, 1) := by decide +kernel
theorem dX4_enough_25 : decode cX4_enough 25 = .ok (.aload_n 0, 1) := by decide +kernel
theorem dX4_enough_26 : decode cX4_enough 26 = .ok (.getfield 42, 3) := by decide +kernel
theorem dX4_enough_29 : decode cX4_enough 29 = .ok (.getfield 90, 3) := by decide +kernel
theorem dX4_enough_32 : decode cX4_enough 32 = .ok (.if_icmp .ge 20, 3) := by decide +kernel
theorem dX4_enough_35 : decode cX4_enough 35 = .ok (.aload_n 0, 1) := by decide +kernel
theorem dX4_enough_36 : decode cX4_enough 36 = .ok (.getfield 29, 3) := by decide +kernel
theorem dX4_enough_39 : decode cX4_enough 39 = .ok (.iload_n 3, 1) := by decide +kernel
theorem dX4_enough_40 : decode cX4_enough 40 = .ok (.aload_n 0, 1) := by decide +kernel
theorem dX4_enough_41 : decode cX4_enough 41 = .ok (.iload_n 3, 1) := by decide +kernel
theorem dX4_enough_42 : decode cX4_enough 42 = .ok (.invokevirtual 146, 3) := by decide +kernel
theorem dX4_enough_45 : decode cX4_enough 45 = .ok (.iastore, 1) := by decide +kernel
theorem dX4_enough_46 : decode cX4_enough 46 = .ok (.iinc 3 1, 3) := by decide +kernel
theorem dX4_enough_49 : decode cX4_enough 49 = .ok (.goto (-25), 3) := by decide +kernel
theorem dX4_enough_52 : decode cX4_enough 52 = .ok (.bipush (-4), 2) := by decide +kernel
theorem dX4_enough_54 : decode cX4_enough 54 = .ok (.istore_n 3, 1) := by decide +kernel
theorem dX4_enough_55 : decode cX4_enough 55 = .ok (.iconst 0, 1) := by decide +kernel
theorem dX4_enough_56 : decode cX4_enough 56 = .ok (.istore 4, 2) := by decide +kernel
theorem dX4_enough_58 : decode cX4_enough 58 = .ok (.iload 4, 2) := by decide +kernel
theorem dX4_enough_60 : decode cX4_enough 60 = .ok (.iconst 1, 1) := by decide +kernel
theorem dX4_enough_61 : decode cX4_enough 61 = .ok (.aload_n 0, 1) := by decide +kernel
theorem dX4_enough_62 : decode cX4_enough 62 = .ok (.getfield 42, 3) := by decide +kernel
theorem dX4_enough_65 : decode cX4_enough 65 = .ok (.getfield 90, 3) := by decide +kernel
theorem dX4_enough_68 : decode cX4_enough 68 = .ok (.ishl, 1) := by decide +kernel
theorem dX4_enough_69 : decode cX4_enough 69 = .ok (.if_icmp .ge 38, 3) := by decide +kernel
theorem dX4_enough_72 : decode cX4_enough 72 = .ok (.aload_n 0, 1) := by decide +kernel
theorem dX4_enough_73 : decode cX4_enough 73 = .ok (.iload 4, 2) := by decide +kernel
theorem dX4_enough_75 : decode cX4_enough 75 = .ok (.iload_n 1, 1) := by decide +kernel
theorem dX4_enough_76 : decode cX4_enough 76 = .ok (.invokevirtual 192, 3) := by decide +kernel
theorem dX4_enough_79 : decode cX4_enough 79 = .ok (.ifCond .eq 22, 3) := by decide +kernel
theorem dX4_enough_82 : decode cX4_enough 82 = .ok (.iload_n 3, 1) := by decide +kernel
theorem dX4_enough_83 : decode cX4_enough 83 = .ok (.bipush (-4), 2) := by decide +kernel
theorem dX4_enough_85 : decode cX4_enough 85 = .ok (.if_icmp .eq 13, 3) := by decide +kernel
theorem dX4_enough_88 : decode cX4_enough 88 = .ok (.aload_n 0, 1) := by decide +kernel
theorem dX4_enough_89 : decode cX4_enough 89 = .ok (.iload 4, 2) := by decide +kernel
theorem dX4_enough_91 : decode cX4_enough 91 = .ok (.iload_n 3, 1) := by decide +kernel
theorem dX4_enough_92 : decode cX4_enough 92 = .ok (.invokevirtual 195, 3) := by decide +kernel
theorem dX4_enough_95 : decode cX4_enough 95 = .ok (.ifCond .eq 6, 3) := by decide +kernel
theorem dX4_enough_98 : decode cX4_enough 98 = .ok (.iload 4, 2) := by decide +kernel
theorem dX4_enough_100 : decode cX4_enough 100 = .ok (.istore_n 3, 1) := by decide +kernel
theorem dX4_enough_101 : decode cX4_enough 101 = .ok (.iinc 4 1, 3) := by decide +kernel
theorem dX4_enough_104 : decode cX4_enough 104 = .ok (.goto (-46), 3) := by decide +kernel
theorem dX4_enough_107 : decode cX4_enough 107 = .ok (.iload_n 3, 1) := by decide +kernel
theorem dX4_enough_108 : decode cX4_enough 108 = .ok (.bipush (-4), 2) := by decide +kernel
theorem dX4_enough_110 : decode cX4_enough 110 = .ok (.if_icmp .eq 7, 3) := by decide +kernel
theorem dX4_enough_113 : decode cX4_enough 113 = .ok (.iload_n 2, 1) := by decide +kernel
theorem dX4_enough_114 : decode cX4_enough 114 = .ok (.ifCond .ne 5, 3) := by decide +kernel
theorem dX4_enough_117 : decode cX4_enough 117 = .ok (.iload_n 3, 1) := by decide +kernel
theorem dX4_enough_118 : decode cX4_enough 118 = .ok (.ireturn, 1) := by decide +kernel
theorem dX4_enough_119 : decode cX4_enough 119 = .ok (.iload_n 2, 1) := by decide +kernel
theorem dX4_enough_120 : decode cX4_enough 120 = .ok (.iconst 1, 1) := by decide +kernel
theorem dX4_enough_121 : decode cX4_enough 121 = .ok (.if_icmp .ne 14, 3) := by decide +kernel
theorem dX4_enough_124 : decode cX4_enough 124 = .ok (.aload_n 0, 1) := by decide +kernel
theorem dX4_enough_125 : decode cX4_enough 125 = .ok (.getfield 42, 3) := by decide +kernel
theorem dX4_enough_128 : decode cX4_enough 128 = .ok (.iload_n 3, 1) := by decide +kernel
theorem dX4_enough_129 : decode cX4_enough 129 = .ok (.invokevirtual 198, 3) := by decide +kernel
theorem dX4_enough_132 : decode cX4_enough 132 = .ok (.goto 11, 3) := by decide +kernel
theorem dX4_enough_135 : decode cX4_enough 135 = .ok (.aload_n 0, 1) := by decide +kernel
theorem dX4_enough_136 : decode cX4_enough 136 = .ok (.getfield 42, 3) := by decide +kernel
theorem dX4_enough_139 : decode cX4_enough 139 = .ok (.iload_n 3, 1) := by decide +kernel
theorem dX4_enough_140 : decode cX4_enough 140 = .ok (.invokevirtual 201, 3) := by decide +kernel
theorem dX4_enough_143 : decode cX4_enough 143 = .ok (.ireturn, 1) := by decide +kernel
theorem dX4_see_0 : decode cX4_see 0 = .ok (.aload_n 0, 1) := by decide +kernel
theorem dX4_see_1 : decode cX4_see 1 = .ok (.iload_n 1, 1) := by decide +kernel
theorem dX4_see_2 : decode cX4_see 2 = .ok (.invokevirtual 102, 3) := by decide +kernel
theorem dX4_see_5 : decode cX4_see 5 = .ok (.ifCond .eq 14, 3) := by decide +kernel
theorem dX4_see_8 : decode cX4_see 8 = .ok (.iload_n 2, 1) := by decide +kernel
theorem dX4_see_9 : decode cX4_see 9 = .ok (.ifCond .lt 10, 3) := by decide +kernel
theorem dX4_see_12 : decode cX4_see 12 = .ok (.iload_n 2, 1) := by decide +kernel
theorem dX4_see_13 : decode cX4_see 13 = .ok (.sipush 600, 3) := by decide +kernel
theorem dX4_see_16 : decode cX4_see 16 = .ok (.if_icmp .le 5, 3) := by decide +kernel
theorem dX4_see_19 : decode cX4_see 19 = .ok (.iconst (-1), 1) := by decide +kernel
theorem dX4_see_20 : decode cX4_see 20 = .ok (.ireturn, 1) := by decide +kernel
theorem dX4_see_21 : decode cX4_see 21 = .ok (.aload_n 0, 1) := by decide +kernel
theorem dX4_see_22 : decode cX4_see 22 = .ok (.getfield 204, 3) := by decide +kernel
theorem dX4_see_25 : decode cX4_see 25 = .ok (.bipush 6, 2) := by decide +kernel
theorem dX4_see_27 : decode cX4_see 27 = .ok (.if_icmp .lt 6, 3) := by decide +kernel
theorem dX4_see_30 : decode cX4_see 30 = .ok (.bipush (-3), 2) := by decide +kernel
theorem dX4_see_32 : decode cX4_see 32 = .ok (.ireturn, 1) := by decide +kernel
theorem dX4_see_33 : decode cX4_see 33 = .ok (.aload_n 0, 1) := by decide +kernel
theorem dX4_see_34 : decode cX4_see 34 = .ok (.getfield 23, 3) := by decide +kernel
theorem dX4_see_37 : decode cX4_see 37 = .ok (.aload_n 0, 1) := by decide +kernel
theorem dX4_see_38 : decode cX4_see 38 = .ok (.getfield 204, 3) := by decide +kernel
theorem dX4_see_41 : decode cX4_see 41 = .ok (.iload_n 1, 1) := by decide +kernel
theorem dX4_see_42 : decode cX4_see 42 = .ok (.iastore, 1) := by decide +kernel
theorem dX4_see_43 : decode cX4_see 43 = .ok (.aload_n 0, 1) := by decide +kernel
theorem dX4_see_44 : decode cX4_see 44 = .ok (.getfield 26, 3) := by decide +kernel
theorem dX4_see_47 : decode cX4_see 47 = .ok (.aload_n 0, 1) := by decide +kernel
theorem dX4_see_48 : decode cX4_see 48 = .ok (.getfield 204, 3) := by decide +kernel
theorem dX4_see_51 : decode cX4_see 51 = .ok (.iload_n 2, 1) := by decide +kernel
theorem dX4_see_52 : decode cX4_see 52 = .ok (.iastore, 1) := by decide +kernel
theorem dX4_see_53 : decode cX4_see 53 = .ok (.aload_n 0, 1) := by decide +kernel
theorem dX4_see_54 : decode cX4_see 54 = .ok (.dup, 1) := by decide +kernel
theorem dX4_see_55 : decode cX4_see 55 = .ok (.getfield 204, 3) := by decide +kernel
theorem dX4_see_58 : decode cX4_see 58 = .ok (.iconst 1, 1) := by decide +kernel
theorem dX4_see_59 : decode cX4_see 59 = .ok (.iadd, 1) := by decide +kernel
theorem dX4_see_60 : decode cX4_see 60 = .ok (.putfield 204, 3) := by decide +kernel
theorem dX4_see_63 : decode cX4_see 63 = .ok (.aload_n 0, 1) := by decide +kernel
theorem dX4_see_64 : decode cX4_see 64 = .ok (.getfield 204, 3) := by decide +kernel
theorem dX4_see_67 : decode cX4_see 67 = .ok (.ireturn, 1) := by decide +kernel
theorem dX4_forget_0 : decode cX4_forget 0 = .ok (.aload_n 0, 1) := by decide +kernel
theorem dX4_forget_1 : decode cX4_forget 1 = .ok (.getfield 204, 3) := by decide +kernel
theorem dX4_forget_4 : decode cX4_forget 4 = .ok (.istore_n 1, 1) := by decide +kernel
theorem dX4_forget_5 : decode cX4_forget 5 = .ok (.aload_n 0, 1) := by decide +kernel
theorem dX4_forget_6 : decode cX4_forget 6 = .ok (.iconst 0, 1) := by decide +kernel
theorem dX4_forget_7 : decode cX4_forget 7 = .ok (.putfield 204, 3) := by decide +kernel
theorem dX4_forget_10 : decode cX4_forget 10 = .ok (.iload_n 1, 1) := by decide +kernel
theorem dX4_forget_11 : decode cX4_forget 11 = .ok (.ireturn, 1) := by decide +kernel
theorem dX4_wrote_0 : decode cX4_wrote 0 = .ok (.iload_n 1, 1) := by decide +kernel
theorem dX4_wrote_1 : decode cX4_wrote 1 = .ok (.ifCond .lt 8, 3) := by decide +kernel
theorem dX4_wrote_4 : decode cX4_wrote 4 = .ok (.iload_n 1, 1) := by decide +kernel
theorem dX4_wrote_5 : decode cX4_wrote 5 = .ok (.iconst 1, 1) := by decide +kernel
theorem dX4_wrote_6 : decode cX4_wrote 6 = .ok (.if_icmp .le 5, 3) := by decide +kernel
theorem dX4_wrote_9 : decode cX4_wrote 9 = .ok (.iconst (-1), 1) := by decide +kernel
theorem dX4_wrote_10 : decode cX4_wrote 10 = .ok (.ireturn, 1) := by decide +kernel
theorem dX4_wrote_11 : decode cX4_wrote 11 = .ok (.iconst 0, 1) := by decide +kernel
theorem dX4_wrote_12 : decode cX4_wrote 12 = .ok (.istore_n 2, 1) := by decide +kernel
theorem dX4_wrote_13 : decode cX4_wrote 13 = .ok (.iconst 1, 1) := by decide +kernel
theorem dX4_wrote_14 : decode cX4_wrote 14 = .ok (.istore_n 3, 1) := by decide +kernel
theorem dX4_wrote_15 : decode cX4_wrote 15 = .ok (.iload_n 3, 1) := by decide +kernel
theorem dX4_wrote_16 : decode cX4_wrote 16 = .ok (.sipush 1295, 3) := by decide +kernel
theorem dX4_wrote_19 : decode cX4_wrote 19 = .ok (.if_icmp .gt 34, 3) := by decide +kernel
theorem dX4_wrote_22 : decode cX4_wrote 22 = .ok (.iload_n 3, 1) := by decide +kernel
theorem dX4_wrote_23 : decode cX4_wrote 23 = .ok (.invokestatic 189, 3) := by decide +kernel
theorem dX4_wrote_26 : decode cX4_wrote 26 = .ok (.ifCond .eq 21, 3) := by decide +kernel
theorem dX4_wrote_29 : decode cX4_wrote 29 = .ok (.aload_n 0, 1) := by decide +kernel
theorem dX4_wrote_30 : decode cX4_wrote 30 = .ok (.iload_n 3, 1) := by decide +kernel
theorem dX4_wrote_31 : decode cX4_wrote 31 = .ok (.invokevirtual 207, 3) := by decide +kernel
theorem dX4_wrote_34 : decode cX4_wrote 34 = .ok (.ifCond .eq 13, 3) := by decide +kernel
theorem dX4_wrote_37 : decode cX4_wrote 37 = .ok (.iload_n 1, 1) := by decide +kernel
theorem dX4_wrote_38 : decode cX4_wrote 38 = .ok (.iconst 1, 1) := by decide +kernel
theorem dX4_wrote_39 : decode cX4_wrote 39 = .ok (.if_icmp .ne 5, 3) := by decide +kernel
theorem dX4_wrote_42 : decode cX4_wrote 42 = .ok (.iload_n 3, 1) := by decide +kernel
theorem dX4_wrote_43 : decode cX4_wrote 43 = .ok (.ireturn, 1) := by decide +kernel
theorem dX4_wrote_44 : decode cX4_wrote 44 = .ok (.iinc 2 1, 3) := by decide +kernel
theorem dX4_wrote_47 : decode cX4_wrote 47 = .ok (.iinc 3 1, 3) := by decide +kernel
theorem dX4_wrote_50 : decode cX4_wrote 50 = .ok (.goto (-35), 3) := by decide +kernel
theorem dX4_wrote_53 : decode cX4_wrote 53 = .ok (.iload_n 1, 1) := by decide +kernel
theorem dX4_wrote_54 : decode cX4_wrote 54 = .ok (.iconst 1, 1) := by decide +kernel
theorem dX4_wrote_55 : decode cX4_wrote 55 = .ok (.if_icmp .ne 8, 3) := by decide +kernel
theorem dX4_wrote_58 : decode cX4_wrote 58 = .ok (.bipush (-4), 2) := by decide +kernel
theorem dX4_wrote_60 : decode cX4_wrote 60 = .ok (.goto 4, 3) := by decide +kernel
theorem dX4_wrote_63 : decode cX4_wrote 63 = .ok (.iload_n 2, 1) := by decide +kernel
theorem dX4_wrote_64 : decode cX4_wrote 64 = .ok (.ireturn, 1) := by decide +kernel
theorem dX4_forgotten_0 : decode cX4_forgotten 0 = .ok (.aload_n 0, 1) := by decide +kernel
theorem dX4_forgotten_1 : decode cX4_forgotten 1 = .ok (.iload_n 1, 1) := by decide +kernel
theorem dX4_forgotten_2 : decode cX4_forgotten 2 = .ok (.invokevirtual 102, 3) := by decide +kernel
theorem dX4_forgotten_5 : decode cX4_forgotten 5 = .ok (.ifCond .eq 20, 3) := by decide +kernel
theorem dX4_forgotten_8 : decode cX4_forgotten 8 = .ok (.iload_n 2, 1) := by decide +kernel
theorem dX4_forgotten_9 : decode cX4_forgotten 9 = .ok (.ifCond .lt 16, 3) := by decide +kernel
theorem dX4_forgotten_12 : decode cX4_forgotten 12 = .ok (.iload_n 2, 1) := by decide +kernel
theorem dX4_forgotten_13 : decode cX4_forgotten 13 = .ok (.bipush 10, 2) := by decide +kernel
theorem dX4_forgotten_15 : decode cX4_forgotten 15 = .ok (.if_icmp .gt 10, 3) := by decide +kernel
theorem dX4_forgotten_18 : decode cX4_forgotten 18 = .ok (.iload_n 3, 1) := by decide +kernel
theorem dX4_forgotten_19 : decode cX4_forgotten 19 = .ok (.invokestatic 172, 3) := by decide +kernel
theorem dX4_forgotten_22 : decode cX4_forgotten 22 = .ok (.ifCond .ne 5, 3) := by decide +kernel
theorem dX4_forgotten_25 : decode cX4_forgotten 25 = .ok (.iconst (-1), 1) := by decide +kernel
theorem dX4_forgotten_26 : decode cX4_forgotten 26 = .ok (.ireturn, 1) := by decide +kernel
theorem dX4_forgotten_27 : decode cX4_forgotten 27 = .ok (.aload_n 0, 1) := by decide +kernel
theorem dX4_forgotten_28 : decode cX4_forgotten 28 = .ok (.getfield 54, 3) := by decide +kernel
theorem dX4_forgotten_31 : decode cX4_forgotten 31 = .ok (.aload_n 0, 1) := by decide +kernel
theorem dX4_forgotten_32 : decode cX4_forgotten 32 = .ok (.getfield 42, 3) := by decide +kernel
theorem dX4_forgotten_35 : decode cX4_forgotten 35 = .ok (.getfield 110, 3) := by decide +kernel
theorem dX4_forgotten_38 : decode cX4_forgotten 38 = .ok (.iload_n 1, 1) := by decide +kernel
theorem dX4_forgotten_39 : decode cX4_forgotten 39 = .ok (.iaload, 1) := by decide +kernel
theorem dX4_forgotten_40 : decode cX4_forgotten 40 = .ok (.aload_n 0, 1) := by decide +kernel
theorem dX4_forgotten_41 : decode cX4_forgotten 41 = .ok (.getfield 9, 3) := by decide +kernel
theorem dX4_forgotten_44 : decode cX4_forgotten 44 = .ok (.iconst 4, 1) := by decide +kernel
theorem dX4_forgotten_45 : decode cX4_forgotten 45 = .ok (.iaload, 1) := by decide +kernel
theorem dX4_forgotten_46 : decode cX4_forgotten 46 = .ok (.invokevirtual 210, 3) := by decide +kernel
theorem dX4_forgotten_49 : decode cX4_forgotten 49 = .ok (.lconst 0, 1) := by decide +kernel
theorem dX4_forgotten_50 : decode cX4_forgotten 50 = .ok (.lstore 4, 2) := by decide +kernel
theorem dX4_forgotten_52 : decode cX4_forgotten 52 = .ok (.iconst 0, 1) := by decide +kernel
theorem dX4_forgotten_53 : decode cX4_forgotten 53 = .ok (.istore 6, 2) := by decide +kernel
theorem dX4_forgotten_55 : decode cX4_forgotten 55 = .ok (.iload 6, 2) := by decide +kernel
theorem dX4_forgotten_57 : decode cX4_forgotten 57 = .ok (.iconst 1, 1) := by decide +kernel
theorem dX4_forgotten_58 : decode cX4_forgotten 58 = .ok (.aload_n 0, 1) := by decide +kernel
theorem dX4_forgotten_59 : decode cX4_forgotten 59 = .ok (.getfield 42, 3) := by decide +kernel
theorem dX4_forgotten_62 : decode cX4_forgotten 62 = .ok (.getfield 87, 3) := by decide +kernel
theorem dX4_forgotten_65 : decode cX4_forgotten 65 = .ok (.ishl, 1) := by decide +kernel
theorem dX4_forgotten_66 : decode cX4_forgotten 66 = .ok (.if_icmp .ge 37, 3) := by decide +kernel
theorem dX4_forgotten_69 : decode cX4_forgotten 69 = .ok (.aload_n 0, 1) := by decide +kernel
theorem dX4_forgotten_70 : decode cX4_forgotten 70 = .ok (.getfield 54, 3) := by decide +kernel
theorem dX4_forgotten_73 : decode cX4_forgotten 73 = .ok (.aload_n 0, 1) := by decide +kernel
theorem dX4_forgotten_74 : decode cX4_forgotten 74 = .ok (.iload 6, 2) := by decide +kernel
theorem dX4_forgotten_76 : decode cX4_forgotten 76 = .ok (.invokevirtual 214, 3) := by decide +kernel
theorem dX4_forgotten_79 : decode cX4_forgotten 79 = .ok (.invokevirtual 179, 3) := by decide +kernel
theorem dX4_forgotten_82 : decode cX4_forgotten 82 = .ok (.ifCond .le 15, 3) := by decide +kernel
theorem dX4_forgotten_85 : decode cX4_forgotten 85 = .ok (.lload 4, 2) := by decide +kernel
theorem dX4_forgotten_87 : decode cX4_forgotten 87 = .ok (.aload_n 0, 1) := by decide +kernel
theorem dX4_forgotten_88 : decode cX4_forgotten 88 = .ok (.iload 6, 2) := by decide +kernel
theorem dX4_forgotten_90 : decode cX4_forgotten 90 = .ok (.iload_n 2, 1) := by decide +kernel
theorem dX4_forgotten_91 : decode cX4_forgotten 91 = .ok (.invokevirtual 217, 3) := by decide +kernel
theorem dX4_forgotten_94 : decode cX4_forgotten 94 = .ok (.ladd, 1) := by decide +kernel
theorem dX4_forgotten_95 : decode cX4_forgotten 95 = .ok (.lstore 4, 2) := by decide +kernel
theorem dX4_forgotten_97 : decode cX4_forgotten 97 = .ok (.iinc 6 1, 3) := by decide +kernel
theorem dX4_forgotten_100 : decode cX4_forgotten 100 = .ok (.goto (-45), 3) := by decide +kernel
theorem dX4_forgotten_103 : decode cX4_forgotten 103 = .ok (.lload 4, 2) := by decide +kernel
theorem dX4_forgotten_105 : decode cX4_forgotten 105 = .ok (.bipush 10, 2) := by decide +kernel
theorem dX4_forgotten_107 : decode cX4_forgotten 107 = .ok (.aload_n 0, 1) := by decide +kernel
theorem dX4_forgotten_108 : decode cX4_forgotten 108 = .ok (.getfield 42, 3) := by decide +kernel
theorem dX4_forgotten_111 : decode cX4_forgotten 111 = .ok (.getfield 87, 3) := by decide +kernel
theorem dX4_forgotten_114 : decode cX4_forgotten 114 = .ok (.invokestatic 221, 3) := by decide +kernel
theorem dX4_forgotten_117 : decode cX4_forgotten 117 = .ok (.iload_n 3, 1) := by decide +kernel
theorem dX4_forgotten_118 : decode cX4_forgotten 118 = .ok (.invokestatic 182, 3) := by decide +kernel
theorem dX4_forgotten_121 : decode cX4_forgotten 121 = .ok (.ireturn, 1) := by decide +kernel
theorem dX4_walls_0 : decode cX4_walls 0 = .ok (.iload_n 1, 1) := by decide +kernel
theorem dX4_walls_1 : decode cX4_walls 1 = .ok (.ifCond .lt 40, 3) := by decide +kernel
theorem dX4_walls_4 : decode cX4_walls 4 = .ok (.iload_n 1, 1) := by decide +kernel
theorem dX4_walls_5 : decode cX4_walls 5 = .ok (.sipush 9999, 3) := by decide +kernel
theorem dX4_walls_8 : decode cX4_walls 8 = .ok (.if_icmp .gt 33, 3) := by decide +kernel
theorem dX4_walls_11 : decode cX4_walls 11 = .ok (.iload_n 2, 1) := by decide +kernel
theorem dX4_walls_12 : decode cX4_walls 12 = .ok (.iconst 1, 1) := by decide +kernel
theorem dX4_walls_13 : decode cX4_walls 13 = .ok (.if_icmp .lt 28, 3) := by decide +kernel
theorem dX4_walls_16 : decode cX4_walls 16 = .ok (.iload_n 2, 1) := by decide +kernel
theorem dX4_walls_17 : decode cX4_walls 17 = .ok (.bipush 40, 2) := by decide +kernel
theorem dX4_walls_19 : decode cX4_walls 19 = .ok (.if_icmp .gt 22, 3) := by decide +kernel
theorem dX4_walls_22 : decode cX4_walls 22 = .ok (.aload_n 0, 1) := by decide +kernel
theorem dX4_walls_23 : decode cX4_walls 23 = .ok (.iload_n 3, 1) := by decide +kernel
theorem dX4_walls_24 : decode cX4_walls 24 = .ok (.invokevirtual 102, 3) := by decide +kernel
theorem dX4_walls_27 : decode cX4_walls 27 = .ok (.ifCond .eq 14, 3) := by decide +kernel
theorem dX4_walls_30 : decode cX4_walls 30 = .ok (.iload 4, 2) := by decide +kernel
theorem dX4_walls_32 : decode cX4_walls 32 = .ok (.ifCond .lt 9, 3) := by decide +kernel
theorem dX4_walls_35 : decode cX4_walls 35 = .ok (.iload 4, 2) := by decide +kernel
theorem dX4_walls_37 : decode cX4_walls 37 = .ok (.iconst 1, 1) := by decide +kernel
theorem dX4_walls_38 : decode cX4_walls 38 = .ok (.if_icmp .le 5, 3) := by decide +kernel
theorem dX4_walls_41 : decode cX4_walls 41 = .ok (.iconst (-1), 1) := by decide +kernel
theorem dX4_walls_42 : decode cX4_walls 42 = .ok (.ireturn, 1) := by decide +kernel
theorem dX4_walls_43 : decode cX4_walls 43 = .ok (.iconst 0, 1) := by decide +kernel
theorem dX4_walls_44 : decode cX4_walls 44 = .ok (.istore 5, 2) := by decide +kernel
theorem dX4_walls_46 : decode cX4_walls 46 = .ok (.iconst 0, 1) := by decide +kernel
theorem dX4_walls_47 : decode cX4_walls 47 = .ok (.istore 6, 2) := by decide +kernel
theorem dX4_walls_49 : decode cX4_walls 49 = .ok (.iconst 0, 1) := by decide +kernel
theorem dX4_walls_50 : decode cX4_walls 50 = .ok (.istore 7, 2) := by decide +kernel
theorem dX4_walls_52 : decode cX4_walls 52 = .ok (.iload 7, 2) := by decide +kernel
theorem dX4_walls_54 : decode cX4_walls 54 = .ok (.iload_n 2, 1) := by decide +kernel
theorem dX4_walls_55 : decode cX4_walls 55 = .ok (.if_icmp .ge 44, 3) := by decide +kernel
theorem dX4_walls_58 : decode cX4_walls 58 = .ok (.aload_n 0, 1) := by decide +kernel
theorem dX4_walls_59 : decode cX4_walls 59 = .ok (.iload_n 3, 1) := by decide +kernel
theorem dX4_walls_60 : decode cX4_walls 60 = .ok (.iload_n 1, 1) := by decide +kernel
theorem dX4_walls_61 : decode cX4_walls 61 = .ok (.iload 7, 2) := by decide +kernel
theorem dX4_walls_63 : decode cX4_walls 63 = .ok (.invokestatic 224, 3) := by decide +kernel
theorem dX4_walls_66 : decode cX4_walls 66 = .ok (.invokevirtual 106, 3) := by decide +kernel
theorem dX4_walls_69 : decode cX4_walls 69 = .ok (.istore 8, 2) := by decide +kernel
theorem dX4_walls_71 : decode cX4_walls 71 = .ok (.iload 5, 2) := by decide +kernel
theorem dX4_walls_73 : decode cX4_walls 73 = .ok (.iload 8, 2) := by decide +kernel
theorem dX4_walls_75 : decode cX4_walls 75 = .ok (.ifCond .le 7, 3) := by decide +kernel
theorem dX4_walls_78 : decode cX4_walls 78 = .ok (.iconst 1, 1) := by decide +kernel
theorem dX4_walls_79 : decode cX4_walls 79 = .ok (.goto 4, 3) := by decide +kernel
theorem dX4_walls_82 : decode cX4_walls 82 = .ok (.iconst 0, 1) := by decide +kernel
theorem dX4_walls_83 : decode cX4_walls 83 = .ok (.iadd, 1) := by decide +kernel
theorem dX4_walls_84 : decode cX4_walls 84 = .ok (.istore 5, 2) := by decide +kernel
theorem dX4_walls_86 : decode cX4_walls 86 = .ok (.iload 6, 2) := by decide +kernel
theorem dX4_walls_88 : decode cX4_walls 88 = .ok (.iload 8, 2) := by decide +kernel
theorem dX4_walls_90 : decode cX4_walls 90 = .ok (.iadd, 1) := by decide +kernel
theorem dX4_walls_91 : decode cX4_walls 91 = .ok (.istore 6, 2) := by decide +kernel
theorem dX4_walls_93 : decode cX4_walls 93 = .ok (.iinc 7 1, 3) := by decide +kernel
theorem dX4_walls_96 : decode cX4_walls 96 = .ok (.goto (-44), 3) := by decide +kernel
theorem dX4_walls_99 : decode cX4_walls 99 = .ok (.iload 4, 2) := by decide +kernel
theorem dX4_walls_101 : decode cX4_walls 101 = .ok (.ifCond .ne 8, 3) := by decide +kernel
theorem dX4_walls_104 : decode cX4_walls 104 = .ok (.iload 5, 2) := by decide +kernel
theorem dX4_walls_106 : decode cX4_walls 106 = .ok (.goto 5, 3) := by decide +kernel
theorem dX4_walls_109 : decode cX4_walls 109 = .ok (.iload 6, 2) := by decide +kernel
theorem dX4_walls_111 : decode cX4_walls 111 = .ok (.ireturn, 1) := by decide +kernel
theorem dX4_keep_0 : decode cX4_keep 0 = .ok (.aload_n 0, 1) := by decide +kernel
theorem dX4_keep_1 : decode cX4_keep 1 = .ok (.getfield 20, 3) := by decide +kernel
theorem dX4_keep_4 : decode cX4_keep 4 = .ok (.getfield 166, 3) := by decide +kernel
theorem dX4_keep_7 : decode cX4_keep 7 = .ok (.iconst 2, 1) := by decide +kernel
theorem dX4_keep_8 : decode cX4_keep 8 = .ok (.if_icmp .lt 6, 3) := by decide +kernel
theorem dX4_keep_11 : decode cX4_keep 11 = .ok (.bipush (-3), 2) := by decide +kernel
theorem dX4_keep_13 : decode cX4_keep 13 = .ok (.ireturn, 1) := by decide +kernel
theorem dX4_keep_14 : decode cX4_keep 14 = .ok (.aload_n 0, 1) := by decide +kernel
theorem dX4_keep_15 : decode cX4_keep 15 = .ok (.getfield 20, 3) := by decide +kernel
theorem dX4_keep_18 : decode cX4_keep 18 = .ok (.aload_n 0, 1) := by decide +kernel
theorem dX4_keep_19 : decode cX4_keep 19 = .ok (.getfield 9, 3) := by decide +kernel
theorem dX4_keep_22 : decode cX4_keep 22 = .ok (.invokevirtual 142, 3) := by decide +kernel
theorem dX4_keep_25 : decode cX4_keep 25 = .ok (.aload_n 0, 1) := by decide +kernel
theorem dX4_keep_26 : decode cX4_keep 26 = .ok (.getfield 20, 3) := by decide +kernel
theorem dX4_keep_29 : decode cX4_keep 29 = .ok (.getfield 166, 3) := by decide +kernel
theorem dX4_keep_32 : decode cX4_keep 32 = .ok (.ireturn, 1) := by decide +kernel
theorem dX4_back_0 : decode cX4_back 0 = .ok (.aload_n 0, 1) := by decide +kernel
theorem dX4_back_1 : decode cX4_back 1 = .ok (.getfield 20, 3) := by decide +kernel
theorem dX4_back_4 : decode cX4_back 4 = .ok (.getfield 166, 3) := by decide +kernel
theorem dX4_back_7 : decode cX4_back 7 = .ok (.ifCond .ne 6, 3) := by decide +kernel
theorem dX4_back_10 : decode cX4_back 10 = .ok (.bipush (-2), 2) := by decide +kernel
theorem dX4_back_12 : decode cX4_back 12 = .ok (.ireturn, 1) := by decide +kernel
theorem dX4_back_13 : decode cX4_back 13 = .ok (.aload_n 0, 1) := by decide +kernel
theorem dX4_back_14 : decode cX4_back 14 = .ok (.getfield 20, 3) := by decide +kernel
theorem dX4_back_17 : decode cX4_back 17 = .ok (.aload_n 0, 1) := by decide +kernel
theorem dX4_back_18 : decode cX4_back 18 = .ok (.getfield 9, 3) := by decide +kernel
theorem dX4_back_21 : decode cX4_back 21 = .ok (.invokevirtual 169, 3) := by decide +kernel
theorem dX4_back_24 : decode cX4_back 24 = .ok (.aload_n 0, 1) := by decide +kernel
theorem dX4_back_25 : decode cX4_back 25 = .ok (.getfield 16, 3) := by decide +kernel
theorem dX4_back_28 : decode cX4_back 28 = .ok (.iconst 0, 1) := by decide +kernel
theorem dX4_back_29 : decode cX4_back 29 = .ok (.putfield 166, 3) := by decide +kernel
theorem dX4_back_32 : decode cX4_back 32 = .ok (.aload_n 0, 1) := by decide +kernel
theorem dX4_back_33 : decode cX4_back 33 = .ok (.getfield 20, 3) := by decide +kernel
theorem dX4_back_36 : decode cX4_back 36 = .ok (.getfield 166, 3) := by decide +kernel
theorem dX4_back_39 : decode cX4_back 39 = .ok (.ireturn, 1) := by decide +kernel
theorem dX4_count_0 : decode cX4_count 0 = .ok (.iload_n 1, 1) := by decide +kernel
theorem dX4_count_1 : decode cX4_count 1 = .ok (.tableswitch 183 0 12 #[67, 75, 83, 93, 100, 107, 121, 129, 147, 154, 159, 167, 175], 67) := by decide +kernel
theorem dX4_count_68 : decode cX4_count 68 = .ok (.aload_n 0, 1) := by decide +kernel
theorem dX4_count_69 : decode cX4_count 69 = .ok (.getfield 42, 3) := by decide +kernel
theorem dX4_count_72 : decode cX4_count 72 = .ok (.getfield 87, 3) := by decide +kernel
theorem dX4_count_75 : decode cX4_count 75 = .ok (.ireturn, 1) := by decide +kernel
theorem dX4_count_76 : decode cX4_count 76 = .ok (.aload_n 0, 1) := by decide +kernel
theorem dX4_count_77 : decode cX4_count 77 = .ok (.getfield 42, 3) := by decide +kernel
theorem dX4_count_80 : decode cX4_count 80 = .ok (.getfield 90, 3) := by decide +kernel
theorem dX4_count_83 : decode cX4_count 83 = .ok (.ireturn, 1) := by decide +kernel
theorem dX4_count_84 : decode cX4_count 84 = .ok (.aload_n 0, 1) := by decide +kernel
theorem dX4_count_85 : decode cX4_count 85 = .ok (.getfield 9, 3) := by decide +kernel
theorem dX4_count_88 : decode cX4_count 88 = .ok (.iconst 4, 1) := by decide +kernel
theorem dX4_count_89 : decode cX4_count 89 = .ok (.iaload, 1) := by decide +kernel
theorem dX4_count_90 : decode cX4_count 90 = .ok (.invokestatic 160, 3) := by decide +kernel
theorem dX4_count_93 : decode cX4_count 93 = .ok (.ireturn, 1) := by decide +kernel
theorem dX4_count_94 : decode cX4_count 94 = .ok (.aload_n 0, 1) := by decide +kernel
theorem dX4_count_95 : decode cX4_count 95 = .ok (.getfield 9, 3) := by decide +kernel
theorem dX4_count_98 : decode cX4_count 98 = .ok (.iconst 0, 1) := by decide +kernel
theorem dX4_count_99 : decode cX4_count 99 = .ok (.iaload, 1) := by decide +kernel
theorem dX4_count_100 : decode cX4_count 100 = .ok (.ireturn, 1) := by decide +kernel
theorem dX4_count_101 : decode cX4_count 101 = .ok (.aload_n 0, 1) := by decide +kernel
theorem dX4_count_102 : decode cX4_count 102 = .ok (.getfield 9, 3) := by decide +kernel
theorem dX4_count_105 : decode cX4_count 105 = .ok (.iconst 1, 1) := by decide +kernel
theorem dX4_count_106 : decode cX4_count 106 = .ok (.iaload, 1) := by decide +kernel
theorem dX4_count_107 : decode cX4_count 107 = .ok (.ireturn, 1) := by decide +kernel
theorem dX4_count_108 : decode cX4_count 108 = .ok (.aload_n 0, 1) := by decide +kernel
theorem dX4_count_109 : decode cX4_count 109 = .ok (.getfield 42, 3) := by decide +kernel
theorem dX4_count_112 : decode cX4_count 112 = .ok (.aload_n 0, 1) := by decide +kernel
theorem dX4_count_113 : decode cX4_count 113 = .ok (.getfield 9, 3) := by decide +kernel
theorem dX4_count_116 : decode cX4_count 116 = .ok (.iconst 0, 1) := by decide +kernel
theorem dX4_count_117 : decode cX4_count 117 = .ok (.iaload, 1) := by decide +kernel
theorem dX4_count_118 : decode cX4_count 118 = .ok (.invokevirtual 163, 3) := by decide +kernel
theorem dX4_count_121 : decode cX4_count 121 = .ok (.ireturn, 1) := by decide +kernel
theorem dX4_count_122 : decode cX4_count 122 = .ok (.aload_n 0, 1) := by decide +kernel
theorem dX4_count_123 : decode cX4_count 123 = .ok (.getfield 42, 3) := by decide +kernel
theorem dX4_count_126 : decode cX4_count 126 = .ok (.invokevirtual 157, 3) := by decide +kernel
theorem dX4_count_129 : decode cX4_count 129 = .ok (.ireturn, 1) := by decide +kernel
theorem dX4_count_130 : decode cX4_count 130 = .ok (.aload_n 0, 1) := by decide +kernel
theorem dX4_count_131 : decode cX4_count 131 = .ok (.invokevirtual 153, 3) := by decide +kernel
theorem dX4_count_134 : decode cX4_count 134 = .ok (.ifCond .eq 7, 3) := by decide +kernel
theorem dX4_count_137 : decode cX4_count 137 = .ok (.iconst 2, 1) := by decide +kernel
theorem dX4_count_138 : decode cX4_count 138 = .ok (.goto 9, 3) := by decide +kernel
theorem dX4_count_141 : decode cX4_count 141 = .ok (.aload_n 0, 1) := by decide +kernel
theorem dX4_count_142 : decode cX4_count 142 = .ok (.getfield 9, 3) := by decide +kernel
theorem dX4_count_145 : decode cX4_count 145 = .ok (.iconst 3, 1) := by decide +kernel
theorem dX4_count_146 : decode cX4_count 146 = .ok (.iaload, 1) := by decide +kernel
theorem dX4_count_147 : decode cX4_count 147 = .ok (.ireturn, 1) := by decide +kernel
theorem dX4_count_148 : decode cX4_count 148 = .ok (.aload_n 0, 1) := by decide +kernel
theorem dX4_count_149 : decode cX4_count 149 = .ok (.getfield 9, 3) := by decide +kernel
theorem dX4_count_152 : decode cX4_count 152 = .ok (.iconst 2, 1) := by decide +kernel
theorem dX4_count_153 : decode cX4_count 153 = .ok (.iaload, 1) := by decide +kernel
theorem dX4_count_154 : decode cX4_count 154 = .ok (.ireturn, 1) := by decide +kernel
theorem dX4_count_155 : decode cX4_count 155 = .ok (.aload_n 0, 1) := by decide +kernel
theorem dX4_count_156 : decode cX4_count 156 = .ok (.getfield 204, 3) := by decide +kernel
theorem dX4_count_159 : decode cX4_count 159 = .ok (.ireturn, 1) := by decide +kernel
theorem dX4_count_160 : decode cX4_count 160 = .ok (.aload_n 0, 1) := by decide +kernel
theorem dX4_count_161 : decode cX4_count 161 = .ok (.getfield 16, 3) := by decide +kernel
theorem dX4_count_164 : decode cX4_count 164 = .ok (.getfield 166, 3) := by decide +kernel
theorem dX4_count_167 : decode cX4_count 167 = .ok (.ireturn, 1) := by decide +kernel
theorem dX4_count_168 : decode cX4_count 168 = .ok (.aload_n 0, 1) := by decide +kernel
theorem dX4_count_169 : decode cX4_count 169 = .ok (.getfield 20, 3) := by decide +kernel
theorem dX4_count_172 : decode cX4_count 172 = .ok (.getfield 166, 3) := by decide +kernel
theorem dX4_count_175 : decode cX4_count 175 = .ok (.ireturn, 1) := by decide +kernel
theorem dX4_count_176 : decode cX4_count 176 = .ok (.aload_n 0, 1) := by decide +kernel
theorem dX4_count_177 : decode cX4_count 177 = .ok (.getfield 35, 3) := by decide +kernel
theorem dX4_count_180 : decode cX4_count 180 = .ok (.getfield 84, 3) := by decide +kernel
theorem dX4_count_183 : decode cX4_count 183 = .ok (.ireturn, 1) := by decide +kernel
theorem dX4_count_184 : decode cX4_count 184 = .ok (.iconst (-1), 1) := by decide +kernel
theorem dX4_count_185 : decode cX4_count 185 = .ok (.ireturn, 1) := by decide +kernel
theorem dX4_begin_0 : decode cX4_begin 0 = .ok (.aload_n 0, 1) := by decide +kernel
theorem dX4_begin_1 : decode cX4_begin 1 = .ok (.getfield 9, 3) := by decide +kernel
theorem dX4_begin_4 : decode cX4_begin 4 = .ok (.iconst 0, 1) := by decide +kernel
theorem dX4_begin_5 : decode cX4_begin 5 = .ok (.iconst 0, 1) := by decide +kernel
theorem dX4_begin_6 : decode cX4_begin 6 = .ok (.iastore, 1) := by decide +kernel
theorem dX4_begin_7 : decode cX4_begin 7 = .ok (.aload_n 0, 1) := by decide +kernel
theorem dX4_begin_8 : decode cX4_begin 8 = .ok (.getfield 9, 3) := by decide +kernel
theorem dX4_begin_11 : decode cX4_begin 11 = .ok (.iconst 1, 1) := by decide +kernel
theorem dX4_begin_12 : decode cX4_begin 12 = .ok (.aload_n 0, 1) := by decide +kernel
theorem dX4_begin_13 : decode cX4_begin 13 = .ok (.getfield 42, 3) := by decide +kernel
theorem dX4_begin_16 : decode cX4_begin 16 = .ok (.getfield 227, 3) := by decide +kernel
theorem dX4_begin_19 : decode cX4_begin 19 = .ok (.iastore, 1) := by decide +kernel
theorem dX4_begin_20 : decode cX4_begin 20 = .ok (.aload_n 0, 1) := by decide +kernel
theorem dX4_begin_21 : decode cX4_begin 21 = .ok (.getfield 9, 3) := by decide +kernel
theorem dX4_begin_24 : decode cX4_begin 24 = .ok (.iconst 2, 1) := by decide +kernel
theorem dX4_begin_25 : decode cX4_begin 25 = .ok (.iconst 0, 1) := by decide +kernel
theorem dX4_begin_26 : decode cX4_begin 26 = .ok (.iastore, 1) := by decide +kernel
theorem dX4_begin_27 : decode cX4_begin 27 = .ok (.aload_n 0, 1) := by decide +kernel
theorem dX4_begin_28 : decode cX4_begin 28 = .ok (.getfield 9, 3) := by decide +kernel
theorem dX4_begin_31 : decode cX4_begin 31 = .ok (.iconst 3, 1) := by decide +kernel
theorem dX4_begin_32 : decode cX4_begin 32 = .ok (.iconst 0, 1) := by decide +kernel
theorem dX4_begin_33 : decode cX4_begin 33 = .ok (.iastore, 1) := by decide +kernel
theorem dX4_begin_34 : decode cX4_begin 34 = .ok (.aload_n 0, 1) := by decide +kernel
theorem dX4_begin_35 : decode cX4_begin 35 = .ok (.getfield 9, 3) := by decide +kernel
theorem dX4_begin_38 : decode cX4_begin 38 = .ok (.iconst 4, 1) := by decide +kernel
theorem dX4_begin_39 : decode cX4_begin 39 = .ok (.aload_n 0, 1) := by decide +kernel
theorem dX4_begin_40 : decode cX4_begin 40 = .ok (.getfield 42, 3) := by decide +kernel
theorem dX4_begin_43 : decode cX4_begin 43 = .ok (.getfield 230, 3) := by decide +kernel
theorem dX4_begin_46 : decode cX4_begin 46 = .ok (.iastore, 1) := by decide +kernel
theorem dX4_begin_47 : decode cX4_begin 47 = .ok (.aload_n 0, 1) := by decide +kernel
theorem dX4_begin_48 : decode cX4_begin 48 = .ok (.getfield 16, 3) := by decide +kernel
theorem dX4_begin_51 : decode cX4_begin 51 = .ok (.iconst 0, 1) := by decide +kernel
theorem dX4_begin_52 : decode cX4_begin 52 = .ok (.putfield 166, 3) := by decide +kernel
theorem dX4_begin_55 : decode cX4_begin 55 = .ok (.aload_n 0, 1) := by decide +kernel
theorem dX4_begin_56 : decode cX4_begin 56 = .ok (.getfield 20, 3) := by decide +kernel
theorem dX4_begin_59 : decode cX4_begin 59 = .ok (.iconst 0, 1) := by decide +kernel
theorem dX4_begin_60 : decode cX4_begin 60 = .ok (.putfield 166, 3) := by decide +kernel
theorem dX4_begin_63 : decode cX4_begin 63 = .ok (.aload_n 0, 1) := by decide +kernel
theorem dX4_begin_64 : decode cX4_begin 64 = .ok (.iconst 0, 1) := by decide +kernel
theorem dX4_begin_65 : decode cX4_begin 65 = .ok (.putfield 204, 3) := by decide +kernel
theorem dX4_begin_68 : decode cX4_begin 68 = .ok (.return_, 1) := by decide +kernel
theorem dX4_hasFallen_0 : decode cX4_hasFallen 0 = .ok (.aload_n 0, 1) := by decide +kernel
theorem dX4_hasFallen_1 : decode cX4_hasFallen 1 = .ok (.getfield 9, 3) := by decide +kernel
theorem dX4_hasFallen_4 : decode cX4_hasFallen 4 = .ok (.iconst 3, 1) := by decide +kernel
theorem dX4_hasFallen_5 : decode cX4_hasFallen 5 = .ok (.iaload, 1) := by decide +kernel
theorem dX4_hasFallen_6 : decode cX4_hasFallen 6 = .ok (.ifCond .ne 23, 3) := by decide +kernel
theorem dX4_hasFallen_9 : decode cX4_hasFallen 9 = .ok (.aload_n 0, 1) := by decide +kernel
theorem dX4_hasFallen_10 : decode cX4_hasFallen 10 = .ok (.getfield 9, 3) := by decide +kernel
theorem dX4_hasFallen_13 : decode cX4_hasFallen 13 = .ok (.iconst 0, 1) := by decide +kernel
theorem dX4_hasFallen_14 : decode cX4_hasFallen 14 = .ok (.iaload, 1) := by decide +kernel
theorem dX4_hasFallen_15 : decode cX4_hasFallen 15 = .ok (.aload_n 0, 1) := by decide +kernel
theorem dX4_hasFallen_16 : decode cX4_hasFallen 16 = .ok (.getfield 42, 3) := by decide +kernel
theorem dX4_hasFallen_19 : decode cX4_hasFallen 19 = .ok (.invokevirtual 157, 3) := by decide +kernel
theorem dX4_hasFallen_22 : decode cX4_hasFallen 22 = .ok (.if_icmp .lt 7, 3) := by decide +kernel
theorem dX4_hasFallen_25 : decode cX4_hasFallen 25 = .ok (.iconst 1, 1) := by decide +kernel
theorem dX4_hasFallen_26 : decode cX4_hasFallen 26 = .ok (.goto 4, 3) := by decide +kernel
theorem dX4_hasFallen_29 : decode cX4_hasFallen 29 = .ok (.iconst 0, 1) := by decide +kernel
theorem dX4_hasFallen_30 : decode cX4_hasFallen 30 = .ok (.ireturn, 1) := by decide +kernel
theorem dX4_isReader_0 : decode cX4_isReader 0 = .ok (.iload_n 1, 1) := by decide +kernel
theorem dX4_isReader_1 : decode cX4_isReader 1 = .ok (.ifCond .lt 18, 3) := by decide +kernel
theorem dX4_isReader_4 : decode cX4_isReader 4 = .ok (.iload_n 1, 1) := by decide +kernel
theorem dX4_isReader_5 : decode cX4_isReader 5 = .ok (.aload_n 0, 1) := by decide +kernel
theorem dX4_isReader_6 : decode cX4_isReader 6 = .ok (.getfield 42, 3) := by decide +kernel
theorem dX4_isReader_9 : decode cX4_isReader 9 = .ok (.getfield 90, 3) := by decide +kernel
theorem dX4_isReader_12 : decode cX4_isReader 12 = .ok (.if_icmp .ge 7, 3) := by decide +kernel
theorem dX4_isReader_15 : decode cX4_isReader 15 = .ok (.iconst 1, 1) := by decide +kernel
theorem dX4_isReader_16 : decode cX4_isReader 16 = .ok (.goto 4, 3) := by decide +kernel
theorem dX4_isReader_19 : decode cX4_isReader 19 = .ok (.iconst 0, 1) := by decide +kernel
theorem dX4_isReader_20 : decode cX4_isReader 20 = .ok (.ireturn, 1) := by decide +kernel
theorem dX4_isPart_0 : decode cX4_isPart 0 = .ok (.iload_n 0, 1) := by decide +kernel
theorem dX4_isPart_1 : decode cX4_isPart 1 = .ok (.ifCond .eq 8, 3) := by decide +kernel
theorem dX4_isPart_4 : decode cX4_isPart 4 = .ok (.iload_n 0, 1) := by decide +kernel
theorem dX4_isPart_5 : decode cX4_isPart 5 = .ok (.iconst 1, 1) := by decide +kernel
theorem dX4_isPart_6 : decode cX4_isPart 6 = .ok (.if_icmp .ne 7, 3) := by decide +kernel
theorem dX4_isPart_9 : decode cX4_isPart 9 = .ok (.iconst 1, 1) := by decide +kernel
theorem dX4_isPart_10 : decode cX4_isPart 10 = .ok (.goto 4, 3) := by decide +kernel
theorem dX4_isPart_13 : decode cX4_isPart 13 = .ok (.iconst 0, 1) := by decide +kernel
theorem dX4_isPart_14 : decode cX4_isPart 14 = .ok (.ireturn, 1) := by decide +kernel
theorem dX4_isReading_0 : decode cX4_isReading 0 = .ok (.iload_n 2, 1) := by decide +kernel
theorem dX4_isReading_1 : decode cX4_isReading 1 = .ok (.ifCond .lt 22, 3) := by decide +kernel
theorem dX4_isReading_4 : decode cX4_isReading 4 = .ok (.iload_n 2, 1) := by decide +kernel
theorem dX4_isReading_5 : decode cX4_isReading 5 = .ok (.aload_n 0, 1) := by decide +kernel
theorem dX4_isReading_6 : decode cX4_isReading 6 = .ok (.iload_n 1, 1) := by decide +kernel
theorem dX4_isReading_7 : decode cX4_isReading 7 = .ok (.aload_n 0, 1) := by decide +kernel
theorem dX4_isReading_8 : decode cX4_isReading 8 = .ok (.getfield 9, 3) := by decide +kernel
theorem dX4_isReading_11 : decode cX4_isReading 11 = .ok (.iconst 4, 1) := by decide +kernel
theorem dX4_isReading_12 : decode cX4_isReading 12 = .ok (.iaload, 1) := by decide +kernel
theorem dX4_isReading_13 : decode cX4_isReading 13 = .ok (.invokevirtual 106, 3) := by decide +kernel
theorem dX4_isReading_16 : decode cX4_isReading 16 = .ok (.if_icmp .ge 7, 3) := by decide +kernel
theorem dX4_isReading_19 : decode cX4_isReading 19 = .ok (.iconst 1, 1) := by decide +kernel
theorem dX4_isReading_20 : decode cX4_isReading 20 = .ok (.goto 4, 3) := by decide +kernel
theorem dX4_isReading_23 : decode cX4_isReading 23 = .ok (.iconst 0, 1) := by decide +kernel
theorem dX4_isReading_24 : decode cX4_isReading 24 = .ok (.ireturn, 1) := by decide +kernel
theorem dX4_readingsOf_0 : decode cX4_readingsOf 0 = .ok (.aload_n 0, 1) := by decide +kernel
theorem dX4_readingsOf_1 : decode cX4_readingsOf 1 = .ok (.getfield 54, 3) := by decide +kernel
theorem dX4_readingsOf_4 : decode cX4_readingsOf 4 = .ok (.aload_n 0, 1) := by decide +kernel
theorem dX4_readingsOf_5 : decode cX4_readingsOf 5 = .ok (.getfield 42, 3) := by decide +kernel
theorem dX4_readingsOf_8 : decode cX4_readingsOf 8 = .ok (.getfield 110, 3) := by decide +kernel
theorem dX4_readingsOf_11 : decode cX4_readingsOf 11 = .ok (.iload_n 1, 1) := by decide +kernel
theorem dX4_readingsOf_12 : decode cX4_readingsOf 12 = .ok (.iaload, 1) := by decide +kernel
theorem dX4_readingsOf_13 : decode cX4_readingsOf 13 = .ok (.iload_n 2, 1) := by decide +kernel
theorem dX4_readingsOf_14 : decode cX4_readingsOf 14 = .ok (.invokevirtual 210, 3) := by decide +kernel
theorem dX4_readingsOf_17 : decode cX4_readingsOf 17 = .ok (.aload_n 0, 1) := by decide +kernel
theorem dX4_readingsOf_18 : decode cX4_readingsOf 18 = .ok (.getfield 54, 3) := by decide +kernel
theorem dX4_readingsOf_21 : decode cX4_readingsOf 21 = .ok (.ldc 175, 2) := by decide +kernel
theorem dX4_readingsOf_23 : decode cX4_readingsOf 23 = .ok (.invokevirtual 179, 3) := by decide +kernel
theorem dX4_readingsOf_26 : decode cX4_readingsOf 26 = .ok (.ireturn, 1) := by decide +kernel
theorem dX4_toldBy_0 : decode cX4_toldBy 0 = .ok (.aload_n 0, 1) := by decide +kernel
theorem dX4_toldBy_1 : decode cX4_toldBy 1 = .ok (.iload_n 1, 1) := by decide +kernel
theorem dX4_toldBy_2 : decode cX4_toldBy 2 = .ok (.iload_n 2, 1) := by decide +kernel
theorem dX4_toldBy_3 : decode cX4_toldBy 3 = .ok (.invokevirtual 106, 3) := by decide +kernel
theorem dX4_toldBy_6 : decode cX4_toldBy 6 = .ok (.ifCond .ne 6, 3) := by decide +kernel
theorem dX4_toldBy_9 : decode cX4_toldBy 9 = .ok (.bipush (-4), 2) := by decide +kernel
theorem dX4_toldBy_11 : decode cX4_toldBy 11 = .ok (.ireturn, 1) := by decide +kernel
theorem dX4_toldBy_12 : decode cX4_toldBy 12 = .ok (.aload_n 0, 1) := by decide +kernel
theorem dX4_toldBy_13 : decode cX4_toldBy 13 = .ok (.getfield 54, 3) := by decide +kernel
theorem dX4_toldBy_16 : decode cX4_toldBy 16 = .ok (.invokevirtual 233, 3) := by decide +kernel
theorem dX4_toldBy_19 : decode cX4_toldBy 19 = .ok (.istore_n 3, 1) := by decide +kernel
theorem dX4_toldBy_20 : decode cX4_toldBy 20 = .ok (.aload_n 0, 1) := by decide +kernel
theorem dX4_toldBy_21 : decode cX4_toldBy 21 = .ok (.getfield 54, 3) := by decide +kernel
theorem dX4_toldBy_24 : decode cX4_toldBy 24 = .ok (.iload_n 3, 1) := by decide +kernel
theorem dX4_toldBy_25 : decode cX4_toldBy 25 = .ok (.invokevirtual 123, 3) := by decide +kernel
theorem dX4_toldBy_28 : decode cX4_toldBy 28 = .ok (.iload_n 3, 1) := by decide +kernel
theorem dX4_toldBy_29 : decode cX4_toldBy 29 = .ok (.ireturn, 1) := by decide +kernel
theorem dX4_verbsToldBy_0 : decode cX4_verbsToldBy 0 = .ok (.aload_n 0, 1) := by decide +kernel
theorem dX4_verbsToldBy_1 : decode cX4_verbsToldBy 1 = .ok (.iload_n 1, 1) := by decide +kernel
theorem dX4_verbsToldBy_2 : decode cX4_verbsToldBy 2 = .ok (.aload_n 0, 1) := by decide +kernel
theorem dX4_verbsToldBy_3 : decode cX4_verbsToldBy 3 = .ok (.getfield 9, 3) := by decide +kernel
theorem dX4_verbsToldBy_6 : decode cX4_verbsToldBy 6 = .ok (.iconst 4, 1) := by decide +kernel
theorem dX4_verbsToldBy_7 : decode cX4_verbsToldBy 7 = .ok (.iaload, 1) := by decide +kernel
theorem dX4_verbsToldBy_8 : decode cX4_verbsToldBy 8 = .ok (.invokevirtual 139, 3) := by decide +kernel
theorem dX4_verbsToldBy_11 : decode cX4_verbsToldBy 11 = .ok (.bipush (-4), 2) := by decide +kernel
theorem dX4_verbsToldBy_13 : decode cX4_verbsToldBy 13 = .ok (.if_icmp .ne 7, 3) := by decide +kernel
theorem dX4_verbsToldBy_16 : decode cX4_verbsToldBy 16 = .ok (.iconst 0, 1) := by decide +kernel
theorem dX4_verbsToldBy_17 : decode cX4_verbsToldBy 17 = .ok (.goto 10, 3) := by decide +kernel
theorem dX4_verbsToldBy_20 : decode cX4_verbsToldBy 20 = .ok (.aload_n 0, 1) := by decide +kernel
theorem dX4_verbsToldBy_21 : decode cX4_verbsToldBy 21 = .ok (.getfield 54, 3) := by decide +kernel
theorem dX4_verbsToldBy_24 : decode cX4_verbsToldBy 24 = .ok (.getfield 133, 3) := by decide +kernel
theorem dX4_verbsToldBy_27 : decode cX4_verbsToldBy 27 = .ok (.ireturn, 1) := by decide +kernel
theorem dX4_isEnough_0 : decode cX4_isEnough 0 = .ok (.aload_n 0, 1) := by decide +kernel
theorem dX4_isEnough_1 : decode cX4_isEnough 1 = .ok (.getfield 9, 3) := by decide +kernel
theorem dX4_isEnough_4 : decode cX4_isEnough 4 = .ok (.iconst 2, 1) := by decide +kernel
theorem dX4_isEnough_5 : decode cX4_isEnough 5 = .ok (.iaload, 1) := by decide +kernel
theorem dX4_isEnough_6 : decode cX4_isEnough 6 = .ok (.istore_n 3, 1) := by decide +kernel
theorem dX4_isEnough_7 : decode cX4_isEnough 7 = .ok (.iconst 0, 1) := by decide +kernel
theorem dX4_isEnough_8 : decode cX4_isEnough 8 = .ok (.istore 4, 2) := by decide +kernel
theorem dX4_isEnough_10 : decode cX4_isEnough 10 = .ok (.iload 4, 2) := by decide +kernel
theorem dX4_isEnough_12 : decode cX4_isEnough 12 = .ok (.aload_n 0, 1) := by decide +kernel
theorem dX4_isEnough_13 : decode cX4_isEnough 13 = .ok (.getfield 42, 3) := by decide +kernel
theorem dX4_isEnough_16 : decode cX4_isEnough 16 = .ok (.getfield 90, 3) := by decide +kernel
theorem dX4_isEnough_19 : decode cX4_isEnough 19 = .ok (.if_icmp .ge 32, 3) := by decide +kernel
theorem dX4_isEnough_22 : decode cX4_isEnough 22 = .ok (.iload_n 3, 1) := by decide +kernel
theorem dX4_isEnough_23 : decode cX4_isEnough 23 = .ok (.iload_n 1, 1) := by decide +kernel
theorem dX4_isEnough_24 : decode cX4_isEnough 24 = .ok (.iload 4, 2) := by decide +kernel
theorem dX4_isEnough_26 : decode cX4_isEnough 26 = .ok (.invokestatic 150, 3) := by decide +kernel
theorem dX4_isEnough_29 : decode cX4_isEnough 29 = .ok (.ifCond .eq 13, 3) := by decide +kernel
theorem dX4_isEnough_32 : decode cX4_isEnough 32 = .ok (.aload_n 0, 1) := by decide +kernel
theorem dX4_isEnough_33 : decode cX4_isEnough 33 = .ok (.getfield 29, 3) := by decide +kernel
theorem dX4_isEnough_36 : decode cX4_isEnough 36 = .ok (.iload 4, 2) := by decide +kernel
theorem dX4_isEnough_38 : decode cX4_isEnough 38 = .ok (.iaload, 1) := by decide +kernel
theorem dX4_isEnough_39 : decode cX4_isEnough 39 = .ok (.goto 4, 3) := by decide +kernel
theorem dX4_isEnough_42 : decode cX4_isEnough 42 = .ok (.iconst 0, 1) := by decide +kernel
theorem dX4_isEnough_43 : decode cX4_isEnough 43 = .ok (.ior, 1) := by decide +kernel
theorem dX4_isEnough_44 : decode cX4_isEnough 44 = .ok (.istore_n 3, 1) := by decide +kernel
theorem dX4_isEnough_45 : decode cX4_isEnough 45 = .ok (.iinc 4 1, 3) := by decide +kernel
theorem dX4_isEnough_48 : decode cX4_isEnough 48 = .ok (.goto (-38), 3) := by decide +kernel
theorem dX4_isEnough_51 : decode cX4_isEnough 51 = .ok (.aload_n 0, 1) := by decide +kernel
theorem dX4_isEnough_52 : decode cX4_isEnough 52 = .ok (.getfield 9, 3) := by decide +kernel
theorem dX4_isEnough_55 : decode cX4_isEnough 55 = .ok (.iconst 0, 1) := by decide +kernel
theorem dX4_isEnough_56 : decode cX4_isEnough 56 = .ok (.iaload, 1) := by decide +kernel
theorem dX4_isEnough_57 : decode cX4_isEnough 57 = .ok (.aload_n 0, 1) := by decide +kernel
theorem dX4_isEnough_58 : decode cX4_isEnough 58 = .ok (.getfield 42, 3) := by decide +kernel
theorem dX4_isEnough_61 : decode cX4_isEnough 61 = .ok (.iload_n 1, 1) := by decide +kernel
theorem dX4_isEnough_62 : decode cX4_isEnough 62 = .ok (.invokevirtual 201, 3) := by decide +kernel
theorem dX4_isEnough_65 : decode cX4_isEnough 65 = .ok (.iadd, 1) := by decide +kernel
theorem dX4_isEnough_66 : decode cX4_isEnough 66 = .ok (.aload_n 0, 1) := by decide +kernel
theorem dX4_isEnough_67 : decode cX4_isEnough 67 = .ok (.getfield 42, 3) := by decide +kernel
theorem dX4_isEnough_70 : decode cX4_isEnough 70 = .ok (.invokevirtual 157, 3) := by decide +kernel
theorem dX4_isEnough_73 : decode cX4_isEnough 73 = .ok (.if_icmp .ge 7, 3) := by decide +kernel
theorem dX4_isEnough_76 : decode cX4_isEnough 76 = .ok (.iconst 1, 1) := by decide +kernel
theorem dX4_isEnough_77 : decode cX4_isEnough 77 = .ok (.goto 4, 3) := by decide +kernel
theorem dX4_isEnough_80 : decode cX4_isEnough 80 = .ok (.iconst 0, 1) := by decide +kernel
theorem dX4_isEnough_81 : decode cX4_isEnough 81 = .ok (.istore 4, 2) := by decide +kernel
theorem dX4_isEnough_83 : decode cX4_isEnough 83 = .ok (.iload_n 3, 1) := by decide +kernel
theorem dX4_isEnough_84 : decode cX4_isEnough 84 = .ok (.iload_n 2, 1) := by decide +kernel
theorem dX4_isEnough_85 : decode cX4_isEnough 85 = .ok (.iand, 1) := by decide +kernel
theorem dX4_isEnough_86 : decode cX4_isEnough 86 = .ok (.iload_n 2, 1) := by decide +kernel
theorem dX4_isEnough_87 : decode cX4_isEnough 87 = .ok (.if_icmp .ne 29, 3) := by decide +kernel
theorem dX4_isEnough_90 : decode cX4_isEnough 90 = .ok (.iload 4, 2) := by decide +kernel
theorem dX4_isEnough_92 : decode cX4_isEnough 92 = .ok (.ifCond .eq 24, 3) := by decide +kernel
theorem dX4_isEnough_95 : decode cX4_isEnough 95 = .ok (.aload_n 0, 1) := by decide +kernel
theorem dX4_isEnough_96 : decode cX4_isEnough 96 = .ok (.getfield 42, 3) := by decide +kernel
theorem dX4_isEnough_99 : decode cX4_isEnough 99 = .ok (.iload_n 1, 1) := by decide +kernel
theorem dX4_isEnough_100 : decode cX4_isEnough 100 = .ok (.invokevirtual 198, 3) := by decide +kernel
theorem dX4_isEnough_103 : decode cX4_isEnough 103 = .ok (.aload_n 0, 1) := by decide +kernel
theorem dX4_isEnough_104 : decode cX4_isEnough 104 = .ok (.getfield 9, 3) := by decide +kernel
theorem dX4_isEnough_107 : decode cX4_isEnough 107 = .ok (.iconst 1, 1) := by decide +kernel
theorem dX4_isEnough_108 : decode cX4_isEnough 108 = .ok (.iaload, 1) := by decide +kernel
theorem dX4_isEnough_109 : decode cX4_isEnough 109 = .ok (.if_icmp .gt 7, 3) := by decide +kernel
theorem dX4_isEnough_112 : decode cX4_isEnough 112 = .ok (.iconst 1, 1) := by decide +kernel
theorem dX4_isEnough_113 : decode cX4_isEnough 113 = .ok (.goto 4, 3) := by decide +kernel
theorem dX4_isEnough_116 : decode cX4_isEnough 116 = .ok (.iconst 0, 1) := by decide +kernel
theorem dX4_isEnough_117 : decode cX4_isEnough 117 = .ok (.ireturn, 1) := by decide +kernel
theorem dX4_isCheaper_0 : decode cX4_isCheaper 0 = .ok (.aload_n 0, 1) := by decide +kernel
theorem dX4_isCheaper_1 : decode cX4_isCheaper 1 = .ok (.getfield 42, 3) := by decide +kernel
theorem dX4_isCheaper_4 : decode cX4_isCheaper 4 = .ok (.iload_n 2, 1) := by decide +kernel
theorem dX4_isCheaper_5 : decode cX4_isCheaper 5 = .ok (.invokevirtual 198, 3) := by decide +kernel
theorem dX4_isCheaper_8 : decode cX4_isCheaper 8 = .ok (.aload_n 0, 1) := by decide +kernel
theorem dX4_isCheaper_9 : decode cX4_isCheaper 9 = .ok (.getfield 42, 3) := by decide +kernel
theorem dX4_isCheaper_12 : decode cX4_isCheaper 12 = .ok (.iload_n 1, 1) := by decide +kernel
theorem dX4_isCheaper_13 : decode cX4_isCheaper 13 = .ok (.invokevirtual 198, 3) := by decide +kernel
theorem dX4_isCheaper_16 : decode cX4_isCheaper 16 = .ok (.isub, 1) := by decide +kernel
theorem dX4_isCheaper_17 : decode cX4_isCheaper 17 = .ok (.istore_n 3, 1) := by decide +kernel
theorem dX4_isCheaper_18 : decode cX4_isCheaper 18 = .ok (.iload_n 3, 1) := by decide +kernel
theorem dX4_isCheaper_19 : decode cX4_isCheaper 19 = .ok (.ifCond .gt 26, 3) := by decide +kernel
theorem dX4_isCheaper_22 : decode cX4_isCheaper 22 = .ok (.iload_n 3, 1) := by decide +kernel
theorem dX4_isCheaper_23 : decode cX4_isCheaper 23 = .ok (.ifCond .ne 26, 3) := by decide +kernel
theorem dX4_isCheaper_26 : decode cX4_isCheaper 26 = .ok (.aload_n 0, 1) := by decide +kernel
theorem dX4_isCheaper_27 : decode cX4_isCheaper 27 = .ok (.getfield 42, 3) := by decide +kernel
theorem dX4_isCheaper_30 : decode cX4_isCheaper 30 = .ok (.iload_n 1, 1) := by decide +kernel
theorem dX4_isCheaper_31 : decode cX4_isCheaper 31 = .ok (.invokevirtual 201, 3) := by decide +kernel
theorem dX4_isCheaper_34 : decode cX4_isCheaper 34 = .ok (.aload_n 0, 1) := by decide +kernel
theorem dX4_isCheaper_35 : decode cX4_isCheaper 35 = .ok (.getfield 42, 3) := by decide +kernel
theorem dX4_isCheaper_38 : decode cX4_isCheaper 38 = .ok (.iload_n 2, 1) := by decide +kernel
theorem dX4_isCheaper_39 : decode cX4_isCheaper 39 = .ok (.invokevirtual 201, 3) := by decide +kernel
theorem dX4_isCheaper_42 : decode cX4_isCheaper 42 = .ok (.if_icmp .ge 7, 3) := by decide +kernel
theorem dX4_isCheaper_45 : decode cX4_isCheaper 45 = .ok (.iconst 1, 1) := by decide +kernel
theorem dX4_isCheaper_46 : decode cX4_isCheaper 46 = .ok (.goto 4, 3) := by decide +kernel
theorem dX4_isCheaper_49 : decode cX4_isCheaper 49 = .ok (.iconst 0, 1) := by decide +kernel
theorem dX4_isCheaper_50 : decode cX4_isCheaper 50 = .ok (.ireturn, 1) := by decide +kernel
theorem dX4_isAsSeen_0 : decode cX4_isAsSeen 0 = .ok (.iconst 0, 1) := by decide +kernel
theorem dX4_isAsSeen_1 : decode cX4_isAsSeen 1 = .ok (.istore_n 2, 1) := by decide +kernel
theorem dX4_isAsSeen_2 : decode cX4_isAsSeen 2 = .ok (.iload_n 2, 1) := by decide +kernel
theorem dX4_isAsSeen_3 : decode cX4_isAsSeen 3 = .ok (.aload_n 0, 1) := by decide +kernel
theorem dX4_isAsSeen_4 : decode cX4_isAsSeen 4 = .ok (.getfield 204, 3) := by decide +kernel
theorem dX4_isAsSeen_7 : decode cX4_isAsSeen 7 = .ok (.if_icmp .ge 43, 3) := by decide +kernel
theorem dX4_isAsSeen_10 : decode cX4_isAsSeen 10 = .ok (.aload_n 0, 1) := by decide +kernel
theorem dX4_isAsSeen_11 : decode cX4_isAsSeen 11 = .ok (.aload_n 0, 1) := by decide +kernel
theorem dX4_isAsSeen_12 : decode cX4_isAsSeen 12 = .ok (.getfield 23, 3) := by decide +kernel
theorem dX4_isAsSeen_15 : decode cX4_isAsSeen 15 = .ok (.iload_n 2, 1) := by decide +kernel
theorem dX4_isAsSeen_16 : decode cX4_isAsSeen 16 = .ok (.iaload, 1) := by decide +kernel
theorem dX4_isAsSeen_17 : decode cX4_isAsSeen 17 = .ok (.iload_n 1, 1) := by decide +kernel
theorem dX4_isAsSeen_18 : decode cX4_isAsSeen 18 = .ok (.invokevirtual 139, 3) := by decide +kernel
theorem dX4_isAsSeen_21 : decode cX4_isAsSeen 21 = .ok (.bipush (-4), 2) := by decide +kernel
theorem dX4_isAsSeen_23 : decode cX4_isAsSeen 23 = .ok (.if_icmp .eq 19, 3) := by decide +kernel
theorem dX4_isAsSeen_26 : decode cX4_isAsSeen 26 = .ok (.aload_n 0, 1) := by decide +kernel
theorem dX4_isAsSeen_27 : decode cX4_isAsSeen 27 = .ok (.getfield 54, 3) := by decide +kernel
theorem dX4_isAsSeen_30 : decode cX4_isAsSeen 30 = .ok (.getfield 130, 3) := by decide +kernel
theorem dX4_isAsSeen_33 : decode cX4_isAsSeen 33 = .ok (.aload_n 0, 1) := by decide +kernel
theorem dX4_isAsSeen_34 : decode cX4_isAsSeen 34 = .ok (.getfield 26, 3) := by decide +kernel
theorem dX4_isAsSeen_37 : decode cX4_isAsSeen 37 = .ok (.iload_n 2, 1) := by decide +kernel
theorem dX4_isAsSeen_38 : decode cX4_isAsSeen 38 = .ok (.iaload, 1) := by decide +kernel
theorem dX4_isAsSeen_39 : decode cX4_isAsSeen 39 = .ok (.if_icmp .eq 5, 3) := by decide +kernel
theorem dX4_isAsSeen_42 : decode cX4_isAsSeen 42 = .ok (.iconst 0, 1) := by decide +kernel
theorem dX4_isAsSeen_43 : decode cX4_isAsSeen 43 = .ok (.ireturn, 1) := by decide +kernel
theorem dX4_isAsSeen_44 : decode cX4_isAsSeen 44 = .ok (.iinc 2 1, 3) := by decide +kernel
theorem dX4_isAsSeen_47 : decode cX4_isAsSeen 47 = .ok (.goto (-45), 3) := by decide +kernel
theorem dX4_isAsSeen_50 : decode cX4_isAsSeen 50 = .ok (.iconst 1, 1) := by decide +kernel
theorem dX4_isAsSeen_51 : decode cX4_isAsSeen 51 = .ok (.ireturn, 1) := by decide +kernel
theorem dX4_lettersIn_0 : decode cX4_lettersIn 0 = .ok (.iconst 0, 1) := by decide +kernel
theorem dX4_lettersIn_1 : decode cX4_lettersIn 1 = .ok (.istore_n 1, 1) := by decide +kernel
theorem dX4_lettersIn_2 : decode cX4_lettersIn 2 = .ok (.iload_n 0, 1) := by decide +kernel
theorem dX4_lettersIn_3 : decode cX4_lettersIn 3 = .ok (.istore_n 2, 1) := by decide +kernel
theorem dX4_lettersIn_4 : decode cX4_lettersIn 4 = .ok (.iconst 0, 1) := by decide +kernel
theorem dX4_lettersIn_5 : decode cX4_lettersIn 5 = .ok (.istore_n 3, 1) := by decide +kernel
theorem dX4_lettersIn_6 : decode cX4_lettersIn 6 = .ok (.iload_n 3, 1) := by decide +kernel
theorem dX4_lettersIn_7 : decode cX4_lettersIn 7 = .ok (.bipush 9, 2) := by decide +kernel
theorem dX4_lettersIn_9 : decode cX4_lettersIn 9 = .ok (.if_icmp .ge 21, 3) := by decide +kernel
theorem dX4_lettersIn_12 : decode cX4_lettersIn 12 = .ok (.iload_n 2, 1) := by decide +kernel
theorem dX4_lettersIn_13 : decode cX4_lettersIn 13 = .ok (.ifCond .le 17, 3) := by decide +kernel
theorem dX4_lettersIn_16 : decode cX4_lettersIn 16 = .ok (.iload_n 2, 1) := by decide +kernel
theorem dX4_lettersIn_17 : decode cX4_lettersIn 17 = .ok (.bipush 6, 2) := by decide +kernel
theorem dX4_lettersIn_19 : decode cX4_lettersIn 19 = .ok (.idiv, 1) := by decide +kernel
theorem dX4_lettersIn_20 : decode cX4_lettersIn 20 = .ok (.istore_n 2, 1) := by decide +kernel
theorem dX4_lettersIn_21 : decode cX4_lettersIn 21 = .ok (.iinc 1 1, 3) := by decide +kernel
theorem dX4_lettersIn_24 : decode cX4_lettersIn 24 = .ok (.iinc 3 1, 3) := by decide +kernel
theorem dX4_lettersIn_27 : decode cX4_lettersIn 27 = .ok (.goto (-21), 3) := by decide +kernel
theorem dX4_lettersIn_30 : decode cX4_lettersIn 30 = .ok (.iload_n 1, 1) := by decide +kernel
theorem dX4_lettersIn_31 : decode cX4_lettersIn 31 = .ok (.ireturn, 1) := by decide +kernel
theorem dX4_isShortRow_0 : decode cX4_isShortRow 0 = .ok (.iload_n 0, 1) := by decide +kernel
theorem dX4_isShortRow_1 : decode cX4_isShortRow 1 = .ok (.istore_n 1, 1) := by decide +kernel
theorem dX4_isShortRow_2 : decode cX4_isShortRow 2 = .ok (.iconst 0, 1) := by decide +kernel
theorem dX4_isShortRow_3 : decode cX4_isShortRow 3 = .ok (.istore_n 2, 1) := by decide +kernel
theorem dX4_isShortRow_4 : decode cX4_isShortRow 4 = .ok (.iload_n 2, 1) := by decide +kernel
theorem dX4_isShortRow_5 : decode cX4_isShortRow 5 = .ok (.iconst 4, 1) := by decide +kernel
theorem dX4_isShortRow_6 : decode cX4_isShortRow 6 = .ok (.if_icmp .ge 27, 3) := by decide +kernel
theorem dX4_isShortRow_9 : decode cX4_isShortRow 9 = .ok (.iload_n 1, 1) := by decide +kernel
theorem dX4_isShortRow_10 : decode cX4_isShortRow 10 = .ok (.ifCond .le 23, 3) := by decide +kernel
theorem dX4_isShortRow_13 : decode cX4_isShortRow 13 = .ok (.iload_n 1, 1) := by decide +kernel
theorem dX4_isShortRow_14 : decode cX4_isShortRow 14 = .ok (.bipush 6, 2) := by decide +kernel
theorem dX4_isShortRow_16 : decode cX4_isShortRow 16 = .ok (.irem, 1) := by decide +kernel
theorem dX4_isShortRow_17 : decode cX4_isShortRow 17 = .ok (.ifCond .ne 5, 3) := by decide +kernel
theorem dX4_isShortRow_20 : decode cX4_isShortRow 20 = .ok (.iconst 0, 1) := by decide +kernel
theorem dX4_isShortRow_21 : decode cX4_isShortRow 21 = .ok (.ireturn, 1) := by decide +kernel
theorem dX4_isShortRow_22 : decode cX4_isShortRow 22 = .ok (.iload_n 1, 1) := by decide +kernel
theorem dX4_isShortRow_23 : decode cX4_isShortRow 23 = .ok (.bipush 6, 2) := by decide +kernel
theorem dX4_isShortRow_25 : decode cX4_isShortRow 25 = .ok (.idiv, 1) := by decide +kernel
theorem dX4_isShortRow_26 : decode cX4_isShortRow 26 = .ok (.istore_n 1, 1) := by decide +kernel
theorem dX4_isShortRow_27 : decode cX4_isShortRow 27 = .ok (.iinc 2 1, 3) := by decide +kernel
theorem dX4_isShortRow_30 : decode cX4_isShortRow 30 = .ok (.goto (-26), 3) := by decide +kernel
theorem dX4_isShortRow_33 : decode cX4_isShortRow 33 = .ok (.iload_n 1, 1) := by decide +kernel
theorem dX4_isShortRow_34 : decode cX4_isShortRow 34 = .ok (.ifCond .ne 7, 3) := by decide +kernel
theorem dX4_isShortRow_37 : decode cX4_isShortRow 37 = .ok (.iconst 1, 1) := by decide +kernel
theorem dX4_isShortRow_38 : decode cX4_isShortRow 38 = .ok (.goto 4, 3) := by decide +kernel
theorem dX4_isShortRow_41 : decode cX4_isShortRow 41 = .ok (.iconst 0, 1) := by decide +kernel
theorem dX4_isShortRow_42 : decode cX4_isShortRow 42 = .ok (.ireturn, 1) := by decide +kernel
theorem dX4_rowOfWall_0 : decode cX4_rowOfWall 0 = .ok (.ldc2_w 236, 3) := by decide +kernel
theorem dX4_rowOfWall_3 : decode cX4_rowOfWall 3 = .ok (.iload_n 0, 1) := by decide +kernel
theorem dX4_rowOfWall_4 : decode cX4_rowOfWall 4 = .ok (.i2l, 1) := by decide +kernel
theorem dX4_rowOfWall_5 : decode cX4_rowOfWall 5 = .ok (.lmul, 1) := by decide +kernel
theorem dX4_rowOfWall_6 : decode cX4_rowOfWall 6 = .ok (.ldc2_w 238, 3) := by decide +kernel
theorem dX4_rowOfWall_9 : decode cX4_rowOfWall 9 = .ok (.iload_n 1, 1) := by decide +kernel
theorem dX4_rowOfWall_10 : decode cX4_rowOfWall 10 = .ok (.i2l, 1) := by decide +kernel
theorem dX4_rowOfWall_11 : decode cX4_rowOfWall 11 = .ok (.lmul, 1) := by decide +kernel
theorem dX4_rowOfWall_12 : decode cX4_rowOfWall 12 = .ok (.ladd, 1) := by decide +kernel
theorem dX4_rowOfWall_13 : decode cX4_rowOfWall 13 = .ok (.lconst 1, 1) := by decide +kernel
theorem dX4_rowOfWall_14 : decode cX4_rowOfWall 14 = .ok (.ladd, 1) := by decide +kernel
theorem dX4_rowOfWall_15 : decode cX4_rowOfWall 15 = .ok (.lstore_n 2, 1) := by decide +kernel
theorem dX4_rowOfWall_16 : decode cX4_rowOfWall 16 = .ok (.lload_n 2, 1) := by decide +kernel
theorem dX4_rowOfWall_17 : decode cX4_rowOfWall 17 = .ok (.lload_n 2, 1) := by decide +kernel
theorem dX4_rowOfWall_18 : decode cX4_rowOfWall 18 = .ok (.lmul, 1) := by decide +kernel
theorem dX4_rowOfWall_19 : decode cX4_rowOfWall 19 = .ok (.ldc2_w 240, 3) := by decide +kernel
theorem dX4_rowOfWall_22 : decode cX4_rowOfWall 22 = .ok (.lrem, 1) := by decide +kernel
theorem dX4_rowOfWall_23 : decode cX4_rowOfWall 23 = .ok (.l2i, 1) := by decide +kernel
theorem dX4_rowOfWall_24 : decode cX4_rowOfWall 24 = .ok (.istore 4, 2) := by decide +kernel
theorem dX4_rowOfWall_26 : decode cX4_rowOfWall 26 = .ok (.iconst 1, 1) := by decide +kernel
theorem dX4_rowOfWall_27 : decode cX4_rowOfWall 27 = .ok (.iload 4, 2) := by decide +kernel
theorem dX4_rowOfWall_29 : decode cX4_rowOfWall 29 = .ok (.iconst 4, 1) := by decide +kernel
theorem dX4_rowOfWall_30 : decode cX4_rowOfWall 30 = .ok (.irem, 1) := by decide +kernel
theorem dX4_rowOfWall_31 : decode cX4_rowOfWall 31 = .ok (.iadd, 1) := by decide +kernel
theorem dX4_rowOfWall_32 : decode cX4_rowOfWall 32 = .ok (.istore 5, 2) := by decide +kernel
theorem dX4_rowOfWall_34 : decode cX4_rowOfWall 34 = .ok (.iload 4, 2) := by decide +kernel
theorem dX4_rowOfWall_36 : decode cX4_rowOfWall 36 = .ok (.iconst 4, 1) := by decide +kernel
theorem dX4_rowOfWall_37 : decode cX4_rowOfWall 37 = .ok (.idiv, 1) := by decide +kernel
theorem dX4_rowOfWall_38 : decode cX4_rowOfWall 38 = .ok (.istore 6, 2) := by decide +kernel
theorem dX4_rowOfWall_40 : decode cX4_rowOfWall 40 = .ok (.iconst 0, 1) := by decide +kernel
theorem dX4_rowOfWall_41 : decode cX4_rowOfWall 41 = .ok (.istore 7, 2) := by decide +kernel
theorem dX4_rowOfWall_43 : decode cX4_rowOfWall 43 = .ok (.iconst 0, 1) := by decide +kernel
theorem dX4_rowOfWall_44 : decode cX4_rowOfWall 44 = .ok (.istore 8, 2) := by decide +kernel
theorem dX4_rowOfWall_46 : decode cX4_rowOfWall 46 = .ok (.iload 8, 2) := by decide +kernel
theorem dX4_rowOfWall_48 : decode cX4_rowOfWall 48 = .ok (.iload 5, 2) := by decide +kernel
theorem dX4_rowOfWall_50 : decode cX4_rowOfWall 50 = .ok (.if_icmp .ge 29, 3) := by decide +kernel
theorem dX4_rowOfWall_53 : decode cX4_rowOfWall 53 = .ok (.iload 7, 2) := by decide +kernel
theorem dX4_rowOfWall_55 : decode cX4_rowOfWall 55 = .ok (.bipush 6, 2) := by decide +kernel
theorem dX4_rowOfWall_57 : decode cX4_rowOfWall 57 = .ok (.imul, 1) := by decide +kernel
theorem dX4_rowOfWall_58 : decode cX4_rowOfWall 58 = .ok (.iload 6, 2) := by decide +kernel
theorem dX4_rowOfWall_60 : decode cX4_rowOfWall 60 = .ok (.iconst 5, 1) := by decide +kernel
theorem dX4_rowOfWall_61 : decode cX4_rowOfWall 61 = .ok (.irem, 1) := by decide +kernel
theorem dX4_rowOfWall_62 : decode cX4_rowOfWall 62 = .ok (.iadd, 1) := by decide +kernel
theorem dX4_rowOfWall_63 : decode cX4_rowOfWall 63 = .ok (.iconst 1, 1) := by decide +kernel
theorem dX4_rowOfWall_64 : decode cX4_rowOfWall 64 = .ok (.iadd, 1) := by decide +kernel
theorem dX4_rowOfWall_65 : decode cX4_rowOfWall 65 = .ok (.istore 7, 2) := by decide +kernel
theorem dX4_rowOfWall_67 : decode cX4_rowOfWall 67 = .ok (.iload 6, 2) := by decide +kernel
theorem dX4_rowOfWall_69 : decode cX4_rowOfWall 69 = .ok (.iconst 5, 1) := by decide +kernel
theorem dX4_rowOfWall_70 : decode cX4_rowOfWall 70 = .ok (.idiv, 1) := by decide +kernel
theorem dX4_rowOfWall_71 : decode cX4_rowOfWall 71 = .ok (.istore 6, 2) := by decide +kernel
theorem dX4_rowOfWall_73 : decode cX4_rowOfWall 73 = .ok (.iinc 8 1, 3) := by decide +kernel
theorem dX4_rowOfWall_76 : decode cX4_rowOfWall 76 = .ok (.goto (-30), 3) := by decide +kernel
theorem dX4_rowOfWall_79 : decode cX4_rowOfWall 79 = .ok (.iload 7, 2) := by decide +kernel
theorem dX4_rowOfWall_81 : decode cX4_rowOfWall 81 = .ok (.ireturn, 1) := by decide +kernel
theorem dX4_holds_0 : decode cX4_holds 0 = .ok (.iload_n 0, 1) := by decide +kernel
theorem dX4_holds_1 : decode cX4_holds 1 = .ok (.iload_n 1, 1) := by decide +kernel
theorem dX4_holds_2 : decode cX4_holds 2 = .ok (.ishr, 1) := by decide +kernel
theorem dX4_holds_3 : decode cX4_holds 3 = .ok (.iconst 1, 1) := by decide +kernel
theorem dX4_holds_4 : decode cX4_holds 4 = .ok (.iand, 1) := by decide +kernel
theorem dX4_holds_5 : decode cX4_holds 5 = .ok (.iconst 1, 1) := by decide +kernel
theorem dX4_holds_6 : decode cX4_holds 6 = .ok (.if_icmp .ne 7, 3) := by decide +kernel
theorem dX4_holds_9 : decode cX4_holds 9 = .ok (.iconst 1, 1) := by decide +kernel
theorem dX4_holds_10 : decode cX4_holds 10 = .ok (.goto 4, 3) := by decide +kernel
theorem dX4_holds_13 : decode cX4_holds 13 = .ok (.iconst 0, 1) := by decide +kernel
theorem dX4_holds_14 : decode cX4_holds 14 = .ok (.ireturn, 1) := by decide +kernel
theorem dX4_wordsOfRoot_0 : decode cX4_wordsOfRoot 0 = .ok (.iconst 3, 1) := by decide +kernel
theorem dX4_wordsOfRoot_1 : decode cX4_wordsOfRoot 1 = .ok (.iconst 2, 1) := by decide +kernel
theorem dX4_wordsOfRoot_2 : decode cX4_wordsOfRoot 2 = .ok (.iload_n 0, 1) := by decide +kernel
theorem dX4_wordsOfRoot_3 : decode cX4_wordsOfRoot 3 = .ok (.imul, 1) := by decide +kernel
theorem dX4_wordsOfRoot_4 : decode cX4_wordsOfRoot 4 = .ok (.ishl, 1) := by decide +kernel
theorem dX4_wordsOfRoot_5 : decode cX4_wordsOfRoot 5 = .ok (.ireturn, 1) := by decide +kernel
theorem dX4_wordsOfRoots_0 : decode cX4_wordsOfRoots 0 = .ok (.iconst 0, 1) := by decide +kernel
theorem dX4_wordsOfRoots_1 : decode cX4_wordsOfRoots 1 = .ok (.istore_n 2, 1) := by decide +kernel
theorem dX4_wordsOfRoots_2 : decode cX4_wordsOfRoots 2 = .ok (.iconst 0, 1) := by decide +kernel
theorem dX4_wordsOfRoots_3 : decode cX4_wordsOfRoots 3 = .ok (.istore_n 3, 1) := by decide +kernel
theorem dX4_wordsOfRoots_4 : decode cX4_wordsOfRoots 4 = .ok (.iload_n 3, 1) := by decide +kernel
theorem dX4_wordsOfRoots_5 : decode cX4_wordsOfRoots 5 = .ok (.aload_n 0, 1) := by decide +kernel
theorem dX4_wordsOfRoots_6 : decode cX4_wordsOfRoots 6 = .ok (.getfield 42, 3) := by decide +kernel
theorem dX4_wordsOfRoots_9 : decode cX4_wordsOfRoots 9 = .ok (.getfield 87, 3) := by decide +kernel
theorem dX4_wordsOfRoots_12 : decode cX4_wordsOfRoots 12 = .ok (.if_icmp .ge 28, 3) := by decide +kernel
theorem dX4_wordsOfRoots_15 : decode cX4_wordsOfRoots 15 = .ok (.iload_n 2, 1) := by decide +kernel
theorem dX4_wordsOfRoots_16 : decode cX4_wordsOfRoots 16 = .ok (.iload_n 1, 1) := by decide +kernel
theorem dX4_wordsOfRoots_17 : decode cX4_wordsOfRoots 17 = .ok (.iload_n 3, 1) := by decide +kernel
theorem dX4_wordsOfRoots_18 : decode cX4_wordsOfRoots 18 = .ok (.invokestatic 150, 3) := by decide +kernel
theorem dX4_wordsOfRoots_21 : decode cX4_wordsOfRoots 21 = .ok (.ifCond .eq 10, 3) := by decide +kernel
theorem dX4_wordsOfRoots_24 : decode cX4_wordsOfRoots 24 = .ok (.iload_n 3, 1) := by decide +kernel
theorem dX4_wordsOfRoots_25 : decode cX4_wordsOfRoots 25 = .ok (.invokestatic 186, 3) := by decide +kernel
theorem dX4_wordsOfRoots_28 : decode cX4_wordsOfRoots 28 = .ok (.goto 4, 3) := by decide +kernel
theorem dX4_wordsOfRoots_31 : decode cX4_wordsOfRoots 31 = .ok (.iconst 0, 1) := by decide +kernel
theorem dX4_wordsOfRoots_32 : decode cX4_wordsOfRoots 32 = .ok (.ior, 1) := by decide +kernel
theorem dX4_wordsOfRoots_33 : decode cX4_wordsOfRoots 33 = .ok (.istore_n 2, 1) := by decide +kernel
theorem dX4_wordsOfRoots_34 : decode cX4_wordsOfRoots 34 = .ok (.iinc 3 1, 3) := by decide +kernel
theorem dX4_wordsOfRoots_37 : decode cX4_wordsOfRoots 37 = .ok (.goto (-33), 3) := by decide +kernel
theorem dX4_wordsOfRoots_40 : decode cX4_wordsOfRoots 40 = .ok (.iload_n 2, 1) := by decide +kernel
theorem dX4_wordsOfRoots_41 : decode cX4_wordsOfRoots 41 = .ok (.ireturn, 1) := by decide +kernel
theorem dX4_oddsOf_0 : decode cX4_oddsOf 0 = .ok (.aload_n 0, 1) := by decide +kernel
theorem dX4_oddsOf_1 : decode cX4_oddsOf 1 = .ok (.getfield 42, 3) := by decide +kernel
theorem dX4_oddsOf_4 : decode cX4_oddsOf 4 = .ok (.getfield 87, 3) := by decide +kernel
theorem dX4_oddsOf_7 : decode cX4_oddsOf 7 = .ok (.iload_n 1, 1) := by decide +kernel
theorem dX4_oddsOf_8 : decode cX4_oddsOf 8 = .ok (.invokestatic 242, 3) := by decide +kernel
theorem dX4_oddsOf_11 : decode cX4_oddsOf 11 = .ok (.isub, 1) := by decide +kernel
theorem dX4_oddsOf_12 : decode cX4_oddsOf 12 = .ok (.istore_n 3, 1) := by decide +kernel
theorem dX4_oddsOf_13 : decode cX4_oddsOf 13 = .ok (.bipush 10, 2) := by decide +kernel
theorem dX4_oddsOf_15 : decode cX4_oddsOf 15 = .ok (.iload_n 2, 1) := by decide +kernel
theorem dX4_oddsOf_16 : decode cX4_oddsOf 16 = .ok (.isub, 1) := by decide +kernel
theorem dX4_oddsOf_17 : decode cX4_oddsOf 17 = .ok (.iload_n 1, 1) := by decide +kernel
theorem dX4_oddsOf_18 : decode cX4_oddsOf 18 = .ok (.invokestatic 242, 3) := by decide +kernel
theorem dX4_oddsOf_21 : decode cX4_oddsOf 21 = .ok (.invokestatic 221, 3) := by decide +kernel
theorem dX4_oddsOf_24 : decode cX4_oddsOf 24 = .ok (.iload_n 2, 1) := by decide +kernel
theorem dX4_oddsOf_25 : decode cX4_oddsOf 25 = .ok (.iload_n 3, 1) := by decide +kernel
theorem dX4_oddsOf_26 : decode cX4_oddsOf 26 = .ok (.invokestatic 221, 3) := by decide +kernel
theorem dX4_oddsOf_29 : decode cX4_oddsOf 29 = .ok (.lmul, 1) := by decide +kernel
theorem dX4_oddsOf_30 : decode cX4_oddsOf 30 = .ok (.lreturn, 1) := by decide +kernel
theorem dX4_power_0 : decode cX4_power 0 = .ok (.lconst 1, 1) := by decide +kernel
theorem dX4_power_1 : decode cX4_power 1 = .ok (.lstore_n 2, 1) := by decide +kernel
theorem dX4_power_2 : decode cX4_power 2 = .ok (.iconst 0, 1) := by decide +kernel
theorem dX4_power_3 : decode cX4_power 3 = .ok (.istore 4, 2) := by decide +kernel
theorem dX4_power_5 : decode cX4_power 5 = .ok (.iload 4, 2) := by decide +kernel
theorem dX4_power_7 : decode cX4_power 7 = .ok (.iload_n 1, 1) := by decide +kernel
theorem dX4_power_8 : decode cX4_power 8 = .ok (.if_icmp .ge 14, 3) := by decide +kernel
theorem dX4_power_11 : decode cX4_power 11 = .ok (.lload_n 2, 1) := by decide +kernel
theorem dX4_power_12 : decode cX4_power 12 = .ok (.iload_n 0, 1) := by decide +kernel
theorem dX4_power_13 : decode cX4_power 13 = .ok (.i2l, 1) := by decide +kernel
theorem dX4_power_14 : decode cX4_power 14 = .ok (.lmul, 1) := by decide +kernel
theorem dX4_power_15 : decode cX4_power 15 = .ok (.lstore_n 2, 1) := by decide +kernel
theorem dX4_power_16 : decode cX4_power 16 = .ok (.iinc 4 1, 3) := by decide +kernel
theorem dX4_power_19 : decode cX4_power 19 = .ok (.goto (-14), 3) := by decide +kernel
theorem dX4_power_22 : decode cX4_power 22 = .ok (.lload_n 2, 1) := by decide +kernel
theorem dX4_power_23 : decode cX4_power 23 = .ok (.lreturn, 1) := by decide +kernel
theorem dX4_inLowestTerms_0 : decode cX4_inLowestTerms 0 = .ok (.lload_n 0, 1) := by decide +kernel
theorem dX4_inLowestTerms_1 : decode cX4_inLowestTerms 1 = .ok (.lconst 0, 1) := by decide +kernel
theorem dX4_inLowestTerms_2 : decode cX4_inLowestTerms 2 = .ok (.lcmp, 1) := by decide +kernel
theorem dX4_inLowestTerms_3 : decode cX4_inLowestTerms 3 = .ok (.ifCond .le 9, 3) := by decide +kernel
theorem dX4_inLowestTerms_6 : decode cX4_inLowestTerms 6 = .ok (.lload_n 2, 1) := by decide +kernel
theorem dX4_inLowestTerms_7 : decode cX4_inLowestTerms 7 = .ok (.lconst 0, 1) := by decide +kernel
theorem dX4_inLowestTerms_8 : decode cX4_inLowestTerms 8 = .ok (.lcmp, 1) := by decide +kernel
theorem dX4_inLowestTerms_9 : decode cX4_inLowestTerms 9 = .ok (.ifCond .gt 6, 3) := by decide +kernel
theorem dX4_inLowestTerms_12 : decode cX4_inLowestTerms 12 = .ok (.iload 4, 2) := by decide +kernel
theorem dX4_inLowestTerms_14 : decode cX4_inLowestTerms 14 = .ok (.ireturn, 1) := by decide +kernel
theorem dX4_inLowestTerms_15 : decode cX4_inLowestTerms 15 = .ok (.lload_n 0, 1) := by decide +kernel
theorem dX4_inLowestTerms_16 : decode cX4_inLowestTerms 16 = .ok (.lstore 5, 2) := by decide +kernel
theorem dX4_inLowestTerms_18 : decode cX4_inLowestTerms 18 = .ok (.lload_n 2, 1) := by decide +kernel
theorem dX4_inLowestTerms_19 : decode cX4_inLowestTerms 19 = .ok (.lstore 7, 2) := by decide +kernel
theorem dX4_inLowestTerms_21 : decode cX4_inLowestTerms 21 = .ok (.iconst 0, 1) := by decide +kernel
theorem dX4_inLowestTerms_22 : decode cX4_inLowestTerms 22 = .ok (.istore 9, 2) := by decide +kernel
theorem dX4_inLowestTerms_24 : decode cX4_inLowestTerms 24 = .ok (.iload 9, 2) := by decide +kernel
theorem dX4_inLowestTerms_26 : decode cX4_inLowestTerms 26 = .ok (.sipush 128, 3) := by decide +kernel
theorem dX4_inLowestTerms_29 : decode cX4_inLowestTerms 29 = .ok (.if_icmp .ge 31, 3) := by decide +kernel
theorem dX4_inLowestTerms_32 : decode cX4_inLowestTerms 32 = .ok (.lload 7, 2) := by decide +kernel
theorem dX4_inLowestTerms_34 : decode cX4_inLowestTerms 34 = .ok (.lconst 0, 1) := by decide +kernel
theorem dX4_inLowestTerms_35 : decode cX4_inLowestTerms 35 = .ok (.lcmp, 1) := by decide +kernel
theorem dX4_inLowestTerms_36 : decode cX4_inLowestTerms 36 = .ok (.ifCond .le 24, 3) := by decide +kernel
theorem dX4_inLowestTerms_39 : decode cX4_inLowestTerms 39 = .ok (.lload 5, 2) := by decide +kernel
theorem dX4_inLowestTerms_41 : decode cX4_inLowestTerms 41 = .ok (.lload 7, 2) := by decide +kernel
theorem dX4_inLowestTerms_43 : decode cX4_inLowestTerms 43 = .ok (.lrem, 1) := by decide +kernel
theorem dX4_inLowestTerms_44 : decode cX4_inLowestTerms 44 = .ok (.lstore 10, 2) := by decide +kernel
theorem dX4_inLowestTerms_46 : decode cX4_inLowestTerms 46 = .ok (.lload 7, 2) := by decide +kernel
theorem dX4_inLowestTerms_48 : decode cX4_inLowestTerms 48 = .ok (.lstore 5, 2) := by decide +kernel
theorem dX4_inLowestTerms_50 : decode cX4_inLowestTerms 50 = .ok (.lload 10, 2) := by decide +kernel
theorem dX4_inLowestTerms_52 : decode cX4_inLowestTerms 52 = .ok (.lstore 7, 2) := by decide +kernel
theorem dX4_inLowestTerms_54 : decode cX4_inLowestTerms 54 = .ok (.iinc 9 1, 3) := by decide +kernel
theorem dX4_inLowestTerms_57 : decode cX4_inLowestTerms 57 = .ok (.goto (-33), 3) := by decide +kernel
theorem dX4_inLowestTerms_60 : decode cX4_inLowestTerms 60 = .ok (.lload 5, 2) := by decide +kernel
theorem dX4_inLowestTerms_62 : decode cX4_inLowestTerms 62 = .ok (.lconst 0, 1) := by decide +kernel
theorem dX4_inLowestTerms_63 : decode cX4_inLowestTerms 63 = .ok (.lcmp, 1) := by decide +kernel
theorem dX4_inLowestTerms_64 : decode cX4_inLowestTerms 64 = .ok (.ifCond .ne 6, 3) := by decide +kernel
theorem dX4_inLowestTerms_67 : decode cX4_inLowestTerms 67 = .ok (.iload 4, 2) := by decide +kernel
theorem dX4_inLowestTerms_69 : decode cX4_inLowestTerms 69 = .ok (.ireturn, 1) := by decide +kernel
theorem dX4_inLowestTerms_70 : decode cX4_inLowestTerms 70 = .ok (.iload 4, 2) := by decide +kernel
theorem dX4_inLowestTerms_72 : decode cX4_inLowestTerms 72 = .ok (.ifCond .ne 7, 3) := by decide +kernel
theorem dX4_inLowestTerms_75 : decode cX4_inLowestTerms 75 = .ok (.lload_n 0, 1) := by decide +kernel
theorem dX4_inLowestTerms_76 : decode cX4_inLowestTerms 76 = .ok (.goto 4, 3) := by decide +kernel
theorem dX4_inLowestTerms_79 : decode cX4_inLowestTerms 79 = .ok (.lload_n 2, 1) := by decide +kernel
theorem dX4_inLowestTerms_80 : decode cX4_inLowestTerms 80 = .ok (.lload 5, 2) := by decide +kernel
theorem dX4_inLowestTerms_82 : decode cX4_inLowestTerms 82 = .ok (.ldiv, 1) := by decide +kernel
theorem dX4_inLowestTerms_83 : decode cX4_inLowestTerms 83 = .ok (.l2i, 1) := by decide +kernel
theorem dX4_inLowestTerms_84 : decode cX4_inLowestTerms 84 = .ok (.ireturn, 1) := by decide +kernel
theorem dL_law_0 : decode cL_law 0 = .ok (.new 7, 3) := by decide +kernel
theorem dL_law_3 : decode cL_law 3 = .ok (.dup, 1) := by decide +kernel
theorem dL_law_4 : decode cL_law 4 = .ok (.invokespecial 9, 3) := by decide +kernel
theorem dL_law_7 : decode cL_law 7 = .ok (.astore_n 1, 1) := by decide +kernel
theorem dL_law_8 : decode cL_law 8 = .ok (.new 10, 3) := by decide +kernel
theorem dL_law_11 : decode cL_law 11 = .ok (.dup, 1) := by decide +kernel
theorem dL_law_12 : decode cL_law 12 = .ok (.invokespecial 12, 3) := by decide +kernel
theorem dL_law_15 : decode cL_law 15 = .ok (.astore_n 2, 1) := by decide +kernel
theorem dL_law_16 : decode cL_law 16 = .ok (.iconst 0, 1) := by decide +kernel
theorem dL_law_17 : decode cL_law 17 = .ok (.istore_n 3, 1) := by decide +kernel
theorem dL_law_18 : decode cL_law 18 = .ok (.iload_n 3, 1) := by decide +kernel
theorem dL_law_19 : decode cL_law 19 = .ok (.aload_n 0, 1) := by decide +kernel
theorem dL_law_20 : decode cL_law 20 = .ok (.arraylength, 1) := by decide +kernel
theorem dL_law_21 : decode cL_law 21 = .ok (.iconst 5, 1) := by decide +kernel
theorem dL_law_22 : decode cL_law 22 = .ok (.isub, 1) := by decide +kernel
theorem dL_law_23 : decode cL_law 23 = .ok (.if_icmp .gt 867, 3) := by decide +kernel
theorem dL_law_26 : decode cL_law 26 = .ok (.aload_n 0, 1) := by decide +kernel
theorem dL_law_27 : decode cL_law 27 = .ok (.iload_n 3, 1) := by decide +kernel
theorem dL_law_28 : decode cL_law 28 = .ok (.iaload, 1) := by decide +kernel
theorem dL_law_29 : decode cL_law 29 = .ok (.bipush 31, 2) := by decide +kernel
theorem dL_law_31 : decode cL_law 31 = .ok (.iand, 1) := by decide +kernel
theorem dL_law_32 : decode cL_law 32 = .ok (.tableswitch 852 0 27 #[128, 151, 164, 177, 190, 223, 256, 299, 342, 375, 398, 411, 434, 447, 470, 483, 526, 549, 582, 605, 638, 671, 684, 707, 750, 803, 816, 829], 128) := by decide +kernel
theorem dL_law_160 : decode cL_law 160 = .ok (.aload_n 1, 1) := by decide +kernel
theorem dL_law_161 : decode cL_law 161 = .ok (.aload_n 0, 1) := by decide +kernel
theorem dL_law_162 : decode cL_law 162 = .ok (.iload_n 3, 1) := by decide +kernel
theorem dL_law_163 : decode cL_law 163 = .ok (.iconst 1, 1) := by decide +kernel
theorem dL_law_164 : decode cL_law 164 = .ok (.iadd, 1) := by decide +kernel
theorem dL_law_165 : decode cL_law 165 = .ok (.iaload, 1) := by decide +kernel
theorem dL_law_166 : decode cL_law 166 = .ok (.invokevirtual 13, 3) := by decide +kernel
theorem dL_law_169 : decode cL_law 169 = .ok (.aload_n 2, 1) := by decide +kernel
theorem dL_law_170 : decode cL_law 170 = .ok (.aload_n 0, 1) := by decide +kernel
theorem dL_law_171 : decode cL_law 171 = .ok (.iload_n 3, 1) := by decide +kernel
theorem dL_law_172 : decode cL_law 172 = .ok (.iconst 1, 1) := by decide +kernel
theorem dL_law_173 : decode cL_law 173 = .ok (.iadd, 1) := by decide +kernel
theorem dL_law_174 : decode cL_law 174 = .ok (.iaload, 1) := by decide +kernel
theorem dL_law_175 : decode cL_law 175 = .ok (.invokevirtual 17, 3) := by decide +kernel
theorem dL_law_178 : decode cL_law 178 = .ok (.if_icmp .eq 706, 3) := by decide +kernel
theorem dL_law_181 : decode cL_law 181 = .ok (.iconst 0, 1) := by decide +kernel
theorem dL_law_182 : decode cL_law 182 = .ok (.ireturn, 1) := by decide +kernel
theorem dL_law_183 : decode cL_law 183 = .ok (.aload_n 1, 1) := by decide +kernel
theorem dL_law_184 : decode cL_law 184 = .ok (.invokevirtual 18, 3) := by decide +kernel
theorem dL_law_187 : decode cL_law 187 = .ok (.aload_n 2, 1) := by decide +kernel
theorem dL_law_188 : decode cL_law 188 = .ok (.invokevirtual 22, 3) := by decide +kernel
theorem dL_law_191 : decode cL_law 191 = .ok (.if_icmp .eq 693, 3) := by decide +kernel
theorem dL_law_194 : decode cL_law 194 = .ok (.iconst 0, 1) := by decide +kernel
theorem dL_law_195 : decode cL_law 195 = .ok (.ireturn, 1) := by decide +kernel
theorem dL_law_196 : decode cL_law 196 = .ok (.aload_n 1, 1) := by decide +kernel
theorem dL_law_197 : decode cL_law 197 = .ok (.invokevirtual 23, 3) := by decide +kernel
theorem dL_law_200 : decode cL_law 200 = .ok (.aload_n 2, 1) := by decide +kernel
theorem dL_law_201 : decode cL_law 201 = .ok (.invokevirtual 26, 3) := by decide +kernel
theorem dL_law_204 : decode cL_law 204 = .ok (.if_icmp .eq 680, 3) := by decide +kernel
theorem dL_law_207 : decode cL_law 207 = .ok (.iconst 0, 1) := by decide +kernel
theorem dL_law_208 : decode cL_law 208 = .ok (.ireturn, 1) := by decide +kernel
theorem dL_law_209 : decode cL_law 209 = .ok (.aload_n 1, 1) := by decide +kernel
theorem dL_law_210 : decode cL_law 210 = .ok (.invokevirtual 27, 3) := by decide +kernel
theorem dL_law_213 : decode cL_law 213 = .ok (.aload_n 2, 1) := by decide +kernel
theorem dL_law_214 : decode cL_law 214 = .ok (.invokevirtual 30, 3) := by decide +kernel
theorem dL_law_217 : decode cL_law 217 = .ok (.if_icmp .eq 667, 3) := by decide +kernel
theorem dL_law_220 : decode cL_law 220 = .ok (.iconst 0, 1) := by decide +kernel
theorem dL_law_221 : decode cL_law 221 = .ok (.ireturn, 1) := by decide +kernel
theorem dL_law_222 : decode cL_law 222 = .ok (.aload_n 1, 1) := by decide +kernel
theorem dL_law_223 : decode cL_law 223 = .ok (.aload_n 0, 1) := by decide +kernel
theorem dL_law_224 : decode cL_law 224 = .ok (.iload_n 3, 1) := by decide +kernel
theorem dL_law_225 : decode cL_law 225 = .ok (.iconst 1, 1) := by decide +kernel
theorem dL_law_226 : decode cL_law 226 = .ok (.iadd, 1) := by decide +kernel
theorem dL_law_227 : decode cL_law 227 = .ok (.iaload, 1) := by decide +kernel
theorem dL_law_228 : decode cL_law 228 = .ok (.aload_n 0, 1) := by decide +kernel
theorem dL_law_229 : decode cL_law 229 = .ok (.iload_n 3, 1) := by decide +kernel
theorem dL_law_230 : decode cL_law 230 = .ok (.iconst 2, 1) := by decide +kernel
theorem dL_law_231 : decode cL_law 231 = .ok (.iadd, 1) := by decide +kernel
theorem dL_law_232 : decode cL_law 232 = .ok (.iaload, 1) := by decide +kernel
theorem dL_law_233 : decode cL_law 233 = .ok (.invokevirtual 31, 3) := by decide +kernel
theorem dL_law_236 : decode cL_law 236 = .ok (.aload_n 2, 1) := by decide +kernel
theorem dL_law_237 : decode cL_law 237 = .ok (.aload_n 0, 1) := by decide +kernel
theorem dL_law_238 : decode cL_law 238 = .ok (.iload_n 3, 1) := by decide +kernel
theorem dL_law_239 : decode cL_law 239 = .ok (.iconst 1, 1) := by decide +kernel
theorem dL_law_240 : decode cL_law 240 = .ok (.iadd, 1) := by decide +kernel
theorem dL_law_241 : decode cL_law 241 = .ok (.iaload, 1) := by decide +kernel
theorem dL_law_242 : decode cL_law 242 = .ok (.aload_n 0, 1) := by decide +kernel
theorem dL_law_243 : decode cL_law 243 = .ok (.iload_n 3, 1) := by decide +kernel
theorem dL_law_244 : decode cL_law 244 = .ok (.iconst 2, 1) := by decide +kernel
theorem dL_law_245 : decode cL_law 245 = .ok (.iadd, 1) := by decide +kernel
theorem dL_law_246 : decode cL_law 246 = .ok (.iaload, 1) := by decide +kernel
theorem dL_law_247 : decode cL_law 247 = .ok (.invokevirtual 35, 3) := by decide +kernel
theorem dL_law_250 : decode cL_law 250 = .ok (.if_icmp .eq 634, 3) := by decide +kernel
theorem dL_law_253 : decode cL_law 253 = .ok (.iconst 0, 1) := by decide +kernel
theorem dL_law_254 : decode cL_law 254 = .ok (.ireturn, 1) := by decide +kernel
theorem dL_law_255 : decode cL_law 255 = .ok (.aload_n 1, 1) := by decide +kernel
theorem dL_law_256 : decode cL_law 256 = .ok (.aload_n 0, 1) := by decide +kernel
theorem dL_law_257 : decode cL_law 257 = .ok (.iload_n 3, 1) := by decide +kernel
theorem dL_law_258 : decode cL_law 258 = .ok (.iconst 1, 1) := by decide +kernel
theorem dL_law_259 : decode cL_law 259 = .ok (.iadd, 1) := by decide +kernel
theorem dL_law_260 : decode cL_law 260 = .ok (.iaload, 1) := by decide +kernel
theorem dL_law_261 : decode cL_law 261 = .ok (.aload_n 0, 1) := by decide +kernel
theorem dL_law_262 : decode cL_law 262 = .ok (.iload_n 3, 1) := by decide +kernel
theorem dL_law_263 : decode cL_law 263 = .ok (.iconst 2, 1) := by decide +kernel
theorem dL_law_264 : decode cL_law 264 = .ok (.iadd, 1) := by decide +kernel
theorem dL_law_265 : decode cL_law 265 = .ok (.iaload, 1) := by decide +kernel
theorem dL_law_266 : decode cL_law 266 = .ok (.invokevirtual 36, 3) := by decide +kernel
theorem dL_law_269 : decode cL_law 269 = .ok (.aload_n 2, 1) := by decide +kernel
theorem dL_law_270 : decode cL_law 270 = .ok (.aload_n 0, 1) := by decide +kernel
theorem dL_law_271 : decode cL_law 271 = .ok (.iload_n 3, 1) := by decide +kernel
theorem dL_law_272 : decode cL_law 272 = .ok (.iconst 1, 1) := by decide +kernel
theorem dL_law_273 : decode cL_law 273 = .ok (.iadd, 1) := by decide +kernel
theorem dL_law_274 : decode cL_law 274 = .ok (.iaload, 1) := by decide +kernel
theorem dL_law_275 : decode cL_law 275 = .ok (.aload_n 0, 1) := by decide +kernel
theorem dL_law_276 : decode cL_law 276 = .ok (.iload_n 3, 1) := by decide +kernel
theorem dL_law_277 : decode cL_law 277 = .ok (.iconst 2, 1) := by decide +kernel
theorem dL_law_278 : decode cL_law 278 = .ok (.iadd, 1) := by decide +kernel
theorem dL_law_279 : decode cL_law 279 = .ok (.iaload, 1) := by decide +kernel
theorem dL_law_280 : decode cL_law 280 = .ok (.invokevirtual 39, 3) := by decide +kernel
theorem dL_law_283 : decode cL_law 283 = .ok (.if_icmp .eq 601, 3) := by decide +kernel
theorem dL_law_286 : decode cL_law 286 = .ok (.iconst 0, 1) := by decide +kernel
theorem dL_law_287 : decode cL_law 287 = .ok (.ireturn, 1) := by decide +kernel
theorem dL_law_288 : decode cL_law 288 = .ok (.aload_n 1, 1) := by decide +kernel
theorem dL_law_289 : decode cL_law 289 = .ok (.aload_n 0, 1) := by decide +kernel
theorem dL_law_290 : decode cL_law 290 = .ok (.iload_n 3, 1) := by decide +kernel
theorem dL_law_291 : decode cL_law 291 = .ok (.iconst 1, 1) := by decide +kernel
theorem dL_law_292 : decode cL_law 292 = .ok (.iadd, 1) := by decide +kernel
theorem dL_law_293 : decode cL_law 293 = .ok (.iaload, 1) := by decide +kernel
theorem dL_law_294 : decode cL_law 294 = .ok (.aload_n 0, 1) := by decide +kernel
theorem dL_law_295 : decode cL_law 295 = .ok (.iload_n 3, 1) := by decide +kernel
theorem dL_law_296 : decode cL_law 296 = .ok (.iconst 2, 1) := by decide +kernel
theorem dL_law_297 : decode cL_law 297 = .ok (.iadd, 1) := by decide +kernel
theorem dL_law_298 : decode cL_law 298 = .ok (.iaload, 1) := by decide +kernel
theorem dL_law_299 : decode cL_law 299 = .ok (.aload_n 0, 1) := by decide +kernel
theorem dL_law_300 : decode cL_law 300 = .ok (.iload_n 3, 1) := by decide +kernel
theorem dL_law_301 : decode cL_law 301 = .ok (.iconst 3, 1) := by decide +kernel
theorem dL_law_302 : decode cL_law 302 = .ok (.iadd, 1) := by decide +kernel
theorem dL_law_303 : decode cL_law 303 = .ok (.iaload, 1) := by decide +kernel
theorem dL_law_304 : decode cL_law 304 = .ok (.invokevirtual 40, 3) := by decide +kernel
theorem dL_law_307 : decode cL_law 307 = .ok (.aload_n 2, 1) := by decide +kernel
theorem dL_law_308 : decode cL_law 308 = .ok (.aload_n 0, 1) := by decide +kernel
theorem dL_law_309 : decode cL_law 309 = .ok (.iload_n 3, 1) := by decide +kernel
theorem dL_law_310 : decode cL_law 310 = .ok (.iconst 1, 1) := by decide +kernel
theorem dL_law_311 : decode cL_law 311 = .ok (.iadd, 1) := by decide +kernel
theorem dL_law_312 : decode cL_law 312 = .ok (.iaload, 1) := by decide +kernel
theorem dL_law_313 : decode cL_law 313 = .ok (.aload_n 0, 1) := by decide +kernel
theorem dL_law_314 : decode cL_law 314 = .ok (.iload_n 3, 1) := by decide +kernel
theorem dL_law_315 : decode cL_law 315 = .ok (.iconst 2, 1) := by decide +kernel
theorem dL_law_316 : decode cL_law 316 = .ok (.iadd, 1) := by decide +kernel
theorem dL_law_317 : decode cL_law 317 = .ok (.iaload, 1) := by decide +kernel
theorem dL_law_318 : decode cL_law 318 = .ok (.aload_n 0, 1) := by decide +kernel
theorem dL_law_319 : decode cL_law 319 = .ok (.iload_n 3, 1) := by decide +kernel
theorem dL_law_320 : decode cL_law 320 = .ok (.iconst 3, 1) := by decide +kernel
theorem dL_law_321 : decode cL_law 321 = .ok (.iadd, 1) := by decide +kernel
theorem dL_law_322 : decode cL_law 322 = .ok (.iaload, 1) := by decide +kernel
theorem dL_law_323 : decode cL_law 323 = .ok (.invokevirtual 44, 3) := by decide +kernel
theorem dL_law_326 : decode cL_law 326 = .ok (.if_icmp .eq 558, 3) := by decide +kernel
theorem dL_law_329 : decode cL_law 329 = .ok (.iconst 0, 1) := by decide +kernel
theorem dL_law_330 : decode cL_law 330 = .ok (.ireturn, 1) := by decide +kernel
theorem dL_law_331 : decode cL_law 331 = .ok (.aload_n 1, 1) := by decide +kernel
theorem dL_law_332 : decode cL_law 332 = .ok (.aload_n 0, 1) := by decide +kernel
theorem dL_law_333 : decode cL_law 333 = .ok (.iload_n 3, 1) := by decide +kernel
theorem dL_law_334 : decode cL_law 334 = .ok (.iconst 1, 1) := by decide +kernel
theorem dL_law_335 : decode cL_law 335 = .ok (.iadd, 1) := by decide +kernel
theorem dL_law_336 : decode cL_law 336 = .ok (.iaload, 1) := by decide +kernel
theorem dL_law_337 : decode cL_law 337 = .ok (.aload_n 0, 1) := by decide +kernel
theorem dL_law_338 : decode cL_law 338 = .ok (.iload_n 3, 1) := by decide +kernel
theorem dL_law_339 : decode cL_law 339 = .ok (.iconst 2, 1) := by decide +kernel
theorem dL_law_340 : decode cL_law 340 = .ok (.iadd, 1) := by decide +kernel
theorem dL_law_341 : decode cL_law 341 = .ok (.iaload, 1) := by decide +kernel
theorem dL_law_342 : decode cL_law 342 = .ok (.aload_n 0, 1) := by decide +kernel
theorem dL_law_343 : decode cL_law 343 = .ok (.iload_n 3, 1) := by decide +kernel
theorem dL_law_344 : decode cL_law 344 = .ok (.iconst 3, 1) := by decide +kernel
theorem dL_law_345 : decode cL_law 345 = .ok (.iadd, 1) := by decide +kernel
theorem dL_law_346 : decode cL_law 346 = .ok (.iaload, 1) := by decide +kernel
theorem dL_law_347 : decode cL_law 347 = .ok (.invokevirtual 45, 3) := by decide +kernel
theorem dL_law_350 : decode cL_law 350 = .ok (.aload_n 2, 1) := by decide +kernel
theorem dL_law_351 : decode cL_law 351 = .ok (.aload_n 0, 1) := by decide +kernel
theorem dL_law_352 : decode cL_law 352 = .ok (.iload_n 3, 1) := by decide +kernel
theorem dL_law_353 : decode cL_law 353 = .ok (.iconst 1, 1) := by decide +kernel
theorem dL_law_354 : decode cL_law 354 = .ok (.iadd, 1) := by decide +kernel
theorem dL_law_355 : decode cL_law 355 = .ok (.iaload, 1) := by decide +kernel
theorem dL_law_356 : decode cL_law 356 = .ok (.aload_n 0, 1) := by decide +kernel
theorem dL_law_357 : decode cL_law 357 = .ok (.iload_n 3, 1) := by decide +kernel
theorem dL_law_358 : decode cL_law 358 = .ok (.iconst 2, 1) := by decide +kernel
theorem dL_law_359 : decode cL_law 359 = .ok (.iadd, 1) := by decide +kernel
theorem dL_law_360 : decode cL_law 360 = .ok (.iaload, 1) := by decide +kernel
theorem dL_law_361 : decode cL_law 361 = .ok (.aload_n 0, 1) := by decide +kernel
theorem dL_law_362 : decode cL_law 362 = .ok (.iload_n 3, 1) := by decide +kernel
theorem dL_law_363 : decode cL_law 363 = .ok (.iconst 3, 1) := by decide +kernel
theorem dL_law_364 : decode cL_law 364 = .ok (.iadd, 1) := by decide +kernel
theorem dL_law_365 : decode cL_law 365 = .ok (.iaload, 1) := by decide +kernel
theorem dL_law_366 : decode cL_law 366 = .ok (.invokevirtual 48, 3) := by decide +kernel
theorem dL_law_369 : decode cL_law 369 = .ok (.if_icmp .eq 515, 3) := by decide +kernel
theorem dL_law_372 : decode cL_law 372 = .ok (.iconst 0, 1) := by decide +kernel
theorem dL_law_373 : decode cL_law 373 = .ok (.ireturn, 1) := by decide +kernel
theorem dL_law_374 : decode cL_law 374 = .ok (.aload_n 1, 1) := by decide +kernel
theorem dL_law_375 : decode cL_law 375 = .ok (.aload_n 0, 1) := by decide +kernel
theorem dL_law_376 : decode cL_law 376 = .ok (.iload_n 3, 1) := by decide +kernel
theorem dL_law_377 : decode cL_law 377 = .ok (.iconst 1, 1) := by decide +kernel
theorem dL_law_378 : decode cL_law 378 = .ok (.iadd, 1) := by decide +kernel
theorem dL_law_379 : decode cL_law 379 = .ok (.iaload, 1) := by decide +kernel
theorem dL_law_380 : decode cL_law 380 = .ok (.aload_n 0, 1) := by decide +kernel
theorem dL_law_381 : decode cL_law 381 = .ok (.iload_n 3, 1) := by decide +kernel
theorem dL_law_382 : decode cL_law 382 = .ok (.iconst 2, 1) := by decide +kernel
theorem dL_law_383 : decode cL_law 383 = .ok (.iadd, 1) := by decide +kernel
theorem dL_law_384 : decode cL_law 384 = .ok (.iaload, 1) := by decide +kernel
theorem dL_law_385 : decode cL_law 385 = .ok (.invokevirtual 49, 3) := by decide +kernel
theorem dL_law_388 : decode cL_law 388 = .ok (.aload_n 2, 1) := by decide +kernel
theorem dL_law_389 : decode cL_law 389 = .ok (.aload_n 0, 1) := by decide +kernel
theorem dL_law_390 : decode cL_law 390 = .ok (.iload_n 3, 1) := by decide +kernel
theorem dL_law_391 : decode cL_law 391 = .ok (.iconst 1, 1) := by decide +kernel
theorem dL_law_392 : decode cL_law 392 = .ok (.iadd, 1) := by decide +kernel
theorem dL_law_393 : decode cL_law 393 = .ok (.iaload, 1) := by decide +kernel
theorem dL_law_394 : decode cL_law 394 = .ok (.aload_n 0, 1) := by decide +kernel
theorem dL_law_395 : decode cL_law 395 = .ok (.iload_n 3, 1) := by decide +kernel
theorem dL_law_396 : decode cL_law 396 = .ok (.iconst 2, 1) := by decide +kernel
theorem dL_law_397 : decode cL_law 397 = .ok (.iadd, 1) := by decide +kernel
theorem dL_law_398 : decode cL_law 398 = .ok (.iaload, 1) := by decide +kernel
theorem dL_law_399 : decode cL_law 399 = .ok (.invokevirtual 52, 3) := by decide +kernel
theorem dL_law_402 : decode cL_law 402 = .ok (.if_icmp .eq 482, 3) := by decide +kernel
theorem dL_law_405 : decode cL_law 405 = .ok (.iconst 0, 1) := by decide +kernel
theorem dL_law_406 : decode cL_law 406 = .ok (.ireturn, 1) := by decide +kernel
theorem dL_law_407 : decode cL_law 407 = .ok (.aload_n 1, 1) := by decide +kernel
theorem dL_law_408 : decode cL_law 408 = .ok (.aload_n 0, 1) := by decide +kernel
theorem dL_law_409 : decode cL_law 409 = .ok (.iload_n 3, 1) := by decide +kernel
theorem dL_law_410 : decode cL_law 410 = .ok (.iconst 1, 1) := by decide +kernel
theorem dL_law_411 : decode cL_law 411 = .ok (.iadd, 1) := by decide +kernel
theorem dL_law_412 : decode cL_law 412 = .ok (.iaload, 1) := by decide +kernel
theorem dL_law_413 : decode cL_law 413 = .ok (.invokevirtual 53, 3) := by decide +kernel
theorem dL_law_416 : decode cL_law 416 = .ok (.aload_n 2, 1) := by decide +kernel
theorem dL_law_417 : decode cL_law 417 = .ok (.aload_n 0, 1) := by decide +kernel
theorem dL_law_418 : decode cL_law 418 = .ok (.iload_n 3, 1) := by decide +kernel
theorem dL_law_419 : decode cL_law 419 = .ok (.iconst 1, 1) := by decide +kernel
theorem dL_law_420 : decode cL_law 420 = .ok (.iadd, 1) := by decide +kernel
theorem dL_law_421 : decode cL_law 421 = .ok (.iaload, 1) := by decide +kernel
theorem dL_law_422 : decode cL_law 422 = .ok (.invokevirtual 56, 3) := by decide +kernel
theorem dL_law_425 : decode cL_law 425 = .ok (.if_icmp .eq 459, 3) := by decide +kernel
theorem dL_law_428 : decode cL_law 428 = .ok (.iconst 0, 1) := by decide +kernel
theorem dL_law_429 : decode cL_law 429 = .ok (.ireturn, 1) := by decide +kernel
theorem dL_law_430 : decode cL_law 430 = .ok (.aload_n 1, 1) := by decide +kernel
theorem dL_law_431 : decode cL_law 431 = .ok (.invokevirtual 57, 3) := by decide +kernel
theorem dL_law_434 : decode cL_law 434 = .ok (.aload_n 2, 1) := by decide +kernel
theorem dL_law_435 : decode cL_law 435 = .ok (.invokevirtual 60, 3) := by decide +kernel
theorem dL_law_438 : decode cL_law 438 = .ok (.if_icmp .eq 446, 3) := by decide +kernel
theorem dL_law_441 : decode cL_law 441 = .ok (.iconst 0, 1) := by decide +kernel
theorem dL_law_442 : decode cL_law 442 = .ok (.ireturn, 1) := by decide +kernel
theorem dL_law_443 : decode cL_law 443 = .ok (.aload_n 1, 1) := by decide +kernel
theorem dL_law_444 : decode cL_law 444 = .ok (.aload_n 0, 1) := by decide +kernel
theorem dL_law_445 : decode cL_law 445 = .ok (.iload_n 3, 1) := by decide +kernel
theorem dL_law_446 : decode cL_law 446 = .ok (.iconst 1, 1) := by decide +kernel
theorem dL_law_447 : decode cL_law 447 = .ok (.iadd, 1) := by decide +kernel
theorem dL_law_448 : decode cL_law 448 = .ok (.iaload, 1) := by decide +kernel
theorem dL_law_449 : decode cL_law 449 = .ok (.invokevirtual 61, 3) := by decide +kernel
theorem dL_law_452 : decode cL_law 452 = .ok (.aload_n 2, 1) := by decide +kernel
theorem dL_law_453 : decode cL_law 453 = .ok (.aload_n 0, 1) := by decide +kernel
theorem dL_law_454 : decode cL_law 454 = .ok (.iload_n 3, 1) := by decide +kernel
theorem dL_law_455 : decode cL_law 455 = .ok (.iconst 1, 1) := by decide +kernel
theorem dL_law_456 : decode cL_law 456 = .ok (.iadd, 1) := by decide +kernel
theorem dL_law_457 : decode cL_law 457 = .ok (.iaload, 1) := by decide +kernel
theorem dL_law_458 : decode cL_law 458 = .ok (.invokevirtual 64, 3) := by decide +kernel
theorem dL_law_461 : decode cL_law 461 = .ok (.if_icmp .eq 423, 3) := by decide +kernel
theorem dL_law_464 : decode cL_law 464 = .ok (.iconst 0, 1) := by decide +kernel
theorem dL_law_465 : decode cL_law 465 = .ok (.ireturn, 1) := by decide +kernel
theorem dL_law_466 : decode cL_law 466 = .ok (.aload_n 1, 1) := by decide +kernel
theorem dL_law_467 : decode cL_law 467 = .ok (.invokevirtual 65, 3) := by decide +kernel
theorem dL_law_470 : decode cL_law 470 = .ok (.aload_n 2, 1) := by decide +kernel
theorem dL_law_471 : decode cL_law 471 = .ok (.invokevirtual 68, 3) := by decide +kernel
theorem dL_law_474 : decode cL_law 474 = .ok (.if_icmp .eq 410, 3) := by decide +kernel
theorem dL_law_477 : decode cL_law 477 = .ok (.iconst 0, 1) := by decide +kernel
theorem dL_law_478 : decode cL_law 478 = .ok (.ireturn, 1) := by decide +kernel
theorem dL_law_479 : decode cL_law 479 = .ok (.aload_n 1, 1) := by decide +kernel
theorem dL_law_480 : decode cL_law 480 = .ok (.aload_n 0, 1) := by decide +kernel
theorem dL_law_481 : decode cL_law 481 = .ok (.iload_n 3, 1) := by decide +kernel
theorem dL_law_482 : decode cL_law 482 = .ok (.iconst 1, 1) := by decide +kernel
theorem dL_law_483 : decode cL_law 483 = .ok (.iadd, 1) := by decide +kernel
theorem dL_law_484 : decode cL_law 484 = .ok (.iaload, 1) := by decide +kernel
theorem dL_law_485 : decode cL_law 485 = .ok (.invokevirtual 69, 3) := by decide +kernel
theorem dL_law_488 : decode cL_law 488 = .ok (.aload_n 2, 1) := by decide +kernel
theorem dL_law_489 : decode cL_law 489 = .ok (.aload_n 0, 1) := by decide +kernel
theorem dL_law_490 : decode cL_law 490 = .ok (.iload_n 3, 1) := by decide +kernel
theorem dL_law_491 : decode cL_law 491 = .ok (.iconst 1, 1) := by decide +kernel
theorem dL_law_492 : decode cL_law 492 = .ok (.iadd, 1) := by decide +kernel
theorem dL_law_493 : decode cL_law 493 = .ok (.iaload, 1) := by decide +kernel
theorem dL_law_494 : decode cL_law 494 = .ok (.invokevirtual 72, 3) := by decide +kernel
theorem dL_law_497 : decode cL_law 497 = .ok (.if_icmp .eq 387, 3) := by decide +kernel
theorem dL_law_500 : decode cL_law 500 = .ok (.iconst 0, 1) := by decide +kernel
theorem dL_law_501 : decode cL_law 501 = .ok (.ireturn, 1) := by decide +kernel
theorem dL_law_502 : decode cL_law 502 = .ok (.aload_n 1, 1) := by decide +kernel
theorem dL_law_503 : decode cL_law 503 = .ok (.invokevirtual 73, 3) := by decide +kernel
theorem dL_law_506 : decode cL_law 506 = .ok (.aload_n 2, 1) := by decide +kernel
theorem dL_law_507 : decode cL_law 507 = .ok (.invokevirtual 76, 3) := by decide +kernel
theorem dL_law_510 : decode cL_law 510 = .ok (.if_icmp .eq 374, 3) := by decide +kernel
theorem dL_law_513 : decode cL_law 513 = .ok (.iconst 0, 1) := by decide +kernel
theorem dL_law_514 : decode cL_law 514 = .ok (.ireturn, 1) := by decide +kernel
theorem dL_law_515 : decode cL_law 515 = .ok (.aload_n 1, 1) := by decide +kernel
theorem dL_law_516 : decode cL_law 516 = .ok (.aload_n 0, 1) := by decide +kernel
theorem dL_law_517 : decode cL_law 517 = .ok (.iload_n 3, 1) := by decide +kernel
theorem dL_law_518 : decode cL_law 518 = .ok (.iconst 1, 1) := by decide +kernel
theorem dL_law_519 : decode cL_law 519 = .ok (.iadd, 1) := by decide +kernel
theorem dL_law_520 : decode cL_law 520 = .ok (.iaload, 1) := by decide +kernel
theorem dL_law_521 : decode cL_law 521 = .ok (.aload_n 0, 1) := by decide +kernel
theorem dL_law_522 : decode cL_law 522 = .ok (.iload_n 3, 1) := by decide +kernel
theorem dL_law_523 : decode cL_law 523 = .ok (.iconst 2, 1) := by decide +kernel
theorem dL_law_524 : decode cL_law 524 = .ok (.iadd, 1) := by decide +kernel
theorem dL_law_525 : decode cL_law 525 = .ok (.iaload, 1) := by decide +kernel
theorem dL_law_526 : decode cL_law 526 = .ok (.aload_n 0, 1) := by decide +kernel
theorem dL_law_527 : decode cL_law 527 = .ok (.iload_n 3, 1) := by decide +kernel
theorem dL_law_528 : decode cL_law 528 = .ok (.iconst 3, 1) := by decide +kernel
theorem dL_law_529 : decode cL_law 529 = .ok (.iadd, 1) := by decide +kernel
theorem dL_law_530 : decode cL_law 530 = .ok (.iaload, 1) := by decide +kernel
theorem dL_law_531 : decode cL_law 531 = .ok (.invokevirtual 77, 3) := by decide +kernel
theorem dL_law_534 : decode cL_law 534 = .ok (.aload_n 2, 1) := by decide +kernel
theorem dL_law_535 : decode cL_law 535 = .ok (.aload_n 0, 1) := by decide +kernel
theorem dL_law_536 : decode cL_law 536 = .ok (.iload_n 3, 1) := by decide +kernel
theorem dL_law_537 : decode cL_law 537 = .ok (.iconst 1, 1) := by decide +kernel
theorem dL_law_538 : decode cL_law 538 = .ok (.iadd, 1) := by decide +kernel
theorem dL_law_539 : decode cL_law 539 = .ok (.iaload, 1) := by decide +kernel
theorem dL_law_540 : decode cL_law 540 = .ok (.aload_n 0, 1) := by decide +kernel
theorem dL_law_541 : decode cL_law 541 = .ok (.iload_n 3, 1) := by decide +kernel
theorem dL_law_542 : decode cL_law 542 = .ok (.iconst 2, 1) := by decide +kernel
theorem dL_law_543 : decode cL_law 543 = .ok (.iadd, 1) := by decide +kernel
theorem dL_law_544 : decode cL_law 544 = .ok (.iaload, 1) := by decide +kernel
theorem dL_law_545 : decode cL_law 545 = .ok (.aload_n 0, 1) := by decide +kernel
theorem dL_law_546 : decode cL_law 546 = .ok (.iload_n 3, 1) := by decide +kernel
theorem dL_law_547 : decode cL_law 547 = .ok (.iconst 3, 1) := by decide +kernel
theorem dL_law_548 : decode cL_law 548 = .ok (.iadd, 1) := by decide +kernel
theorem dL_law_549 : decode cL_law 549 = .ok (.iaload, 1) := by decide +kernel
theorem dL_law_550 : decode cL_law 550 = .ok (.invokevirtual 80, 3) := by decide +kernel
theorem dL_law_553 : decode cL_law 553 = .ok (.if_icmp .eq 331, 3) := by decide +kernel
theorem dL_law_556 : decode cL_law 556 = .ok (.iconst 0, 1) := by decide +kernel
theorem dL_law_557 : decode cL_law 557 = .ok (.ireturn, 1) := by decide +kernel
theorem dL_law_558 : decode cL_law 558 = .ok (.aload_n 1, 1) := by decide +kernel
theorem dL_law_559 : decode cL_law 559 = .ok (.aload_n 0, 1) := by decide +kernel
theorem dL_law_560 : decode cL_law 560 = .ok (.iload_n 3, 1) := by decide +kernel
theorem dL_law_561 : decode cL_law 561 = .ok (.iconst 1, 1) := by decide +kernel
theorem dL_law_562 : decode cL_law 562 = .ok (.iadd, 1) := by decide +kernel
theorem dL_law_563 : decode cL_law 563 = .ok (.iaload, 1) := by decide +kernel
theorem dL_law_564 : decode cL_law 564 = .ok (.invokevirtual 81, 3) := by decide +kernel
theorem dL_law_567 : decode cL_law 567 = .ok (.aload_n 2, 1) := by decide +kernel
theorem dL_law_568 : decode cL_law 568 = .ok (.aload_n 0, 1) := by decide +kernel
theorem dL_law_569 : decode cL_law 569 = .ok (.iload_n 3, 1) := by decide +kernel
theorem dL_law_570 : decode cL_law 570 = .ok (.iconst 1, 1) := by decide +kernel
theorem dL_law_571 : decode cL_law 571 = .ok (.iadd, 1) := by decide +kernel
theorem dL_law_572 : decode cL_law 572 = .ok (.iaload, 1) := by decide +kernel
theorem dL_law_573 : decode cL_law 573 = .ok (.invokevirtual 84, 3) := by decide +kernel
theorem dL_law_576 : decode cL_law 576 = .ok (.if_icmp .eq 308, 3) := by decide +kernel
theorem dL_law_579 : decode cL_law 579 = .ok (.iconst 0, 1) := by decide +kernel
theorem dL_law_580 : decode cL_law 580 = .ok (.ireturn, 1) := by decide +kernel
theorem dL_law_581 : decode cL_law 581 = .ok (.aload_n 1, 1) := by decide +kernel
theorem dL_law_582 : decode cL_law 582 = .ok (.aload_n 0, 1) := by decide +kernel
theorem dL_law_583 : decode cL_law 583 = .ok (.iload_n 3, 1) := by decide +kernel
theorem dL_law_584 : decode cL_law 584 = .ok (.iconst 1, 1) := by decide +kernel
theorem dL_law_585 : decode cL_law 585 = .ok (.iadd, 1) := by decide +kernel
theorem dL_law_586 : decode cL_law 586 = .ok (.iaload, 1) := by decide +kernel
theorem dL_law_587 : decode cL_law 587 = .ok (.aload_n 0, 1) := by decide +kernel
theorem dL_law_588 : decode cL_law 588 = .ok (.iload_n 3, 1) := by decide +kernel
theorem dL_law_589 : decode cL_law 589 = .ok (.iconst 2, 1) := by decide +kernel
theorem dL_law_590 : decode cL_law 590 = .ok (.iadd, 1) := by decide +kernel
theorem dL_law_591 : decode cL_law 591 = .ok (.iaload, 1) := by decide +kernel
theorem dL_law_592 : decode cL_law 592 = .ok (.invokevirtual 85, 3) := by decide +kernel
theorem dL_law_595 : decode cL_law 595 = .ok (.aload_n 2, 1) := by decide +kernel
theorem dL_law_596 : decode cL_law 596 = .ok (.aload_n 0, 1) := by decide +kernel
theorem dL_law_597 : decode cL_law 597 = .ok (.iload_n 3, 1) := by decide +kernel
theorem dL_law_598 : decode cL_law 598 = .ok (.iconst 1, 1) := by decide +kernel
theorem dL_law_599 : decode cL_law 599 = .ok (.iadd, 1) := by decide +kernel
theorem dL_law_600 : decode cL_law 600 = .ok (.iaload, 1) := by decide +kernel
theorem dL_law_601 : decode cL_law 601 = .ok (.aload_n 0, 1) := by decide +kernel
theorem dL_law_602 : decode cL_law 602 = .ok (.iload_n 3, 1) := by decide +kernel
theorem dL_law_603 : decode cL_law 603 = .ok (.iconst 2, 1) := by decide +kernel
theorem dL_law_604 : decode cL_law 604 = .ok (.iadd, 1) := by decide +kernel
theorem dL_law_605 : decode cL_law 605 = .ok (.iaload, 1) := by decide +kernel
theorem dL_law_606 : decode cL_law 606 = .ok (.invokevirtual 88, 3) := by decide +kernel
theorem dL_law_609 : decode cL_law 609 = .ok (.if_icmp .eq 275, 3) := by decide +kernel
theorem dL_law_612 : decode cL_law 612 = .ok (.iconst 0, 1) := by decide +kernel
theorem dL_law_613 : decode cL_law 613 = .ok (.ireturn, 1) := by decide +kernel
theorem dL_law_614 : decode cL_law 614 = .ok (.aload_n 1, 1) := by decide +kernel
theorem dL_law_615 : decode cL_law 615 = .ok (.aload_n 0, 1) := by decide +kernel
theorem dL_law_616 : decode cL_law 616 = .ok (.iload_n 3, 1) := by decide +kernel
theorem dL_law_617 : decode cL_law 617 = .ok (.iconst 1, 1) := by decide +kernel
theorem dL_law_618 : decode cL_law 618 = .ok (.iadd, 1) := by decide +kernel
theorem dL_law_619 : decode cL_law 619 = .ok (.iaload, 1) := by decide +kernel
theorem dL_law_620 : decode cL_law 620 = .ok (.invokevirtual 89, 3) := by decide +kernel
theorem dL_law_623 : decode cL_law 623 = .ok (.aload_n 2, 1) := by decide +kernel
theorem dL_law_624 : decode cL_law 624 = .ok (.aload_n 0, 1) := by decide +kernel
theorem dL_law_625 : decode cL_law 625 = .ok (.iload_n 3, 1) := by decide +kernel
theorem dL_law_626 : decode cL_law 626 = .ok (.iconst 1, 1) := by decide +kernel
theorem dL_law_627 : decode cL_law 627 = .ok (.iadd, 1) := by decide +kernel
theorem dL_law_628 : decode cL_law 628 = .ok (.iaload, 1) := by decide +kernel
theorem dL_law_629 : decode cL_law 629 = .ok (.invokevirtual 92, 3) := by decide +kernel
theorem dL_law_632 : decode cL_law 632 = .ok (.if_icmp .eq 252, 3) := by decide +kernel
theorem dL_law_635 : decode cL_law 635 = .ok (.iconst 0, 1) := by decide +kernel
theorem dL_law_636 : decode cL_law 636 = .ok (.ireturn, 1) := by decide +kernel
theorem dL_law_637 : decode cL_law 637 = .ok (.aload_n 1, 1) := by decide +kernel
theorem dL_law_638 : decode cL_law 638 = .ok (.aload_n 0, 1) := by decide +kernel
theorem dL_law_639 : decode cL_law 639 = .ok (.iload_n 3, 1) := by decide +kernel
theorem dL_law_640 : decode cL_law 640 = .ok (.iconst 1, 1) := by decide +kernel
theorem dL_law_641 : decode cL_law 641 = .ok (.iadd, 1) := by decide +kernel
theorem dL_law_642 : decode cL_law 642 = .ok (.iaload, 1) := by decide +kernel
theorem dL_law_643 : decode cL_law 643 = .ok (.aload_n 0, 1) := by decide +kernel
theorem dL_law_644 : decode cL_law 644 = .ok (.iload_n 3, 1) := by decide +kernel
theorem dL_law_645 : decode cL_law 645 = .ok (.iconst 2, 1) := by decide +kernel
theorem dL_law_646 : decode cL_law 646 = .ok (.iadd, 1) := by decide +kernel
theorem dL_law_647 : decode cL_law 647 = .ok (.iaload, 1) := by decide +kernel
theorem dL_law_648 : decode cL_law 648 = .ok (.invokevirtual 93, 3) := by decide +kernel
theorem dL_law_651 : decode cL_law 651 = .ok (.aload_n 2, 1) := by decide +kernel
theorem dL_law_652 : decode cL_law 652 = .ok (.aload_n 0, 1) := by decide +kernel
theorem dL_law_653 : decode cL_law 653 = .ok (.iload_n 3, 1) := by decide +kernel
theorem dL_law_654 : decode cL_law 654 = .ok (.iconst 1, 1) := by decide +kernel
theorem dL_law_655 : decode cL_law 655 = .ok (.iadd, 1) := by decide +kernel
theorem dL_law_656 : decode cL_law 656 = .ok (.iaload, 1) := by decide +kernel
theorem dL_law_657 : decode cL_law 657 = .ok (.aload_n 0, 1) := by decide +kernel
theorem dL_law_658 : decode cL_law 658 = .ok (.iload_n 3, 1) := by decide +kernel
theorem dL_law_659 : decode cL_law 659 = .ok (.iconst 2, 1) := by decide +kernel
theorem dL_law_660 : decode cL_law 660 = .ok (.iadd, 1) := by decide +kernel
theorem dL_law_661 : decode cL_law 661 = .ok (.iaload, 1) := by decide +kernel
theorem dL_law_662 : decode cL_law 662 = .ok (.invokevirtual 96, 3) := by decide +kernel
theorem dL_law_665 : decode cL_law 665 = .ok (.if_icmp .eq 219, 3) := by decide +kernel
theorem dL_law_668 : decode cL_law 668 = .ok (.iconst 0, 1) := by decide +kernel
theorem dL_law_669 : decode cL_law 669 = .ok (.ireturn, 1) := by decide +kernel
theorem dL_law_670 : decode cL_law 670 = .ok (.aload_n 1, 1) := by decide +kernel
theorem dL_law_671 : decode cL_law 671 = .ok (.aload_n 0, 1) := by decide +kernel
theorem dL_law_672 : decode cL_law 672 = .ok (.iload_n 3, 1) := by decide +kernel
theorem dL_law_673 : decode cL_law 673 = .ok (.iconst 1, 1) := by decide +kernel
theorem dL_law_674 : decode cL_law 674 = .ok (.iadd, 1) := by decide +kernel
theorem dL_law_675 : decode cL_law 675 = .ok (.iaload, 1) := by decide +kernel
theorem dL_law_676 : decode cL_law 676 = .ok (.aload_n 0, 1) := by decide +kernel
theorem dL_law_677 : decode cL_law 677 = .ok (.iload_n 3, 1) := by decide +kernel
theorem dL_law_678 : decode cL_law 678 = .ok (.iconst 2, 1) := by decide +kernel
theorem dL_law_679 : decode cL_law 679 = .ok (.iadd, 1) := by decide +kernel
theorem dL_law_680 : decode cL_law 680 = .ok (.iaload, 1) := by decide +kernel
theorem dL_law_681 : decode cL_law 681 = .ok (.invokevirtual 97, 3) := by decide +kernel
theorem dL_law_684 : decode cL_law 684 = .ok (.aload_n 2, 1) := by decide +kernel
theorem dL_law_685 : decode cL_law 685 = .ok (.aload_n 0, 1) := by decide +kernel
theorem dL_law_686 : decode cL_law 686 = .ok (.iload_n 3, 1) := by decide +kernel
theorem dL_law_687 : decode cL_law 687 = .ok (.iconst 1, 1) := by decide +kernel
theorem dL_law_688 : decode cL_law 688 = .ok (.iadd, 1) := by decide +kernel
theorem dL_law_689 : decode cL_law 689 = .ok (.iaload, 1) := by decide +kernel
theorem dL_law_690 : decode cL_law 690 = .ok (.aload_n 0, 1) := by decide +kernel
theorem dL_law_691 : decode cL_law 691 = .ok (.iload_n 3, 1) := by decide +kernel
theorem dL_law_692 : decode cL_law 692 = .ok (.iconst 2, 1) := by decide +kernel
theorem dL_law_693 : decode cL_law 693 = .ok (.iadd, 1) := by decide +kernel
theorem dL_law_694 : decode cL_law 694 = .ok (.iaload, 1) := by decide +kernel
theorem dL_law_695 : decode cL_law 695 = .ok (.invokevirtual 100, 3) := by decide +kernel
theorem dL_law_698 : decode cL_law 698 = .ok (.if_icmp .eq 186, 3) := by decide +kernel
theorem dL_law_701 : decode cL_law 701 = .ok (.iconst 0, 1) := by decide +kernel
theorem dL_law_702 : decode cL_law 702 = .ok (.ireturn, 1) := by decide +kernel
theorem dL_law_703 : decode cL_law 703 = .ok (.aload_n 1, 1) := by decide +kernel
theorem dL_law_704 : decode cL_law 704 = .ok (.invokevirtual 101, 3) := by decide +kernel
theorem dL_law_707 : decode cL_law 707 = .ok (.aload_n 2, 1) := by decide +kernel
theorem dL_law_708 : decode cL_law 708 = .ok (.invokevirtual 104, 3) := by decide +kernel
theorem dL_law_711 : decode cL_law 711 = .ok (.if_icmp .eq 173, 3) := by decide +kernel
theorem dL_law_714 : decode cL_law 714 = .ok (.iconst 0, 1) := by decide +kernel
theorem dL_law_715 : decode cL_law 715 = .ok (.ireturn, 1) := by decide +kernel
theorem dL_law_716 : decode cL_law 716 = .ok (.aload_n 1, 1) := by decide +kernel
theorem dL_law_717 : decode cL_law 717 = .ok (.aload_n 0, 1) := by decide +kernel
theorem dL_law_718 : decode cL_law 718 = .ok (.iload_n 3, 1) := by decide +kernel
theorem dL_law_719 : decode cL_law 719 = .ok (.iconst 1, 1) := by decide +kernel
theorem dL_law_720 : decode cL_law 720 = .ok (.iadd, 1) := by decide +kernel
theorem dL_law_721 : decode cL_law 721 = .ok (.iaload, 1) := by decide +kernel
theorem dL_law_722 : decode cL_law 722 = .ok (.invokevirtual 105, 3) := by decide +kernel
theorem dL_law_725 : decode cL_law 725 = .ok (.aload_n 2, 1) := by decide +kernel
theorem dL_law_726 : decode cL_law 726 = .ok (.aload_n 0, 1) := by decide +kernel
theorem dL_law_727 : decode cL_law 727 = .ok (.iload_n 3, 1) := by decide +kernel
theorem dL_law_728 : decode cL_law 728 = .ok (.iconst 1, 1) := by decide +kernel
theorem dL_law_729 : decode cL_law 729 = .ok (.iadd, 1) := by decide +kernel
theorem dL_law_730 : decode cL_law 730 = .ok (.iaload, 1) := by decide +kernel
theorem dL_law_731 : decode cL_law 731 = .ok (.invokevirtual 108, 3) := by decide +kernel
theorem dL_law_734 : decode cL_law 734 = .ok (.if_icmp .eq 150, 3) := by decide +kernel
theorem dL_law_737 : decode cL_law 737 = .ok (.iconst 0, 1) := by decide +kernel
theorem dL_law_738 : decode cL_law 738 = .ok (.ireturn, 1) := by decide +kernel
theorem dL_law_739 : decode cL_law 739 = .ok (.aload_n 1, 1) := by decide +kernel
theorem dL_law_740 : decode cL_law 740 = .ok (.aload_n 0, 1) := by decide +kernel
theorem dL_law_741 : decode cL_law 741 = .ok (.iload_n 3, 1) := by decide +kernel
theorem dL_law_742 : decode cL_law 742 = .ok (.iconst 1, 1) := by decide +kernel
theorem dL_law_743 : decode cL_law 743 = .ok (.iadd, 1) := by decide +kernel
theorem dL_law_744 : decode cL_law 744 = .ok (.iaload, 1) := by decide +kernel
theorem dL_law_745 : decode cL_law 745 = .ok (.aload_n 0, 1) := by decide +kernel
theorem dL_law_746 : decode cL_law 746 = .ok (.iload_n 3, 1) := by decide +kernel
theorem dL_law_747 : decode cL_law 747 = .ok (.iconst 2, 1) := by decide +kernel
theorem dL_law_748 : decode cL_law 748 = .ok (.iadd, 1) := by decide +kernel
theorem dL_law_749 : decode cL_law 749 = .ok (.iaload, 1) := by decide +kernel
theorem dL_law_750 : decode cL_law 750 = .ok (.aload_n 0, 1) := by decide +kernel
theorem dL_law_751 : decode cL_law 751 = .ok (.iload_n 3, 1) := by decide +kernel
theorem dL_law_752 : decode cL_law 752 = .ok (.iconst 3, 1) := by decide +kernel
theorem dL_law_753 : decode cL_law 753 = .ok (.iadd, 1) := by decide +kernel
theorem dL_law_754 : decode cL_law 754 = .ok (.iaload, 1) := by decide +kernel
theorem dL_law_755 : decode cL_law 755 = .ok (.invokevirtual 109, 3) := by decide +kernel
theorem dL_law_758 : decode cL_law 758 = .ok (.aload_n 2, 1) := by decide +kernel
theorem dL_law_759 : decode cL_law 759 = .ok (.aload_n 0, 1) := by decide +kernel
theorem dL_law_760 : decode cL_law 760 = .ok (.iload_n 3, 1) := by decide +kernel
theorem dL_law_761 : decode cL_law 761 = .ok (.iconst 1, 1) := by decide +kernel
theorem dL_law_762 : decode cL_law 762 = .ok (.iadd, 1) := by decide +kernel
theorem dL_law_763 : decode cL_law 763 = .ok (.iaload, 1) := by decide +kernel
theorem dL_law_764 : decode cL_law 764 = .ok (.aload_n 0, 1) := by decide +kernel
theorem dL_law_765 : decode cL_law 765 = .ok (.iload_n 3, 1) := by decide +kernel
theorem dL_law_766 : decode cL_law 766 = .ok (.iconst 2, 1) := by decide +kernel
theorem dL_law_767 : decode cL_law 767 = .ok (.iadd, 1) := by decide +kernel
theorem dL_law_768 : decode cL_law 768 = .ok (.iaload, 1) := by decide +kernel
theorem dL_law_769 : decode cL_law 769 = .ok (.aload_n 0, 1) := by decide +kernel
theorem dL_law_770 : decode cL_law 770 = .ok (.iload_n 3, 1) := by decide +kernel
theorem dL_law_771 : decode cL_law 771 = .ok (.iconst 3, 1) := by decide +kernel
theorem dL_law_772 : decode cL_law 772 = .ok (.iadd, 1) := by decide +kernel
theorem dL_law_773 : decode cL_law 773 = .ok (.iaload, 1) := by decide +kernel
theorem dL_law_774 : decode cL_law 774 = .ok (.invokevirtual 112, 3) := by decide +kernel
theorem dL_law_777 : decode cL_law 777 = .ok (.if_icmp .eq 107, 3) := by decide +kernel
theorem dL_law_780 : decode cL_law 780 = .ok (.iconst 0, 1) := by decide +kernel
theorem dL_law_781 : decode cL_law 781 = .ok (.ireturn, 1) := by decide +kernel
theorem dL_law_782 : decode cL_law 782 = .ok (.aload_n 1, 1) := by decide +kernel
theorem dL_law_783 : decode cL_law 783 = .ok (.aload_n 0, 1) := by decide +kernel
theorem dL_law_784 : decode cL_law 784 = .ok (.iload_n 3, 1) := by decide +kernel
theorem dL_law_785 : decode cL_law 785 = .ok (.iconst 1, 1) := by decide +kernel
theorem dL_law_786 : decode cL_law 786 = .ok (.iadd, 1) := by decide +kernel
theorem dL_law_787 : decode cL_law 787 = .ok (.iaload, 1) := by decide +kernel
theorem dL_law_788 : decode cL_law 788 = .ok (.aload_n 0, 1) := by decide +kernel
theorem dL_law_789 : decode cL_law 789 = .ok (.iload_n 3, 1) := by decide +kernel
theorem dL_law_790 : decode cL_law 790 = .ok (.iconst 2, 1) := by decide +kernel
theorem dL_law_791 : decode cL_law 791 = .ok (.iadd, 1) := by decide +kernel
theorem dL_law_792 : decode cL_law 792 = .ok (.iaload, 1) := by decide +kernel
theorem dL_law_793 : decode cL_law 793 = .ok (.aload_n 0, 1) := by decide +kernel
theorem dL_law_794 : decode cL_law 794 = .ok (.iload_n 3, 1) := by decide +kernel
theorem dL_law_795 : decode cL_law 795 = .ok (.iconst 3, 1) := by decide +kernel
theorem dL_law_796 : decode cL_law 796 = .ok (.iadd, 1) := by decide +kernel
theorem dL_law_797 : decode cL_law 797 = .ok (.iaload, 1) := by decide +kernel
theorem dL_law_798 : decode cL_law 798 = .ok (.aload_n 0, 1) := by decide +kernel
theorem dL_law_799 : decode cL_law 799 = .ok (.iload_n 3, 1) := by decide +kernel
theorem dL_law_800 : decode cL_law 800 = .ok (.iconst 4, 1) := by decide +kernel
theorem dL_law_801 : decode cL_law 801 = .ok (.iadd, 1) := by decide +kernel
theorem dL_law_802 : decode cL_law 802 = .ok (.iaload, 1) := by decide +kernel
theorem dL_law_803 : decode cL_law 803 = .ok (.invokevirtual 113, 3) := by decide +kernel
theorem dL_law_806 : decode cL_law 806 = .ok (.aload_n 2, 1) := by decide +kernel
theorem dL_law_807 : decode cL_law 807 = .ok (.aload_n 0, 1) := by decide +kernel
theorem dL_law_808 : decode cL_law 808 = .ok (.iload_n 3, 1) := by decide +kernel
theorem dL_law_809 : decode cL_law 809 = .ok (.iconst 1, 1) := by decide +kernel
theorem dL_law_810 : decode cL_law 810 = .ok (.iadd, 1) := by decide +kernel
theorem dL_law_811 : decode cL_law 811 = .ok (.iaload, 1) := by decide +kernel
theorem dL_law_812 : decode cL_law 812 = .ok (.aload_n 0, 1) := by decide +kernel
theorem dL_law_813 : decode cL_law 813 = .ok (.iload_n 3, 1) := by decide +kernel
theorem dL_law_814 : decode cL_law 814 = .ok (.iconst 2, 1) := by decide +kernel
theorem dL_law_815 : decode cL_law 815 = .ok (.iadd, 1) := by decide +kernel
theorem dL_law_816 : decode cL_law 816 = .ok (.iaload, 1) := by decide +kernel
theorem dL_law_817 : decode cL_law 817 = .ok (.aload_n 0, 1) := by decide +kernel
theorem dL_law_818 : decode cL_law 818 = .ok (.iload_n 3, 1) := by decide +kernel
theorem dL_law_819 : decode cL_law 819 = .ok (.iconst 3, 1) := by decide +kernel
theorem dL_law_820 : decode cL_law 820 = .ok (.iadd, 1) := by decide +kernel
theorem dL_law_821 : decode cL_law 821 = .ok (.iaload, 1) := by decide +kernel
theorem dL_law_822 : decode cL_law 822 = .ok (.aload_n 0, 1) := by decide +kernel
theorem dL_law_823 : decode cL_law 823 = .ok (.iload_n 3, 1) := by decide +kernel
theorem dL_law_824 : decode cL_law 824 = .ok (.iconst 4, 1) := by decide +kernel
theorem dL_law_825 : decode cL_law 825 = .ok (.iadd, 1) := by decide +kernel
theorem dL_law_826 : decode cL_law 826 = .ok (.iaload, 1) := by decide +kernel
theorem dL_law_827 : decode cL_law 827 = .ok (.invokevirtual 117, 3) := by decide +kernel
theorem dL_law_830 : decode cL_law 830 = .ok (.if_icmp .eq 54, 3) := by decide +kernel
theorem dL_law_833 : decode cL_law 833 = .ok (.iconst 0, 1) := by decide +kernel
theorem dL_law_834 : decode cL_law 834 = .ok (.ireturn, 1) := by decide +kernel
theorem dL_law_835 : decode cL_law 835 = .ok (.aload_n 1, 1) := by decide +kernel
theorem dL_law_836 : decode cL_law 836 = .ok (.invokevirtual 118, 3) := by decide +kernel
theorem dL_law_839 : decode cL_law 839 = .ok (.aload_n 2, 1) := by decide +kernel
theorem dL_law_840 : decode cL_law 840 = .ok (.invokevirtual 121, 3) := by decide +kernel
theorem dL_law_843 : decode cL_law 843 = .ok (.if_icmp .eq 41, 3) := by decide +kernel
theorem dL_law_846 : decode cL_law 846 = .ok (.iconst 0, 1) := by decide +kernel
theorem dL_law_847 : decode cL_law 847 = .ok (.ireturn, 1) := by decide +kernel
theorem dL_law_848 : decode cL_law 848 = .ok (.aload_n 1, 1) := by decide +kernel
theorem dL_law_849 : decode cL_law 849 = .ok (.invokevirtual 122, 3) := by decide +kernel
theorem dL_law_852 : decode cL_law 852 = .ok (.aload_n 2, 1) := by decide +kernel
theorem dL_law_853 : decode cL_law 853 = .ok (.invokevirtual 125, 3) := by decide +kernel
theorem dL_law_856 : decode cL_law 856 = .ok (.if_icmp .eq 28, 3) := by decide +kernel
theorem dL_law_859 : decode cL_law 859 = .ok (.iconst 0, 1) := by decide +kernel
theorem dL_law_860 : decode cL_law 860 = .ok (.ireturn, 1) := by decide +kernel
theorem dL_law_861 : decode cL_law 861 = .ok (.aload_n 1, 1) := by decide +kernel
theorem dL_law_862 : decode cL_law 862 = .ok (.aload_n 0, 1) := by decide +kernel
theorem dL_law_863 : decode cL_law 863 = .ok (.iload_n 3, 1) := by decide +kernel
theorem dL_law_864 : decode cL_law 864 = .ok (.iconst 1, 1) := by decide +kernel
theorem dL_law_865 : decode cL_law 865 = .ok (.iadd, 1) := by decide +kernel
theorem dL_law_866 : decode cL_law 866 = .ok (.iaload, 1) := by decide +kernel
theorem dL_law_867 : decode cL_law 867 = .ok (.invokevirtual 126, 3) := by decide +kernel
theorem dL_law_870 : decode cL_law 870 = .ok (.aload_n 2, 1) := by decide +kernel
theorem dL_law_871 : decode cL_law 871 = .ok (.aload_n 0, 1) := by decide +kernel
theorem dL_law_872 : decode cL_law 872 = .ok (.iload_n 3, 1) := by decide +kernel
theorem dL_law_873 : decode cL_law 873 = .ok (.iconst 1, 1) := by decide +kernel
theorem dL_law_874 : decode cL_law 874 = .ok (.iadd, 1) := by decide +kernel
theorem dL_law_875 : decode cL_law 875 = .ok (.iaload, 1) := by decide +kernel
theorem dL_law_876 : decode cL_law 876 = .ok (.invokevirtual 129, 3) := by decide +kernel
theorem dL_law_879 : decode cL_law 879 = .ok (.if_icmp .eq 5, 3) := by decide +kernel
theorem dL_law_882 : decode cL_law 882 = .ok (.iconst 0, 1) := by decide +kernel
theorem dL_law_883 : decode cL_law 883 = .ok (.ireturn, 1) := by decide +kernel
theorem dL_law_884 : decode cL_law 884 = .ok (.iinc 3 5, 3) := by decide +kernel
theorem dL_law_887 : decode cL_law 887 = .ok (.goto (-869), 3) := by decide +kernel
theorem dL_law_890 : decode cL_law 890 = .ok (.iconst 1, 1) := by decide +kernel
theorem dL_law_891 : decode cL_law 891 = .ok (.ireturn, 1) := by decide +kernel
