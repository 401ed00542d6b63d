theorem dX10_init_0 : decode cX10_init 0 = .ok (.aload_n 0, 1) := by decide +kernel
theorem dX10_init_1 : decode cX10_init 1 = .ok (.invokespecial 1, 3) := by decide +kernel
theorem dX10_init_4 : decode cX10_init 4 = .ok (.aload_n 0, 1) := by decide +kernel
theorem dX10_init_5 : decode cX10_init 5 = .ok (.sipush 213, 3) := by decide +kernel
theorem dX10_init_8 : decode cX10_init 8 = .ok (.newarray .int, 2) := by decide +kernel
theorem dX10_init_10 : decode cX10_init 10 = .ok (.putfield 7, 3) := by decide +kernel
theorem dX10_init_13 : decode cX10_init 13 = .ok (.aload_n 0, 1) := by decide +kernel
theorem dX10_init_14 : decode cX10_init 14 = .ok (.sipush 213, 3) := by decide +kernel
theorem dX10_init_17 : decode cX10_init 17 = .ok (.newarray .int, 2) := by decide +kernel
theorem dX10_init_19 : decode cX10_init 19 = .ok (.putfield 13, 3) := by decide +kernel
theorem dX10_init_22 : decode cX10_init 22 = .ok (.aload_n 0, 1) := by decide +kernel
theorem dX10_init_23 : decode cX10_init 23 = .ok (.sipush 213, 3) := by decide +kernel
theorem dX10_init_26 : decode cX10_init 26 = .ok (.newarray .int, 2) := by decide +kernel
theorem dX10_init_28 : decode cX10_init 28 = .ok (.putfield 16, 3) := by decide +kernel
theorem dX10_init_31 : decode cX10_init 31 = .ok (.aload_n 0, 1) := by decide +kernel
theorem dX10_init_32 : decode cX10_init 32 = .ok (.sipush 213, 3) := by decide +kernel
theorem dX10_init_35 : decode cX10_init 35 = .ok (.newarray .int, 2) := by decide +kernel
theorem dX10_init_37 : decode cX10_init 37 = .ok (.putfield 19, 3) := by decide +kernel
theorem dX10_init_40 : decode cX10_init 40 = .ok (.aload_n 0, 1) := by decide +kernel
theorem dX10_init_41 : decode cX10_init 41 = .ok (.bipush 6, 2) := by decide +kernel
theorem dX10_init_43 : decode cX10_init 43 = .ok (.newarray .int, 2) := by decide +kernel
theorem dX10_init_45 : decode cX10_init 45 = .ok (.putfield 22, 3) := by decide +kernel
theorem dX10_init_48 : decode cX10_init 48 = .ok (.aload_n 0, 1) := by decide +kernel
theorem dX10_init_49 : decode cX10_init 49 = .ok (.iconst 4, 1) := by decide +kernel
theorem dX10_init_50 : decode cX10_init 50 = .ok (.newarray .int, 2) := by decide +kernel
theorem dX10_init_52 : decode cX10_init 52 = .ok (.putfield 25, 3) := by decide +kernel
theorem dX10_init_55 : decode cX10_init 55 = .ok (.aload_n 0, 1) := by decide +kernel
theorem dX10_init_56 : decode cX10_init 56 = .ok (.iconst 4, 1) := by decide +kernel
theorem dX10_init_57 : decode cX10_init 57 = .ok (.newarray .int, 2) := by decide +kernel
theorem dX10_init_59 : decode cX10_init 59 = .ok (.putfield 28, 3) := by decide +kernel
theorem dX10_init_62 : decode cX10_init 62 = .ok (.aload_n 0, 1) := by decide +kernel
theorem dX10_init_63 : decode cX10_init 63 = .ok (.sipush 160, 3) := by decide +kernel
theorem dX10_init_66 : decode cX10_init 66 = .ok (.newarray .int, 2) := by decide +kernel
theorem dX10_init_68 : decode cX10_init 68 = .ok (.putfield 31, 3) := by decide +kernel
theorem dX10_init_71 : decode cX10_init 71 = .ok (.aload_n 0, 1) := by decide +kernel
theorem dX10_init_72 : decode cX10_init 72 = .ok (.bipush 40, 2) := by decide +kernel
theorem dX10_init_74 : decode cX10_init 74 = .ok (.newarray .int, 2) := by decide +kernel
theorem dX10_init_76 : decode cX10_init 76 = .ok (.putfield 34, 3) := by decide +kernel
theorem dX10_init_79 : decode cX10_init 79 = .ok (.aload_n 0, 1) := by decide +kernel
theorem dX10_init_80 : decode cX10_init 80 = .ok (.bipush 30, 2) := by decide +kernel
theorem dX10_init_82 : decode cX10_init 82 = .ok (.newarray .int, 2) := by decide +kernel
theorem dX10_init_84 : decode cX10_init 84 = .ok (.putfield 37, 3) := by decide +kernel
theorem dX10_init_87 : decode cX10_init 87 = .ok (.aload_n 0, 1) := by decide +kernel
theorem dX10_init_88 : decode cX10_init 88 = .ok (.bipush 40, 2) := by decide +kernel
theorem dX10_init_90 : decode cX10_init 90 = .ok (.newarray .int, 2) := by decide +kernel
theorem dX10_init_92 : decode cX10_init 92 = .ok (.putfield 40, 3) := by decide +kernel
theorem dX10_init_95 : decode cX10_init 95 = .ok (.aload_n 0, 1) := by decide +kernel
theorem dX10_init_96 : decode cX10_init 96 = .ok (.getfield 7, 3) := by decide +kernel
theorem dX10_init_99 : decode cX10_init 99 = .ok (.iconst 1, 1) := by decide +kernel
theorem dX10_init_100 : decode cX10_init 100 = .ok (.iconst 1, 1) := by decide +kernel
theorem dX10_init_101 : decode cX10_init 101 = .ok (.iastore, 1) := by decide +kernel
theorem dX10_init_102 : decode cX10_init 102 = .ok (.aload_n 0, 1) := by decide +kernel
theorem dX10_init_103 : decode cX10_init 103 = .ok (.getfield 7, 3) := by decide +kernel
theorem dX10_init_106 : decode cX10_init 106 = .ok (.bipush 8, 2) := by decide +kernel
theorem dX10_init_108 : decode cX10_init 108 = .ok (.iconst 4, 1) := by decide +kernel
theorem dX10_init_109 : decode cX10_init 109 = .ok (.iastore, 1) := by decide +kernel
theorem dX10_init_110 : decode cX10_init 110 = .ok (.aload_n 0, 1) := by decide +kernel
theorem dX10_init_111 : decode cX10_init 111 = .ok (.getfield 7, 3) := by decide +kernel
theorem dX10_init_114 : decode cX10_init 114 = .ok (.bipush 12, 2) := by decide +kernel
theorem dX10_init_116 : decode cX10_init 116 = .ok (.iconst 3, 1) := by decide +kernel
theorem dX10_init_117 : decode cX10_init 117 = .ok (.iastore, 1) := by decide +kernel
theorem dX10_init_118 : decode cX10_init 118 = .ok (.aload_n 0, 1) := by decide +kernel
theorem dX10_init_119 : decode cX10_init 119 = .ok (.getfield 7, 3) := by decide +kernel
theorem dX10_init_122 : decode cX10_init 122 = .ok (.iconst 5, 1) := by decide +kernel
theorem dX10_init_123 : decode cX10_init 123 = .ok (.iconst (-1), 1) := by decide +kernel
theorem dX10_init_124 : decode cX10_init 124 = .ok (.iastore, 1) := by decide +kernel
theorem dX10_init_125 : decode cX10_init 125 = .ok (.aload_n 0, 1) := by decide +kernel
theorem dX10_init_126 : decode cX10_init 126 = .ok (.getfield 7, 3) := by decide +kernel
theorem dX10_init_129 : decode cX10_init 129 = .ok (.bipush 6, 2) := by decide +kernel
theorem dX10_init_131 : decode cX10_init 131 = .ok (.iconst (-1), 1) := by decide +kernel
theorem dX10_init_132 : decode cX10_init 132 = .ok (.iastore, 1) := by decide +kernel
theorem dX10_init_133 : decode cX10_init 133 = .ok (.return_, 1) := by decide +kernel
theorem dX10_in_0 : decode cX10_in 0 = .ok (.iload_n 0, 1) := by decide +kernel
theorem dX10_in_1 : decode cX10_in 1 = .ok (.iload_n 1, 1) := by decide +kernel
theorem dX10_in_2 : decode cX10_in 2 = .ok (.if_icmp .lt 12, 3) := by decide +kernel
theorem dX10_in_5 : decode cX10_in 5 = .ok (.iload_n 0, 1) := by decide +kernel
theorem dX10_in_6 : decode cX10_in 6 = .ok (.iload_n 2, 1) := by decide +kernel
theorem dX10_in_7 : decode cX10_in 7 = .ok (.if_icmp .gt 7, 3) := by decide +kernel
theorem dX10_in_10 : decode cX10_in 10 = .ok (.iconst 1, 1) := by decide +kernel
theorem dX10_in_11 : decode cX10_in 11 = .ok (.goto 4, 3) := by decide +kernel
theorem dX10_in_14 : decode cX10_in 14 = .ok (.iconst 0, 1) := by decide +kernel
theorem dX10_in_15 : decode cX10_in 15 = .ok (.ireturn, 1) := by decide +kernel
theorem dX10_errs_0 : decode cX10_errs 0 = .ok (.aload_n 0, 1) := by decide +kernel
theorem dX10_errs_1 : decode cX10_errs 1 = .ok (.getfield 22, 3) := by decide +kernel
theorem dX10_errs_4 : decode cX10_errs 4 = .ok (.ldc 43, 2) := by decide +kernel
theorem dX10_errs_6 : decode cX10_errs 6 = .ok (.iload_n 1, 1) := by decide +kernel
theorem dX10_errs_7 : decode cX10_errs 7 = .ok (.isub, 1) := by decide +kernel
theorem dX10_errs_8 : decode cX10_errs 8 = .ok (.dup2, 1) := by decide +kernel
theorem dX10_errs_9 : decode cX10_errs 9 = .ok (.iaload, 1) := by decide +kernel
theorem dX10_errs_10 : decode cX10_errs 10 = .ok (.iconst 1, 1) := by decide +kernel
theorem dX10_errs_11 : decode cX10_errs 11 = .ok (.iadd, 1) := by decide +kernel
theorem dX10_errs_12 : decode cX10_errs 12 = .ok (.iastore, 1) := by decide +kernel
theorem dX10_errs_13 : decode cX10_errs 13 = .ok (.iload_n 1, 1) := by decide +kernel
theorem dX10_errs_14 : decode cX10_errs 14 = .ok (.ireturn, 1) := by decide +kernel
theorem dX10_held_0 : decode cX10_held 0 = .ok (.iload_n 0, 1) := by decide +kernel
theorem dX10_held_1 : decode cX10_held 1 = .ok (.iload_n 1, 1) := by decide +kernel
theorem dX10_held_2 : decode cX10_held 2 = .ok (.if_icmp .ge 7, 3) := by decide +kernel
theorem dX10_held_5 : decode cX10_held 5 = .ok (.iload_n 1, 1) := by decide +kernel
theorem dX10_held_6 : decode cX10_held 6 = .ok (.goto 13, 3) := by decide +kernel
theorem dX10_held_9 : decode cX10_held 9 = .ok (.iload_n 0, 1) := by decide +kernel
theorem dX10_held_10 : decode cX10_held 10 = .ok (.iload_n 2, 1) := by decide +kernel
theorem dX10_held_11 : decode cX10_held 11 = .ok (.if_icmp .le 7, 3) := by decide +kernel
theorem dX10_held_14 : decode cX10_held 14 = .ok (.iload_n 2, 1) := by decide +kernel
theorem dX10_held_15 : decode cX10_held 15 = .ok (.goto 4, 3) := by decide +kernel
theorem dX10_held_18 : decode cX10_held 18 = .ok (.iload_n 0, 1) := by decide +kernel
theorem dX10_held_19 : decode cX10_held 19 = .ok (.ireturn, 1) := by decide +kernel
theorem dX10_moveAll_0 : decode cX10_moveAll 0 = .ok (.iconst 0, 1) := by decide +kernel
theorem dX10_moveAll_1 : decode cX10_moveAll 1 = .ok (.istore_n 3, 1) := by decide +kernel
theorem dX10_moveAll_2 : decode cX10_moveAll 2 = .ok (.iload_n 3, 1) := by decide +kernel
theorem dX10_moveAll_3 : decode cX10_moveAll 3 = .ok (.sipush 213, 3) := by decide +kernel
theorem dX10_moveAll_6 : decode cX10_moveAll 6 = .ok (.if_icmp .ge 15, 3) := by decide +kernel
theorem dX10_moveAll_9 : decode cX10_moveAll 9 = .ok (.aload_n 2, 1) := by decide +kernel
theorem dX10_moveAll_10 : decode cX10_moveAll 10 = .ok (.iload_n 3, 1) := by decide +kernel
theorem dX10_moveAll_11 : decode cX10_moveAll 11 = .ok (.aload_n 1, 1) := by decide +kernel
theorem dX10_moveAll_12 : decode cX10_moveAll 12 = .ok (.iload_n 3, 1) := by decide +kernel
theorem dX10_moveAll_13 : decode cX10_moveAll 13 = .ok (.iaload, 1) := by decide +kernel
theorem dX10_moveAll_14 : decode cX10_moveAll 14 = .ok (.iastore, 1) := by decide +kernel
theorem dX10_moveAll_15 : decode cX10_moveAll 15 = .ok (.iinc 3 1, 3) := by decide +kernel
theorem dX10_moveAll_18 : decode cX10_moveAll 18 = .ok (.goto (-16), 3) := by decide +kernel
theorem dX10_moveAll_21 : decode cX10_moveAll 21 = .ok (.return_, 1) := by decide +kernel
theorem dX10_its_0 : decode cX10_its 0 = .ok (.aload_n 0, 1) := by decide +kernel
theorem dX10_its_1 : decode cX10_its 1 = .ok (.getfield 7, 3) := by decide +kernel
theorem dX10_its_4 : decode cX10_its 4 = .ok (.bipush 13, 2) := by decide +kernel
theorem dX10_its_6 : decode cX10_its 6 = .ok (.iconst 5, 1) := by decide +kernel
theorem dX10_its_7 : decode cX10_its 7 = .ok (.iload_n 1, 1) := by decide +kernel
theorem dX10_its_8 : decode cX10_its 8 = .ok (.imul, 1) := by decide +kernel
theorem dX10_its_9 : decode cX10_its 9 = .ok (.iadd, 1) := by decide +kernel
theorem dX10_its_10 : decode cX10_its 10 = .ok (.iload_n 2, 1) := by decide +kernel
theorem dX10_its_11 : decode cX10_its 11 = .ok (.iadd, 1) := by decide +kernel
theorem dX10_its_12 : decode cX10_its 12 = .ok (.iaload, 1) := by decide +kernel
theorem dX10_its_13 : decode cX10_its 13 = .ok (.ireturn, 1) := by decide +kernel
theorem dX10_gets_0 : decode cX10_gets 0 = .ok (.aload_n 0, 1) := by decide +kernel
theorem dX10_gets_1 : decode cX10_gets 1 = .ok (.getfield 7, 3) := by decide +kernel
theorem dX10_gets_4 : decode cX10_gets 4 = .ok (.bipush 13, 2) := by decide +kernel
theorem dX10_gets_6 : decode cX10_gets 6 = .ok (.iconst 5, 1) := by decide +kernel
theorem dX10_gets_7 : decode cX10_gets 7 = .ok (.iload_n 1, 1) := by decide +kernel
theorem dX10_gets_8 : decode cX10_gets 8 = .ok (.imul, 1) := by decide +kernel
theorem dX10_gets_9 : decode cX10_gets 9 = .ok (.iadd, 1) := by decide +kernel
theorem dX10_gets_10 : decode cX10_gets 10 = .ok (.iload_n 2, 1) := by decide +kernel
theorem dX10_gets_11 : decode cX10_gets 11 = .ok (.iadd, 1) := by decide +kernel
theorem dX10_gets_12 : decode cX10_gets 12 = .ok (.iload_n 3, 1) := by decide +kernel
theorem dX10_gets_13 : decode cX10_gets 13 = .ok (.iastore, 1) := by decide +kernel
theorem dX10_gets_14 : decode cX10_gets 14 = .ok (.return_, 1) := by decide +kernel
theorem dX10_isCloth_0 : decode cX10_isCloth 0 = .ok (.iload_n 1, 1) := by decide +kernel
theorem dX10_isCloth_1 : decode cX10_isCloth 1 = .ok (.iconst 0, 1) := by decide +kernel
theorem dX10_isCloth_2 : decode cX10_isCloth 2 = .ok (.aload_n 0, 1) := by decide +kernel
theorem dX10_isCloth_3 : decode cX10_isCloth 3 = .ok (.getfield 7, 3) := by decide +kernel
theorem dX10_isCloth_6 : decode cX10_isCloth 6 = .ok (.iconst 2, 1) := by decide +kernel
theorem dX10_isCloth_7 : decode cX10_isCloth 7 = .ok (.iaload, 1) := by decide +kernel
theorem dX10_isCloth_8 : decode cX10_isCloth 8 = .ok (.iconst 1, 1) := by decide +kernel
theorem dX10_isCloth_9 : decode cX10_isCloth 9 = .ok (.isub, 1) := by decide +kernel
theorem dX10_isCloth_10 : decode cX10_isCloth 10 = .ok (.invokestatic 44, 3) := by decide +kernel
theorem dX10_isCloth_13 : decode cX10_isCloth 13 = .ok (.ireturn, 1) := by decide +kernel
theorem dX10_becomes_0 : decode cX10_becomes 0 = .ok (.aload_n 0, 1) := by decide +kernel
theorem dX10_becomes_1 : decode cX10_becomes 1 = .ok (.getfield 7, 3) := by decide +kernel
theorem dX10_becomes_4 : decode cX10_becomes 4 = .ok (.iload_n 1, 1) := by decide +kernel
theorem dX10_becomes_5 : decode cX10_becomes 5 = .ok (.iaload, 1) := by decide +kernel
theorem dX10_becomes_6 : decode cX10_becomes 6 = .ok (.istore_n 3, 1) := by decide +kernel
theorem dX10_becomes_7 : decode cX10_becomes 7 = .ok (.aload_n 0, 1) := by decide +kernel
theorem dX10_becomes_8 : decode cX10_becomes 8 = .ok (.getfield 7, 3) := by decide +kernel
theorem dX10_becomes_11 : decode cX10_becomes 11 = .ok (.iload_n 1, 1) := by decide +kernel
theorem dX10_becomes_12 : decode cX10_becomes 12 = .ok (.iload_n 2, 1) := by decide +kernel
theorem dX10_becomes_13 : decode cX10_becomes 13 = .ok (.iastore, 1) := by decide +kernel
theorem dX10_becomes_14 : decode cX10_becomes 14 = .ok (.iload_n 3, 1) := by decide +kernel
theorem dX10_becomes_15 : decode cX10_becomes 15 = .ok (.ireturn, 1) := by decide +kernel
theorem dX10_set_0 : decode cX10_set 0 = .ok (.iload_n 1, 1) := by decide +kernel
theorem dX10_set_1 : decode cX10_set 1 = .ok (.iconst 0, 1) := by decide +kernel
theorem dX10_set_2 : decode cX10_set 2 = .ok (.iconst 5, 1) := by decide +kernel
theorem dX10_set_3 : decode cX10_set 3 = .ok (.invokestatic 44, 3) := by decide +kernel
theorem dX10_set_6 : decode cX10_set 6 = .ok (.ifCond .eq 40, 3) := by decide +kernel
theorem dX10_set_9 : decode cX10_set 9 = .ok (.iload_n 2, 1) := by decide +kernel
theorem dX10_set_10 : decode cX10_set 10 = .ok (.iconst 0, 1) := by decide +kernel
theorem dX10_set_11 : decode cX10_set 11 = .ok (.iload_n 1, 1) := by decide +kernel
theorem dX10_set_12 : decode cX10_set 12 = .ok (.ifCond .ne 7, 3) := by decide +kernel
theorem dX10_set_15 : decode cX10_set 15 = .ok (.iconst 1, 1) := by decide +kernel
theorem dX10_set_16 : decode cX10_set 16 = .ok (.goto 24, 3) := by decide +kernel
theorem dX10_set_19 : decode cX10_set 19 = .ok (.iload_n 1, 1) := by decide +kernel
theorem dX10_set_20 : decode cX10_set 20 = .ok (.iconst 3, 1) := by decide +kernel
theorem dX10_set_21 : decode cX10_set 21 = .ok (.if_icmp .ne 7, 3) := by decide +kernel
theorem dX10_set_24 : decode cX10_set 24 = .ok (.iconst 2, 1) := by decide +kernel
theorem dX10_set_25 : decode cX10_set 25 = .ok (.goto 15, 3) := by decide +kernel
theorem dX10_set_28 : decode cX10_set 28 = .ok (.iload_n 1, 1) := by decide +kernel
theorem dX10_set_29 : decode cX10_set 29 = .ok (.iconst 4, 1) := by decide +kernel
theorem dX10_set_30 : decode cX10_set 30 = .ok (.if_icmp .ne 8, 3) := by decide +kernel
theorem dX10_set_33 : decode cX10_set 33 = .ok (.bipush 99, 2) := by decide +kernel
theorem dX10_set_35 : decode cX10_set 35 = .ok (.goto 5, 3) := by decide +kernel
theorem dX10_set_38 : decode cX10_set 38 = .ok (.bipush 9, 2) := by decide +kernel
theorem dX10_set_40 : decode cX10_set 40 = .ok (.invokestatic 44, 3) := by decide +kernel
theorem dX10_set_43 : decode cX10_set 43 = .ok (.ifCond .ne 10, 3) := by decide +kernel
theorem dX10_set_46 : decode cX10_set 46 = .ok (.aload_n 0, 1) := by decide +kernel
theorem dX10_set_47 : decode cX10_set 47 = .ok (.ldc 48, 2) := by decide +kernel
theorem dX10_set_49 : decode cX10_set 49 = .ok (.invokevirtual 49, 3) := by decide +kernel
theorem dX10_set_52 : decode cX10_set 52 = .ok (.ireturn, 1) := by decide +kernel
theorem dX10_set_53 : decode cX10_set 53 = .ok (.aload_n 0, 1) := by decide +kernel
theorem dX10_set_54 : decode cX10_set 54 = .ok (.bipush 7, 2) := by decide +kernel
theorem dX10_set_56 : decode cX10_set 56 = .ok (.iload_n 1, 1) := by decide +kernel
theorem dX10_set_57 : decode cX10_set 57 = .ok (.iadd, 1) := by decide +kernel
theorem dX10_set_58 : decode cX10_set 58 = .ok (.iload_n 2, 1) := by decide +kernel
theorem dX10_set_59 : decode cX10_set 59 = .ok (.invokevirtual 53, 3) := by decide +kernel
theorem dX10_set_62 : decode cX10_set 62 = .ok (.ireturn, 1) := by decide +kernel
theorem dX10_machine_0 : decode cX10_machine 0 = .ok (.iload_n 1, 1) := by decide +kernel
theorem dX10_machine_1 : decode cX10_machine 1 = .ok (.iconst 0, 1) := by decide +kernel
theorem dX10_machine_2 : decode cX10_machine 2 = .ok (.iconst 5, 1) := by decide +kernel
theorem dX10_machine_3 : decode cX10_machine 3 = .ok (.invokestatic 44, 3) := by decide +kernel
theorem dX10_machine_6 : decode cX10_machine 6 = .ok (.ifCond .eq 15, 3) := by decide +kernel
theorem dX10_machine_9 : decode cX10_machine 9 = .ok (.aload_n 0, 1) := by decide +kernel
theorem dX10_machine_10 : decode cX10_machine 10 = .ok (.getfield 7, 3) := by decide +kernel
theorem dX10_machine_13 : decode cX10_machine 13 = .ok (.bipush 7, 2) := by decide +kernel
theorem dX10_machine_15 : decode cX10_machine 15 = .ok (.iload_n 1, 1) := by decide +kernel
theorem dX10_machine_16 : decode cX10_machine 16 = .ok (.iadd, 1) := by decide +kernel
theorem dX10_machine_17 : decode cX10_machine 17 = .ok (.iaload, 1) := by decide +kernel
theorem dX10_machine_18 : decode cX10_machine 18 = .ok (.goto 9, 3) := by decide +kernel
theorem dX10_machine_21 : decode cX10_machine 21 = .ok (.aload_n 0, 1) := by decide +kernel
theorem dX10_machine_22 : decode cX10_machine 22 = .ok (.ldc 48, 2) := by decide +kernel
theorem dX10_machine_24 : decode cX10_machine 24 = .ok (.invokevirtual 49, 3) := by decide +kernel
theorem dX10_machine_27 : decode cX10_machine 27 = .ok (.ireturn, 1) := by decide +kernel
theorem dX10_cloth_0 : decode cX10_cloth 0 = .ok (.iload_n 1, 1) := by decide +kernel
theorem dX10_cloth_1 : decode cX10_cloth 1 = .ok (.iconst 0, 1) := by decide +kernel
theorem dX10_cloth_2 : decode cX10_cloth 2 = .ok (.bipush 69, 2) := by decide +kernel
theorem dX10_cloth_4 : decode cX10_cloth 4 = .ok (.invokestatic 44, 3) := by decide +kernel
theorem dX10_cloth_7 : decode cX10_cloth 7 = .ok (.ifCond .eq 13, 3) := by decide +kernel
theorem dX10_cloth_10 : decode cX10_cloth 10 = .ok (.iload_n 2, 1) := by decide +kernel
theorem dX10_cloth_11 : decode cX10_cloth 11 = .ok (.iconst 0, 1) := by decide +kernel
theorem dX10_cloth_12 : decode cX10_cloth 12 = .ok (.bipush 9, 2) := by decide +kernel
theorem dX10_cloth_14 : decode cX10_cloth 14 = .ok (.invokestatic 44, 3) := by decide +kernel
theorem dX10_cloth_17 : decode cX10_cloth 17 = .ok (.ifCond .ne 10, 3) := by decide +kernel
theorem dX10_cloth_20 : decode cX10_cloth 20 = .ok (.aload_n 0, 1) := by decide +kernel
theorem dX10_cloth_21 : decode cX10_cloth 21 = .ok (.ldc 48, 2) := by decide +kernel
theorem dX10_cloth_23 : decode cX10_cloth 23 = .ok (.invokevirtual 49, 3) := by decide +kernel
theorem dX10_cloth_26 : decode cX10_cloth 26 = .ok (.ireturn, 1) := by decide +kernel
theorem dX10_cloth_27 : decode cX10_cloth 27 = .ok (.aload_n 0, 1) := by decide +kernel
theorem dX10_cloth_28 : decode cX10_cloth 28 = .ok (.getfield 7, 3) := by decide +kernel
theorem dX10_cloth_31 : decode cX10_cloth 31 = .ok (.iconst 2, 1) := by decide +kernel
theorem dX10_cloth_32 : decode cX10_cloth 32 = .ok (.iaload, 1) := by decide +kernel
theorem dX10_cloth_33 : decode cX10_cloth 33 = .ok (.bipush 6, 2) := by decide +kernel
theorem dX10_cloth_35 : decode cX10_cloth 35 = .ok (.if_icmp .ne 10, 3) := by decide +kernel
theorem dX10_cloth_38 : decode cX10_cloth 38 = .ok (.aload_n 0, 1) := by decide +kernel
theorem dX10_cloth_39 : decode cX10_cloth 39 = .ok (.ldc 57, 2) := by decide +kernel
theorem dX10_cloth_41 : decode cX10_cloth 41 = .ok (.invokevirtual 49, 3) := by decide +kernel
theorem dX10_cloth_44 : decode cX10_cloth 44 = .ok (.ireturn, 1) := by decide +kernel
theorem dX10_cloth_45 : decode cX10_cloth 45 = .ok (.aload_n 0, 1) := by decide +kernel
theorem dX10_cloth_46 : decode cX10_cloth 46 = .ok (.getfield 7, 3) := by decide +kernel
theorem dX10_cloth_49 : decode cX10_cloth 49 = .ok (.iconst 2, 1) := by decide +kernel
theorem dX10_cloth_50 : decode cX10_cloth 50 = .ok (.iaload, 1) := by decide +kernel
theorem dX10_cloth_51 : decode cX10_cloth 51 = .ok (.istore_n 3, 1) := by decide +kernel
theorem dX10_cloth_52 : decode cX10_cloth 52 = .ok (.aload_n 0, 1) := by decide +kernel
theorem dX10_cloth_53 : decode cX10_cloth 53 = .ok (.iload_n 3, 1) := by decide +kernel
theorem dX10_cloth_54 : decode cX10_cloth 54 = .ok (.iconst 0, 1) := by decide +kernel
theorem dX10_cloth_55 : decode cX10_cloth 55 = .ok (.iload_n 1, 1) := by decide +kernel
theorem dX10_cloth_56 : decode cX10_cloth 56 = .ok (.bipush 10, 2) := by decide +kernel
theorem dX10_cloth_58 : decode cX10_cloth 58 = .ok (.idiv, 1) := by decide +kernel
theorem dX10_cloth_59 : decode cX10_cloth 59 = .ok (.invokevirtual 58, 3) := by decide +kernel
theorem dX10_cloth_62 : decode cX10_cloth 62 = .ok (.aload_n 0, 1) := by decide +kernel
theorem dX10_cloth_63 : decode cX10_cloth 63 = .ok (.iload_n 3, 1) := by decide +kernel
theorem dX10_cloth_64 : decode cX10_cloth 64 = .ok (.iconst 1, 1) := by decide +kernel
theorem dX10_cloth_65 : decode cX10_cloth 65 = .ok (.iload_n 1, 1) := by decide +kernel
theorem dX10_cloth_66 : decode cX10_cloth 66 = .ok (.bipush 10, 2) := by decide +kernel
theorem dX10_cloth_68 : decode cX10_cloth 68 = .ok (.irem, 1) := by decide +kernel
theorem dX10_cloth_69 : decode cX10_cloth 69 = .ok (.invokevirtual 58, 3) := by decide +kernel
theorem dX10_cloth_72 : decode cX10_cloth 72 = .ok (.aload_n 0, 1) := by decide +kernel
theorem dX10_cloth_73 : decode cX10_cloth 73 = .ok (.iload_n 3, 1) := by decide +kernel
theorem dX10_cloth_74 : decode cX10_cloth 74 = .ok (.iconst 2, 1) := by decide +kernel
theorem dX10_cloth_75 : decode cX10_cloth 75 = .ok (.iload_n 2, 1) := by decide +kernel
theorem dX10_cloth_76 : decode cX10_cloth 76 = .ok (.invokevirtual 58, 3) := by decide +kernel
theorem dX10_cloth_79 : decode cX10_cloth 79 = .ok (.aload_n 0, 1) := by decide +kernel
theorem dX10_cloth_80 : decode cX10_cloth 80 = .ok (.iload_n 3, 1) := by decide +kernel
theorem dX10_cloth_81 : decode cX10_cloth 81 = .ok (.iconst 3, 1) := by decide +kernel
theorem dX10_cloth_82 : decode cX10_cloth 82 = .ok (.iconst 0, 1) := by decide +kernel
theorem dX10_cloth_83 : decode cX10_cloth 83 = .ok (.invokevirtual 58, 3) := by decide +kernel
theorem dX10_cloth_86 : decode cX10_cloth 86 = .ok (.aload_n 0, 1) := by decide +kernel
theorem dX10_cloth_87 : decode cX10_cloth 87 = .ok (.iload_n 3, 1) := by decide +kernel
theorem dX10_cloth_88 : decode cX10_cloth 88 = .ok (.iconst 4, 1) := by decide +kernel
theorem dX10_cloth_89 : decode cX10_cloth 89 = .ok (.iconst 0, 1) := by decide +kernel
theorem dX10_cloth_90 : decode cX10_cloth 90 = .ok (.invokevirtual 58, 3) := by decide +kernel
theorem dX10_cloth_93 : decode cX10_cloth 93 = .ok (.aload_n 0, 1) := by decide +kernel
theorem dX10_cloth_94 : decode cX10_cloth 94 = .ok (.getfield 7, 3) := by decide +kernel
theorem dX10_cloth_97 : decode cX10_cloth 97 = .ok (.iconst 2, 1) := by decide +kernel
theorem dX10_cloth_98 : decode cX10_cloth 98 = .ok (.dup2, 1) := by decide +kernel
theorem dX10_cloth_99 : decode cX10_cloth 99 = .ok (.iaload, 1) := by decide +kernel
theorem dX10_cloth_100 : decode cX10_cloth 100 = .ok (.iconst 1, 1) := by decide +kernel
theorem dX10_cloth_101 : decode cX10_cloth 101 = .ok (.iadd, 1) := by decide +kernel
theorem dX10_cloth_102 : decode cX10_cloth 102 = .ok (.iastore, 1) := by decide +kernel
theorem dX10_cloth_103 : decode cX10_cloth 103 = .ok (.iload_n 3, 1) := by decide +kernel
theorem dX10_cloth_104 : decode cX10_cloth 104 = .ok (.ireturn, 1) := by decide +kernel
theorem dX10_ofCloth_0 : decode cX10_ofCloth 0 = .ok (.aload_n 0, 1) := by decide +kernel
theorem dX10_ofCloth_1 : decode cX10_ofCloth 1 = .ok (.iload_n 1, 1) := by decide +kernel
theorem dX10_ofCloth_2 : decode cX10_ofCloth 2 = .ok (.invokevirtual 62, 3) := by decide +kernel
theorem dX10_ofCloth_5 : decode cX10_ofCloth 5 = .ok (.ifCond .eq 13, 3) := by decide +kernel
theorem dX10_ofCloth_8 : decode cX10_ofCloth 8 = .ok (.iload_n 2, 1) := by decide +kernel
theorem dX10_ofCloth_9 : decode cX10_ofCloth 9 = .ok (.iconst 0, 1) := by decide +kernel
theorem dX10_ofCloth_10 : decode cX10_ofCloth 10 = .ok (.bipush 8, 2) := by decide +kernel
theorem dX10_ofCloth_12 : decode cX10_ofCloth 12 = .ok (.invokestatic 44, 3) := by decide +kernel
theorem dX10_ofCloth_15 : decode cX10_ofCloth 15 = .ok (.ifCond .ne 10, 3) := by decide +kernel
theorem dX10_ofCloth_18 : decode cX10_ofCloth 18 = .ok (.aload_n 0, 1) := by decide +kernel
theorem dX10_ofCloth_19 : decode cX10_ofCloth 19 = .ok (.ldc 48, 2) := by decide +kernel
theorem dX10_ofCloth_21 : decode cX10_ofCloth 21 = .ok (.invokevirtual 49, 3) := by decide +kernel
theorem dX10_ofCloth_24 : decode cX10_ofCloth 24 = .ok (.ireturn, 1) := by decide +kernel
theorem dX10_ofCloth_25 : decode cX10_ofCloth 25 = .ok (.iload_n 2, 1) := by decide +kernel
theorem dX10_ofCloth_26 : decode cX10_ofCloth 26 = .ok (.tableswitch 54 5 8 #[30, 36, 42, 48], 30) := by decide +kernel
theorem dX10_ofCloth_56 : decode cX10_ofCloth 56 = .ok (.aload_n 0, 1) := by decide +kernel
theorem dX10_ofCloth_57 : decode cX10_ofCloth 57 = .ok (.iload_n 1, 1) := by decide +kernel
theorem dX10_ofCloth_58 : decode cX10_ofCloth 58 = .ok (.invokevirtual 66, 3) := by decide +kernel
theorem dX10_ofCloth_61 : decode cX10_ofCloth 61 = .ok (.ireturn, 1) := by decide +kernel
theorem dX10_ofCloth_62 : decode cX10_ofCloth 62 = .ok (.aload_n 0, 1) := by decide +kernel
theorem dX10_ofCloth_63 : decode cX10_ofCloth 63 = .ok (.iload_n 1, 1) := by decide +kernel
theorem dX10_ofCloth_64 : decode cX10_ofCloth 64 = .ok (.invokevirtual 69, 3) := by decide +kernel
theorem dX10_ofCloth_67 : decode cX10_ofCloth 67 = .ok (.ireturn, 1) := by decide +kernel
theorem dX10_ofCloth_68 : decode cX10_ofCloth 68 = .ok (.aload_n 0, 1) := by decide +kernel
theorem dX10_ofCloth_69 : decode cX10_ofCloth 69 = .ok (.iload_n 1, 1) := by decide +kernel
theorem dX10_ofCloth_70 : decode cX10_ofCloth 70 = .ok (.invokevirtual 72, 3) := by decide +kernel
theorem dX10_ofCloth_73 : decode cX10_ofCloth 73 = .ok (.ireturn, 1) := by decide +kernel
theorem dX10_ofCloth_74 : decode cX10_ofCloth 74 = .ok (.aload_n 0, 1) := by decide +kernel
theorem dX10_ofCloth_75 : decode cX10_ofCloth 75 = .ok (.iload_n 1, 1) := by decide +kernel
theorem dX10_ofCloth_76 : decode cX10_ofCloth 76 = .ok (.invokevirtual 75, 3) := by decide +kernel
theorem dX10_ofCloth_79 : decode cX10_ofCloth 79 = .ok (.ireturn, 1) := by decide +kernel
theorem dX10_ofCloth_80 : decode cX10_ofCloth 80 = .ok (.aload_n 0, 1) := by decide +kernel
theorem dX10_ofCloth_81 : decode cX10_ofCloth 81 = .ok (.iload_n 1, 1) := by decide +kernel
theorem dX10_ofCloth_82 : decode cX10_ofCloth 82 = .ok (.iload_n 2, 1) := by decide +kernel
theorem dX10_ofCloth_83 : decode cX10_ofCloth 83 = .ok (.invokevirtual 78, 3) := by decide +kernel
theorem dX10_ofCloth_86 : decode cX10_ofCloth 86 = .ok (.ireturn, 1) := by decide +kernel
theorem dX10_change_0 : decode cX10_change 0 = .ok (.aload_n 0, 1) := by decide +kernel
theorem dX10_change_1 : decode cX10_change 1 = .ok (.iload_n 1, 1) := by decide +kernel
theorem dX10_change_2 : decode cX10_change 2 = .ok (.invokevirtual 62, 3) := by decide +kernel
theorem dX10_change_5 : decode cX10_change 5 = .ok (.ifCond .eq 50, 3) := by decide +kernel
theorem dX10_change_8 : decode cX10_change 8 = .ok (.iload_n 2, 1) := by decide +kernel
theorem dX10_change_9 : decode cX10_change 9 = .ok (.iconst 0, 1) := by decide +kernel
theorem dX10_change_10 : decode cX10_change 10 = .ok (.iconst 2, 1) := by decide +kernel
theorem dX10_change_11 : decode cX10_change 11 = .ok (.invokestatic 44, 3) := by decide +kernel
theorem dX10_change_14 : decode cX10_change 14 = .ok (.ifCond .eq 41, 3) := by decide +kernel
theorem dX10_change_17 : decode cX10_change 17 = .ok (.iload_n 3, 1) := by decide +kernel
theorem dX10_change_18 : decode cX10_change 18 = .ok (.iconst 0, 1) := by decide +kernel
theorem dX10_change_19 : decode cX10_change 19 = .ok (.iload_n 2, 1) := by decide +kernel
theorem dX10_change_20 : decode cX10_change 20 = .ok (.ifCond .ne 8, 3) := by decide +kernel
theorem dX10_change_23 : decode cX10_change 23 = .ok (.bipush 9, 2) := by decide +kernel
theorem dX10_change_25 : decode cX10_change 25 = .ok (.goto 6, 3) := by decide +kernel
theorem dX10_change_28 : decode cX10_change 28 = .ok (.sipush 9999, 3) := by decide +kernel
theorem dX10_change_31 : decode cX10_change 31 = .ok (.invokestatic 44, 3) := by decide +kernel
theorem dX10_change_34 : decode cX10_change 34 = .ok (.ifCond .eq 21, 3) := by decide +kernel
theorem dX10_change_37 : decode cX10_change 37 = .ok (.aload_n 0, 1) := by decide +kernel
theorem dX10_change_38 : decode cX10_change 38 = .ok (.bipush 13, 2) := by decide +kernel
theorem dX10_change_40 : decode cX10_change 40 = .ok (.iconst 5, 1) := by decide +kernel
theorem dX10_change_41 : decode cX10_change 41 = .ok (.iload_n 1, 1) := by decide +kernel
theorem dX10_change_42 : decode cX10_change 42 = .ok (.imul, 1) := by decide +kernel
theorem dX10_change_43 : decode cX10_change 43 = .ok (.iadd, 1) := by decide +kernel
theorem dX10_change_44 : decode cX10_change 44 = .ok (.iconst 2, 1) := by decide +kernel
theorem dX10_change_45 : decode cX10_change 45 = .ok (.iadd, 1) := by decide +kernel
theorem dX10_change_46 : decode cX10_change 46 = .ok (.iload_n 2, 1) := by decide +kernel
theorem dX10_change_47 : decode cX10_change 47 = .ok (.iadd, 1) := by decide +kernel
theorem dX10_change_48 : decode cX10_change 48 = .ok (.iload_n 3, 1) := by decide +kernel
theorem dX10_change_49 : decode cX10_change 49 = .ok (.invokevirtual 53, 3) := by decide +kernel
theorem dX10_change_52 : decode cX10_change 52 = .ok (.goto 9, 3) := by decide +kernel
theorem dX10_change_55 : decode cX10_change 55 = .ok (.aload_n 0, 1) := by decide +kernel
theorem dX10_change_56 : decode cX10_change 56 = .ok (.ldc 48, 2) := by decide +kernel
theorem dX10_change_58 : decode cX10_change 58 = .ok (.invokevirtual 49, 3) := by decide +kernel
theorem dX10_change_61 : decode cX10_change 61 = .ok (.ireturn, 1) := by decide +kernel
theorem dX10_become_0 : decode cX10_become 0 = .ok (.aload_n 0, 1) := by decide +kernel
theorem dX10_become_1 : decode cX10_become 1 = .ok (.iload_n 1, 1) := by decide +kernel
theorem dX10_become_2 : decode cX10_become 2 = .ok (.invokevirtual 62, 3) := by decide +kernel
theorem dX10_become_5 : decode cX10_become 5 = .ok (.ifCond .eq 13, 3) := by decide +kernel
theorem dX10_become_8 : decode cX10_become 8 = .ok (.iload_n 2, 1) := by decide +kernel
theorem dX10_become_9 : decode cX10_become 9 = .ok (.iconst 0, 1) := by decide +kernel
theorem dX10_become_10 : decode cX10_become 10 = .ok (.bipush 69, 2) := by decide +kernel
theorem dX10_become_12 : decode cX10_become 12 = .ok (.invokestatic 44, 3) := by decide +kernel
theorem dX10_become_15 : decode cX10_become 15 = .ok (.ifCond .ne 10, 3) := by decide +kernel
theorem dX10_become_18 : decode cX10_become 18 = .ok (.aload_n 0, 1) := by decide +kernel
theorem dX10_become_19 : decode cX10_become 19 = .ok (.ldc 48, 2) := by decide +kernel
theorem dX10_become_21 : decode cX10_become 21 = .ok (.invokevirtual 49, 3) := by decide +kernel
theorem dX10_become_24 : decode cX10_become 24 = .ok (.ireturn, 1) := by decide +kernel
theorem dX10_become_25 : decode cX10_become 25 = .ok (.aload_n 0, 1) := by decide +kernel
theorem dX10_become_26 : decode cX10_become 26 = .ok (.iload_n 1, 1) := by decide +kernel
theorem dX10_become_27 : decode cX10_become 27 = .ok (.iconst 1, 1) := by decide +kernel
theorem dX10_become_28 : decode cX10_become 28 = .ok (.iload_n 2, 1) := by decide +kernel
theorem dX10_become_29 : decode cX10_become 29 = .ok (.bipush 10, 2) := by decide +kernel
theorem dX10_become_31 : decode cX10_become 31 = .ok (.irem, 1) := by decide +kernel
theorem dX10_become_32 : decode cX10_become 32 = .ok (.invokevirtual 58, 3) := by decide +kernel
theorem dX10_become_35 : decode cX10_become 35 = .ok (.aload_n 0, 1) := by decide +kernel
theorem dX10_become_36 : decode cX10_become 36 = .ok (.bipush 13, 2) := by decide +kernel
theorem dX10_become_38 : decode cX10_become 38 = .ok (.iconst 5, 1) := by decide +kernel
theorem dX10_become_39 : decode cX10_become 39 = .ok (.iload_n 1, 1) := by decide +kernel
theorem dX10_become_40 : decode cX10_become 40 = .ok (.imul, 1) := by decide +kernel
theorem dX10_become_41 : decode cX10_become 41 = .ok (.iadd, 1) := by decide +kernel
theorem dX10_become_42 : decode cX10_become 42 = .ok (.iload_n 2, 1) := by decide +kernel
theorem dX10_become_43 : decode cX10_become 43 = .ok (.bipush 10, 2) := by decide +kernel
theorem dX10_become_45 : decode cX10_become 45 = .ok (.idiv, 1) := by decide +kernel
theorem dX10_become_46 : decode cX10_become 46 = .ok (.invokevirtual 53, 3) := by decide +kernel
theorem dX10_become_49 : decode cX10_become 49 = .ok (.ireturn, 1) := by decide +kernel
theorem dX10_above_0 : decode cX10_above 0 = .ok (.iload_n 0, 1) := by decide +kernel
theorem dX10_above_1 : decode cX10_above 1 = .ok (.ifCond .ne 7, 3) := by decide +kernel
theorem dX10_above_4 : decode cX10_above 4 = .ok (.iconst (-1), 1) := by decide +kernel
theorem dX10_above_5 : decode cX10_above 5 = .ok (.goto 15, 3) := by decide +kernel
theorem dX10_above_8 : decode cX10_above 8 = .ok (.iload_n 0, 1) := by decide +kernel
theorem dX10_above_9 : decode cX10_above 9 = .ok (.iconst 3, 1) := by decide +kernel
theorem dX10_above_10 : decode cX10_above 10 = .ok (.if_icmp .le 9, 3) := by decide +kernel
theorem dX10_above_13 : decode cX10_above 13 = .ok (.iload_n 0, 1) := by decide +kernel
theorem dX10_above_14 : decode cX10_above 14 = .ok (.iconst 3, 1) := by decide +kernel
theorem dX10_above_15 : decode cX10_above 15 = .ok (.isub, 1) := by decide +kernel
theorem dX10_above_16 : decode cX10_above 16 = .ok (.goto 4, 3) := by decide +kernel
theorem dX10_above_19 : decode cX10_above 19 = .ok (.iconst 0, 1) := by decide +kernel
theorem dX10_above_20 : decode cX10_above 20 = .ok (.ireturn, 1) := by decide +kernel
theorem dX10_as_0 : decode cX10_as 0 = .ok (.aload_n 0, 1) := by decide +kernel
theorem dX10_as_1 : decode cX10_as 1 = .ok (.iload_n 1, 1) := by decide +kernel
theorem dX10_as_2 : decode cX10_as 2 = .ok (.invokevirtual 62, 3) := by decide +kernel
theorem dX10_as_5 : decode cX10_as 5 = .ok (.ifCond .eq 13, 3) := by decide +kernel
theorem dX10_as_8 : decode cX10_as 8 = .ok (.iload_n 2, 1) := by decide +kernel
theorem dX10_as_9 : decode cX10_as 9 = .ok (.iconst 0, 1) := by decide +kernel
theorem dX10_as_10 : decode cX10_as 10 = .ok (.bipush 6, 2) := by decide +kernel
theorem dX10_as_12 : decode cX10_as 12 = .ok (.invokestatic 44, 3) := by decide +kernel
theorem dX10_as_15 : decode cX10_as 15 = .ok (.ifCond .ne 10, 3) := by decide +kernel
theorem dX10_as_18 : decode cX10_as 18 = .ok (.aload_n 0, 1) := by decide +kernel
theorem dX10_as_19 : decode cX10_as 19 = .ok (.ldc 48, 2) := by decide +kernel
theorem dX10_as_21 : decode cX10_as 21 = .ok (.invokevirtual 49, 3) := by decide +kernel
theorem dX10_as_24 : decode cX10_as 24 = .ok (.ireturn, 1) := by decide +kernel
theorem dX10_as_25 : decode cX10_as 25 = .ok (.aload_n 0, 1) := by decide +kernel
theorem dX10_as_26 : decode cX10_as 26 = .ok (.iload_n 1, 1) := by decide +kernel
theorem dX10_as_27 : decode cX10_as 27 = .ok (.iconst 0, 1) := by decide +kernel
theorem dX10_as_28 : decode cX10_as 28 = .ok (.invokevirtual 78, 3) := by decide +kernel
theorem dX10_as_31 : decode cX10_as 31 = .ok (.istore_n 3, 1) := by decide +kernel
theorem dX10_as_32 : decode cX10_as 32 = .ok (.iload_n 3, 1) := by decide +kernel
theorem dX10_as_33 : decode cX10_as 33 = .ok (.ifCond .lt 16, 3) := by decide +kernel
theorem dX10_as_36 : decode cX10_as 36 = .ok (.iload_n 3, 1) := by decide +kernel
theorem dX10_as_37 : decode cX10_as 37 = .ok (.iload_n 2, 1) := by decide +kernel
theorem dX10_as_38 : decode cX10_as 38 = .ok (.if_icmp .eq 11, 3) := by decide +kernel
theorem dX10_as_41 : decode cX10_as 41 = .ok (.iload_n 3, 1) := by decide +kernel
theorem dX10_as_42 : decode cX10_as 42 = .ok (.invokestatic 81, 3) := by decide +kernel
theorem dX10_as_45 : decode cX10_as 45 = .ok (.istore_n 3, 1) := by decide +kernel
theorem dX10_as_46 : decode cX10_as 46 = .ok (.goto (-14), 3) := by decide +kernel
theorem dX10_as_49 : decode cX10_as 49 = .ok (.iload_n 3, 1) := by decide +kernel
theorem dX10_as_50 : decode cX10_as 50 = .ok (.ifCond .ge 12, 3) := by decide +kernel
theorem dX10_as_53 : decode cX10_as 53 = .ok (.aload_n 0, 1) := by decide +kernel
theorem dX10_as_54 : decode cX10_as 54 = .ok (.ldc 84, 2) := by decide +kernel
theorem dX10_as_56 : decode cX10_as 56 = .ok (.invokevirtual 49, 3) := by decide +kernel
theorem dX10_as_59 : decode cX10_as 59 = .ok (.goto 9, 3) := by decide +kernel
theorem dX10_as_62 : decode cX10_as 62 = .ok (.aload_n 0, 1) := by decide +kernel
theorem dX10_as_63 : decode cX10_as 63 = .ok (.iload_n 1, 1) := by decide +kernel
theorem dX10_as_64 : decode cX10_as 64 = .ok (.iconst 1, 1) := by decide +kernel
theorem dX10_as_65 : decode cX10_as 65 = .ok (.invokevirtual 78, 3) := by decide +kernel
theorem dX10_as_68 : decode cX10_as 68 = .ok (.ireturn, 1) := by decide +kernel
theorem dX10_byteAt_0 : decode cX10_byteAt 0 = .ok (.iload_n 1, 1) := by decide +kernel
theorem dX10_byteAt_1 : decode cX10_byteAt 1 = .ok (.aload_n 0, 1) := by decide +kernel
theorem dX10_byteAt_2 : decode cX10_byteAt 2 = .ok (.getfield 85, 3) := by decide +kernel
theorem dX10_byteAt_5 : decode cX10_byteAt 5 = .ok (.if_icmp .ge 23, 3) := by decide +kernel
theorem dX10_byteAt_8 : decode cX10_byteAt 8 = .ok (.aload_n 0, 1) := by decide +kernel
theorem dX10_byteAt_9 : decode cX10_byteAt 9 = .ok (.getfield 7, 3) := by decide +kernel
theorem dX10_byteAt_12 : decode cX10_byteAt 12 = .ok (.bipush 113, 2) := by decide +kernel
theorem dX10_byteAt_14 : decode cX10_byteAt 14 = .ok (.bipush 50, 2) := by decide +kernel
theorem dX10_byteAt_16 : decode cX10_byteAt 16 = .ok (.aload_n 0, 1) := by decide +kernel
theorem dX10_byteAt_17 : decode cX10_byteAt 17 = .ok (.getfield 89, 3) := by decide +kernel
theorem dX10_byteAt_20 : decode cX10_byteAt 20 = .ok (.imul, 1) := by decide +kernel
theorem dX10_byteAt_21 : decode cX10_byteAt 21 = .ok (.iadd, 1) := by decide +kernel
theorem dX10_byteAt_22 : decode cX10_byteAt 22 = .ok (.iload_n 1, 1) := by decide +kernel
theorem dX10_byteAt_23 : decode cX10_byteAt 23 = .ok (.iadd, 1) := by decide +kernel
theorem dX10_byteAt_24 : decode cX10_byteAt 24 = .ok (.iaload, 1) := by decide +kernel
theorem dX10_byteAt_25 : decode cX10_byteAt 25 = .ok (.goto 4, 3) := by decide +kernel
theorem dX10_byteAt_28 : decode cX10_byteAt 28 = .ok (.iconst (-1), 1) := by decide +kernel
theorem dX10_byteAt_29 : decode cX10_byteAt 29 = .ok (.ireturn, 1) := by decide +kernel
theorem dX10_isDigit_0 : decode cX10_isDigit 0 = .ok (.iload_n 0, 1) := by decide +kernel
theorem dX10_isDigit_1 : decode cX10_isDigit 1 = .ok (.bipush 48, 2) := by decide +kernel
theorem dX10_isDigit_3 : decode cX10_isDigit 3 = .ok (.bipush 57, 2) := by decide +kernel
theorem dX10_isDigit_5 : decode cX10_isDigit 5 = .ok (.invokestatic 44, 3) := by decide +kernel
theorem dX10_isDigit_8 : decode cX10_isDigit 8 = .ok (.ireturn, 1) := by decide +kernel
theorem dX10_fails_0 : decode cX10_fails 0 = .ok (.aload_n 0, 1) := by decide +kernel
theorem dX10_fails_1 : decode cX10_fails 1 = .ok (.iconst 0, 1) := by decide +kernel
theorem dX10_fails_2 : decode cX10_fails 2 = .ok (.putfield 92, 3) := by decide +kernel
theorem dX10_fails_5 : decode cX10_fails 5 = .ok (.iconst 0, 1) := by decide +kernel
theorem dX10_fails_6 : decode cX10_fails 6 = .ok (.ireturn, 1) := by decide +kernel
theorem dX10_number_0 : decode cX10_number 0 = .ok (.iconst 0, 1) := by decide +kernel
theorem dX10_number_1 : decode cX10_number 1 = .ok (.istore_n 1, 1) := by decide +kernel
theorem dX10_number_2 : decode cX10_number 2 = .ok (.iconst 0, 1) := by decide +kernel
theorem dX10_number_3 : decode cX10_number 3 = .ok (.istore_n 2, 1) := by decide +kernel
theorem dX10_number_4 : decode cX10_number 4 = .ok (.iload_n 2, 1) := by decide +kernel
theorem dX10_number_5 : decode cX10_number 5 = .ok (.iconst 4, 1) := by decide +kernel
theorem dX10_number_6 : decode cX10_number 6 = .ok (.if_icmp .ge 50, 3) := by decide +kernel
theorem dX10_number_9 : decode cX10_number 9 = .ok (.aload_n 0, 1) := by decide +kernel
theorem dX10_number_10 : decode cX10_number 10 = .ok (.aload_n 0, 1) := by decide +kernel
theorem dX10_number_11 : decode cX10_number 11 = .ok (.getfield 96, 3) := by decide +kernel
theorem dX10_number_14 : decode cX10_number 14 = .ok (.invokevirtual 99, 3) := by decide +kernel
theorem dX10_number_17 : decode cX10_number 17 = .ok (.invokestatic 102, 3) := by decide +kernel
theorem dX10_number_20 : decode cX10_number 20 = .ok (.ifCond .eq 36, 3) := by decide +kernel
theorem dX10_number_23 : decode cX10_number 23 = .ok (.bipush 10, 2) := by decide +kernel
theorem dX10_number_25 : decode cX10_number 25 = .ok (.iload_n 1, 1) := by decide +kernel
theorem dX10_number_26 : decode cX10_number 26 = .ok (.imul, 1) := by decide +kernel
theorem dX10_number_27 : decode cX10_number 27 = .ok (.aload_n 0, 1) := by decide +kernel
theorem dX10_number_28 : decode cX10_number 28 = .ok (.aload_n 0, 1) := by decide +kernel
theorem dX10_number_29 : decode cX10_number 29 = .ok (.getfield 96, 3) := by decide +kernel
theorem dX10_number_32 : decode cX10_number 32 = .ok (.invokevirtual 99, 3) := by decide +kernel
theorem dX10_number_35 : decode cX10_number 35 = .ok (.iadd, 1) := by decide +kernel
theorem dX10_number_36 : decode cX10_number 36 = .ok (.bipush 48, 2) := by decide +kernel
theorem dX10_number_38 : decode cX10_number 38 = .ok (.isub, 1) := by decide +kernel
theorem dX10_number_39 : decode cX10_number 39 = .ok (.istore_n 1, 1) := by decide +kernel
theorem dX10_number_40 : decode cX10_number 40 = .ok (.aload_n 0, 1) := by decide +kernel
theorem dX10_number_41 : decode cX10_number 41 = .ok (.dup, 1) := by decide +kernel
theorem dX10_number_42 : decode cX10_number 42 = .ok (.getfield 96, 3) := by decide +kernel
theorem dX10_number_45 : decode cX10_number 45 = .ok (.iconst 1, 1) := by decide +kernel
theorem dX10_number_46 : decode cX10_number 46 = .ok (.iadd, 1) := by decide +kernel
theorem dX10_number_47 : decode cX10_number 47 = .ok (.putfield 96, 3) := by decide +kernel
theorem dX10_number_50 : decode cX10_number 50 = .ok (.iinc 2 1, 3) := by decide +kernel
theorem dX10_number_53 : decode cX10_number 53 = .ok (.goto (-49), 3) := by decide +kernel
theorem dX10_number_56 : decode cX10_number 56 = .ok (.iload_n 1, 1) := by decide +kernel
theorem dX10_number_57 : decode cX10_number 57 = .ok (.ireturn, 1) := by decide +kernel
theorem dX10_named_0 : decode cX10_named 0 = .ok (.iload_n 1, 1) := by decide +kernel
theorem dX10_named_1 : decode cX10_named 1 = .ok (.bipush 116, 2) := by decide +kernel
theorem dX10_named_3 : decode cX10_named 3 = .ok (.if_icmp .ne 7, 3) := by decide +kernel
theorem dX10_named_6 : decode cX10_named 6 = .ok (.iconst 1, 1) := by decide +kernel
theorem dX10_named_7 : decode cX10_named 7 = .ok (.goto 4, 3) := by decide +kernel
theorem dX10_named_10 : decode cX10_named 10 = .ok (.iconst 0, 1) := by decide +kernel
theorem dX10_named_11 : decode cX10_named 11 = .ok (.istore_n 2, 1) := by decide +kernel
theorem dX10_named_12 : decode cX10_named 12 = .ok (.iload_n 1, 1) := by decide +kernel
theorem dX10_named_13 : decode cX10_named 13 = .ok (.bipush 109, 2) := by decide +kernel
theorem dX10_named_15 : decode cX10_named 15 = .ok (.if_icmp .ne 7, 3) := by decide +kernel
theorem dX10_named_18 : decode cX10_named 18 = .ok (.iconst 1, 1) := by decide +kernel
theorem dX10_named_19 : decode cX10_named 19 = .ok (.goto 4, 3) := by decide +kernel
theorem dX10_named_22 : decode cX10_named 22 = .ok (.iconst 0, 1) := by decide +kernel
theorem dX10_named_23 : decode cX10_named 23 = .ok (.istore_n 3, 1) := by decide +kernel
theorem dX10_named_24 : decode cX10_named 24 = .ok (.iload_n 1, 1) := by decide +kernel
theorem dX10_named_25 : decode cX10_named 25 = .ok (.aload_n 0, 1) := by decide +kernel
theorem dX10_named_26 : decode cX10_named 26 = .ok (.getfield 89, 3) := by decide +kernel
theorem dX10_named_29 : decode cX10_named 29 = .ok (.ifCond .ne 8, 3) := by decide +kernel
theorem dX10_named_32 : decode cX10_named 32 = .ok (.bipush 107, 2) := by decide +kernel
theorem dX10_named_34 : decode cX10_named 34 = .ok (.goto 5, 3) := by decide +kernel
theorem dX10_named_37 : decode cX10_named 37 = .ok (.bipush 108, 2) := by decide +kernel
theorem dX10_named_39 : decode cX10_named 39 = .ok (.if_icmp .ne 7, 3) := by decide +kernel
theorem dX10_named_42 : decode cX10_named 42 = .ok (.iconst 1, 1) := by decide +kernel
theorem dX10_named_43 : decode cX10_named 43 = .ok (.goto 4, 3) := by decide +kernel
theorem dX10_named_46 : decode cX10_named 46 = .ok (.iconst 0, 1) := by decide +kernel
theorem dX10_named_47 : decode cX10_named 47 = .ok (.istore 4, 2) := by decide +kernel
theorem dX10_named_49 : decode cX10_named 49 = .ok (.iload_n 2, 1) := by decide +kernel
theorem dX10_named_50 : decode cX10_named 50 = .ok (.ifCond .ne 17, 3) := by decide +kernel
theorem dX10_named_53 : decode cX10_named 53 = .ok (.iload_n 3, 1) := by decide +kernel
theorem dX10_named_54 : decode cX10_named 54 = .ok (.ifCond .ne 13, 3) := by decide +kernel
theorem dX10_named_57 : decode cX10_named 57 = .ok (.iload 4, 2) := by decide +kernel
theorem dX10_named_59 : decode cX10_named 59 = .ok (.ifCond .ne 8, 3) := by decide +kernel
theorem dX10_named_62 : decode cX10_named 62 = .ok (.aload_n 0, 1) := by decide +kernel
theorem dX10_named_63 : decode cX10_named 63 = .ok (.invokevirtual 105, 3) := by decide +kernel
theorem dX10_named_66 : decode cX10_named 66 = .ok (.ireturn, 1) := by decide +kernel
theorem dX10_named_67 : decode cX10_named 67 = .ok (.aload_n 0, 1) := by decide +kernel
theorem dX10_named_68 : decode cX10_named 68 = .ok (.dup, 1) := by decide +kernel
theorem dX10_named_69 : decode cX10_named 69 = .ok (.getfield 96, 3) := by decide +kernel
theorem dX10_named_72 : decode cX10_named 72 = .ok (.iconst 1, 1) := by decide +kernel
theorem dX10_named_73 : decode cX10_named 73 = .ok (.iadd, 1) := by decide +kernel
theorem dX10_named_74 : decode cX10_named 74 = .ok (.putfield 96, 3) := by decide +kernel
theorem dX10_named_77 : decode cX10_named 77 = .ok (.iload_n 2, 1) := by decide +kernel
theorem dX10_named_78 : decode cX10_named 78 = .ok (.ifCond .eq 10, 3) := by decide +kernel
theorem dX10_named_81 : decode cX10_named 81 = .ok (.aload_n 0, 1) := by decide +kernel
theorem dX10_named_82 : decode cX10_named 82 = .ok (.getfield 109, 3) := by decide +kernel
theorem dX10_named_85 : decode cX10_named 85 = .ok (.goto 18, 3) := by decide +kernel
theorem dX10_named_88 : decode cX10_named 88 = .ok (.iload_n 3, 1) := by decide +kernel
theorem dX10_named_89 : decode cX10_named 89 = .ok (.ifCond .eq 10, 3) := by decide +kernel
theorem dX10_named_92 : decode cX10_named 92 = .ok (.aload_n 0, 1) := by decide +kernel
theorem dX10_named_93 : decode cX10_named 93 = .ok (.getfield 112, 3) := by decide +kernel
theorem dX10_named_96 : decode cX10_named 96 = .ok (.goto 7, 3) := by decide +kernel
theorem dX10_named_99 : decode cX10_named 99 = .ok (.aload_n 0, 1) := by decide +kernel
theorem dX10_named_100 : decode cX10_named 100 = .ok (.getfield 115, 3) := by decide +kernel
theorem dX10_named_103 : decode cX10_named 103 = .ok (.ireturn, 1) := by decide +kernel
theorem dX10_factor_0 : decode cX10_factor 0 = .ok (.aload_n 0, 1) := by decide +kernel
theorem dX10_factor_1 : decode cX10_factor 1 = .ok (.aload_n 0, 1) := by decide +kernel
theorem dX10_factor_2 : decode cX10_factor 2 = .ok (.getfield 96, 3) := by decide +kernel
theorem dX10_factor_5 : decode cX10_factor 5 = .ok (.invokevirtual 99, 3) := by decide +kernel
theorem dX10_factor_8 : decode cX10_factor 8 = .ok (.istore_n 1, 1) := by decide +kernel
theorem dX10_factor_9 : decode cX10_factor 9 = .ok (.iload_n 1, 1) := by decide +kernel
theorem dX10_factor_10 : decode cX10_factor 10 = .ok (.invokestatic 102, 3) := by decide +kernel
theorem dX10_factor_13 : decode cX10_factor 13 = .ok (.ifCond .eq 8, 3) := by decide +kernel
theorem dX10_factor_16 : decode cX10_factor 16 = .ok (.aload_n 0, 1) := by decide +kernel
theorem dX10_factor_17 : decode cX10_factor 17 = .ok (.invokevirtual 118, 3) := by decide +kernel
theorem dX10_factor_20 : decode cX10_factor 20 = .ok (.ireturn, 1) := by decide +kernel
theorem dX10_factor_21 : decode cX10_factor 21 = .ok (.iload_n 1, 1) := by decide +kernel
theorem dX10_factor_22 : decode cX10_factor 22 = .ok (.bipush 33, 2) := by decide +kernel
theorem dX10_factor_24 : decode cX10_factor 24 = .ok (.if_icmp .eq 15, 3) := by decide +kernel
theorem dX10_factor_27 : decode cX10_factor 27 = .ok (.iload_n 1, 1) := by decide +kernel
theorem dX10_factor_28 : decode cX10_factor 28 = .ok (.bipush 40, 2) := by decide +kernel
theorem dX10_factor_30 : decode cX10_factor 30 = .ok (.if_icmp .eq 9, 3) := by decide +kernel
theorem dX10_factor_33 : decode cX10_factor 33 = .ok (.aload_n 0, 1) := by decide +kernel
theorem dX10_factor_34 : decode cX10_factor 34 = .ok (.iload_n 1, 1) := by decide +kernel
theorem dX10_factor_35 : decode cX10_factor 35 = .ok (.invokevirtual 121, 3) := by decide +kernel
theorem dX10_factor_38 : decode cX10_factor 38 = .ok (.ireturn, 1) := by decide +kernel
theorem dX10_factor_39 : decode cX10_factor 39 = .ok (.aload_n 0, 1) := by decide +kernel
theorem dX10_factor_40 : decode cX10_factor 40 = .ok (.getfield 124, 3) := by decide +kernel
theorem dX10_factor_43 : decode cX10_factor 43 = .ok (.iconst 5, 1) := by decide +kernel
theorem dX10_factor_44 : decode cX10_factor 44 = .ok (.if_icmp .ne 8, 3) := by decide +kernel
theorem dX10_factor_47 : decode cX10_factor 47 = .ok (.aload_n 0, 1) := by decide +kernel
theorem dX10_factor_48 : decode cX10_factor 48 = .ok (.invokevirtual 105, 3) := by decide +kernel
theorem dX10_factor_51 : decode cX10_factor 51 = .ok (.ireturn, 1) := by decide +kernel
theorem dX10_factor_52 : decode cX10_factor 52 = .ok (.aload_n 0, 1) := by decide +kernel
theorem dX10_factor_53 : decode cX10_factor 53 = .ok (.dup, 1) := by decide +kernel
theorem dX10_factor_54 : decode cX10_factor 54 = .ok (.getfield 124, 3) := by decide +kernel
theorem dX10_factor_57 : decode cX10_factor 57 = .ok (.iconst 1, 1) := by decide +kernel
theorem dX10_factor_58 : decode cX10_factor 58 = .ok (.iadd, 1) := by decide +kernel
theorem dX10_factor_59 : decode cX10_factor 59 = .ok (.putfield 124, 3) := by decide +kernel
theorem dX10_factor_62 : decode cX10_factor 62 = .ok (.aload_n 0, 1) := by decide +kernel
theorem dX10_factor_63 : decode cX10_factor 63 = .ok (.dup, 1) := by decide +kernel
theorem dX10_factor_64 : decode cX10_factor 64 = .ok (.getfield 96, 3) := by decide +kernel
theorem dX10_factor_67 : decode cX10_factor 67 = .ok (.iconst 1, 1) := by decide +kernel
theorem dX10_factor_68 : decode cX10_factor 68 = .ok (.iadd, 1) := by decide +kernel
theorem dX10_factor_69 : decode cX10_factor 69 = .ok (.putfield 96, 3) := by decide +kernel
theorem dX10_factor_72 : decode cX10_factor 72 = .ok (.iload_n 1, 1) := by decide +kernel
theorem dX10_factor_73 : decode cX10_factor 73 = .ok (.bipush 33, 2) := by decide +kernel
theorem dX10_factor_75 : decode cX10_factor 75 = .ok (.if_icmp .ne 10, 3) := by decide +kernel
theorem dX10_factor_78 : decode cX10_factor 78 = .ok (.aload_n 0, 1) := by decide +kernel
theorem dX10_factor_79 : decode cX10_factor 79 = .ok (.invokevirtual 127, 3) := by decide +kernel
theorem dX10_factor_82 : decode cX10_factor 82 = .ok (.goto 7, 3) := by decide +kernel
theorem dX10_factor_85 : decode cX10_factor 85 = .ok (.aload_n 0, 1) := by decide +kernel
theorem dX10_factor_86 : decode cX10_factor 86 = .ok (.invokevirtual 130, 3) := by decide +kernel
theorem dX10_factor_89 : decode cX10_factor 89 = .ok (.istore_n 2, 1) := by decide +kernel
theorem dX10_factor_90 : decode cX10_factor 90 = .ok (.aload_n 0, 1) := by decide +kernel
theorem dX10_factor_91 : decode cX10_factor 91 = .ok (.dup, 1) := by decide +kernel
theorem dX10_factor_92 : decode cX10_factor 92 = .ok (.getfield 124, 3) := by decide +kernel
theorem dX10_factor_95 : decode cX10_factor 95 = .ok (.iconst 1, 1) := by decide +kernel
theorem dX10_factor_96 : decode cX10_factor 96 = .ok (.isub, 1) := by decide +kernel
theorem dX10_factor_97 : decode cX10_factor 97 = .ok (.putfield 124, 3) := by decide +kernel
theorem dX10_factor_100 : decode cX10_factor 100 = .ok (.iload_n 1, 1) := by decide +kernel
theorem dX10_factor_101 : decode cX10_factor 101 = .ok (.bipush 33, 2) := by decide +kernel
theorem dX10_factor_103 : decode cX10_factor 103 = .ok (.if_icmp .ne 13, 3) := by decide +kernel
theorem dX10_factor_106 : decode cX10_factor 106 = .ok (.iload_n 2, 1) := by decide +kernel
theorem dX10_factor_107 : decode cX10_factor 107 = .ok (.ifCond .ne 7, 3) := by decide +kernel
theorem dX10_factor_110 : decode cX10_factor 110 = .ok (.iconst 1, 1) := by decide +kernel
theorem dX10_factor_111 : decode cX10_factor 111 = .ok (.goto 4, 3) := by decide +kernel
theorem dX10_factor_114 : decode cX10_factor 114 = .ok (.iconst 0, 1) := by decide +kernel
theorem dX10_factor_115 : decode cX10_factor 115 = .ok (.ireturn, 1) := by decide +kernel
theorem dX10_factor_116 : decode cX10_factor 116 = .ok (.aload_n 0, 1) := by decide +kernel
theorem dX10_factor_117 : decode cX10_factor 117 = .ok (.getfield 92, 3) := by decide +kernel
theorem dX10_factor_120 : decode cX10_factor 120 = .ok (.ifCond .eq 28, 3) := by decide +kernel
theorem dX10_factor_123 : decode cX10_factor 123 = .ok (.aload_n 0, 1) := by decide +kernel
theorem dX10_factor_124 : decode cX10_factor 124 = .ok (.aload_n 0, 1) := by decide +kernel
theorem dX10_factor_125 : decode cX10_factor 125 = .ok (.getfield 96, 3) := by decide +kernel
theorem dX10_factor_128 : decode cX10_factor 128 = .ok (.invokevirtual 99, 3) := by decide +kernel
theorem dX10_factor_131 : decode cX10_factor 131 = .ok (.bipush 41, 2) := by decide +kernel
theorem dX10_factor_133 : decode cX10_factor 133 = .ok (.if_icmp .ne 15, 3) := by decide +kernel
theorem dX10_factor_136 : decode cX10_factor 136 = .ok (.aload_n 0, 1) := by decide +kernel
theorem dX10_factor_137 : decode cX10_factor 137 = .ok (.dup, 1) := by decide +kernel
theorem dX10_factor_138 : decode cX10_factor 138 = .ok (.getfield 96, 3) := by decide +kernel
theorem dX10_factor_141 : decode cX10_factor 141 = .ok (.iconst 1, 1) := by decide +kernel
theorem dX10_factor_142 : decode cX10_factor 142 = .ok (.iadd, 1) := by decide +kernel
theorem dX10_factor_143 : decode cX10_factor 143 = .ok (.putfield 96, 3) := by decide +kernel
theorem dX10_factor_146 : decode cX10_factor 146 = .ok (.iload_n 2, 1) := by decide +kernel
theorem dX10_factor_147 : decode cX10_factor 147 = .ok (.ireturn, 1) := by decide +kernel
theorem dX10_factor_148 : decode cX10_factor 148 = .ok (.aload_n 0, 1) := by decide +kernel
theorem dX10_factor_149 : decode cX10_factor 149 = .ok (.invokevirtual 105, 3) := by decide +kernel
theorem dX10_factor_152 : decode cX10_factor 152 = .ok (.ireturn, 1) := by decide +kernel
theorem dX10_product_0 : decode cX10_product 0 = .ok (.aload_n 0, 1) := by decide +kernel
theorem dX10_product_1 : decode cX10_product 1 = .ok (.invokevirtual 127, 3) := by decide +kernel
theorem dX10_product_4 : decode cX10_product 4 = .ok (.istore_n 1, 1) := by decide +kernel
theorem dX10_product_5 : decode cX10_product 5 = .ok (.aload_n 0, 1) := by decide +kernel
theorem dX10_product_6 : decode cX10_product 6 = .ok (.getfield 92, 3) := by decide +kernel
theorem dX10_product_9 : decode cX10_product 9 = .ok (.ifCond .eq 105, 3) := by decide +kernel
theorem dX10_product_12 : decode cX10_product 12 = .ok (.aload_n 0, 1) := by decide +kernel
theorem dX10_product_13 : decode cX10_product 13 = .ok (.aload_n 0, 1) := by decide +kernel
theorem dX10_product_14 : decode cX10_product 14 = .ok (.getfield 96, 3) := by decide +kernel
theorem dX10_product_17 : decode cX10_product 17 = .ok (.invokevirtual 99, 3) := by decide +kernel
theorem dX10_product_20 : decode cX10_product 20 = .ok (.bipush 42, 2) := by decide +kernel
theorem dX10_product_22 : decode cX10_product 22 = .ok (.if_icmp .eq 29, 3) := by decide +kernel
theorem dX10_product_25 : decode cX10_product 25 = .ok (.aload_n 0, 1) := by decide +kernel
theorem dX10_product_26 : decode cX10_product 26 = .ok (.aload_n 0, 1) := by decide +kernel
theorem dX10_product_27 : decode cX10_product 27 = .ok (.getfield 96, 3) := by decide +kernel
theorem dX10_product_30 : decode cX10_product 30 = .ok (.invokevirtual 99, 3) := by decide +kernel
theorem dX10_product_33 : decode cX10_product 33 = .ok (.bipush 47, 2) := by decide +kernel
theorem dX10_product_35 : decode cX10_product 35 = .ok (.if_icmp .eq 16, 3) := by decide +kernel
theorem dX10_product_38 : decode cX10_product 38 = .ok (.aload_n 0, 1) := by decide +kernel
theorem dX10_product_39 : decode cX10_product 39 = .ok (.aload_n 0, 1) := by decide +kernel
theorem dX10_product_40 : decode cX10_product 40 = .ok (.getfield 96, 3) := by decide +kernel
theorem dX10_product_43 : decode cX10_product 43 = .ok (.invokevirtual 99, 3) := by decide +kernel
theorem dX10_product_46 : decode cX10_product 46 = .ok (.bipush 37, 2) := by decide +kernel
theorem dX10_product_48 : decode cX10_product 48 = .ok (.if_icmp .ne 66, 3) := by decide +kernel
theorem dX10_product_51 : decode cX10_product 51 = .ok (.aload_n 0, 1) := by decide +kernel
theorem dX10_product_52 : decode cX10_product 52 = .ok (.aload_n 0, 1) := by decide +kernel
theorem dX10_product_53 : decode cX10_product 53 = .ok (.getfield 96, 3) := by decide +kernel
theorem dX10_product_56 : decode cX10_product 56 = .ok (.invokevirtual 99, 3) := by decide +kernel
theorem dX10_product_59 : decode cX10_product 59 = .ok (.istore_n 2, 1) := by decide +kernel
theorem dX10_product_60 : decode cX10_product 60 = .ok (.aload_n 0, 1) := by decide +kernel
theorem dX10_product_61 : decode cX10_product 61 = .ok (.dup, 1) := by decide +kernel
theorem dX10_product_62 : decode cX10_product 62 = .ok (.getfield 96, 3) := by decide +kernel
theorem dX10_product_65 : decode cX10_product 65 = .ok (.iconst 1, 1) := by decide +kernel
theorem dX10_product_66 : decode cX10_product 66 = .ok (.iadd, 1) := by decide +kernel
theorem dX10_product_67 : decode cX10_product 67 = .ok (.putfield 96, 3) := by decide +kernel
theorem dX10_product_70 : decode cX10_product 70 = .ok (.aload_n 0, 1) := by decide +kernel
theorem dX10_product_71 : decode cX10_product 71 = .ok (.invokevirtual 127, 3) := by decide +kernel
theorem dX10_product_74 : decode cX10_product 74 = .ok (.istore_n 3, 1) := by decide +kernel
theorem dX10_product_75 : decode cX10_product 75 = .ok (.iload_n 2, 1) := by decide +kernel
theorem dX10_product_76 : decode cX10_product 76 = .ok (.bipush 42, 2) := by decide +kernel
theorem dX10_product_78 : decode cX10_product 78 = .ok (.if_icmp .ne 9, 3) := by decide +kernel
theorem dX10_product_81 : decode cX10_product 81 = .ok (.iload_n 1, 1) := by decide +kernel
theorem dX10_product_82 : decode cX10_product 82 = .ok (.iload_n 3, 1) := by decide +kernel
theorem dX10_product_83 : decode cX10_product 83 = .ok (.imul, 1) := by decide +kernel
theorem dX10_product_84 : decode cX10_product 84 = .ok (.goto 26, 3) := by decide +kernel
theorem dX10_product_87 : decode cX10_product 87 = .ok (.iload_n 3, 1) := by decide +kernel
theorem dX10_product_88 : decode cX10_product 88 = .ok (.ifCond .ne 7, 3) := by decide +kernel
theorem dX10_product_91 : decode cX10_product 91 = .ok (.iconst 0, 1) := by decide +kernel
theorem dX10_product_92 : decode cX10_product 92 = .ok (.goto 18, 3) := by decide +kernel
theorem dX10_product_95 : decode cX10_product 95 = .ok (.iload_n 2, 1) := by decide +kernel
theorem dX10_product_96 : decode cX10_product 96 = .ok (.bipush 47, 2) := by decide +kernel
theorem dX10_product_98 : decode cX10_product 98 = .ok (.if_icmp .ne 9, 3) := by decide +kernel
theorem dX10_product_101 : decode cX10_product 101 = .ok (.iload_n 1, 1) := by decide +kernel
theorem dX10_product_102 : decode cX10_product 102 = .ok (.iload_n 3, 1) := by decide +kernel
theorem dX10_product_103 : decode cX10_product 103 = .ok (.idiv, 1) := by decide +kernel
theorem dX10_product_104 : decode cX10_product 104 = .ok (.goto 6, 3) := by decide +kernel
theorem dX10_product_107 : decode cX10_product 107 = .ok (.iload_n 1, 1) := by decide +kernel
theorem dX10_product_108 : decode cX10_product 108 = .ok (.iload_n 3, 1) := by decide +kernel
theorem dX10_product_109 : decode cX10_product 109 = .ok (.irem, 1) := by decide +kernel
theorem dX10_product_110 : decode cX10_product 110 = .ok (.istore_n 1, 1) := by decide +kernel
theorem dX10_product_111 : decode cX10_product 111 = .ok (.goto (-106), 3) := by decide +kernel
theorem dX10_product_114 : decode cX10_product 114 = .ok (.iload_n 1, 1) := by decide +kernel
theorem dX10_product_115 : decode cX10_product 115 = .ok (.ireturn, 1) := by decide +kernel
theorem dX10_sum_0 : decode cX10_sum 0 = .ok (.aload_n 0, 1) := by decide +kernel
theorem dX10_sum_1 : decode cX10_sum 1 = .ok (.invokevirtual 133, 3) := by decide +kernel
theorem dX10_sum_4 : decode cX10_sum 4 = .ok (.istore_n 1, 1) := by decide +kernel
theorem dX10_sum_5 : decode cX10_sum 5 = .ok (.aload_n 0, 1) := by decide +kernel
theorem dX10_sum_6 : decode cX10_sum 6 = .ok (.getfield 92, 3) := by decide +kernel
theorem dX10_sum_9 : decode cX10_sum 9 = .ok (.ifCond .eq 72, 3) := by decide +kernel
theorem dX10_sum_12 : decode cX10_sum 12 = .ok (.aload_n 0, 1) := by decide +kernel
theorem dX10_sum_13 : decode cX10_sum 13 = .ok (.aload_n 0, 1) := by decide +kernel
theorem dX10_sum_14 : decode cX10_sum 14 = .ok (.getfield 96, 3) := by decide +kernel
theorem dX10_sum_17 : decode cX10_sum 17 = .ok (.invokevirtual 99, 3) := by decide +kernel
theorem dX10_sum_20 : decode cX10_sum 20 = .ok (.bipush 43, 2) := by decide +kernel
theorem dX10_sum_22 : decode cX10_sum 22 = .ok (.if_icmp .eq 16, 3) := by decide +kernel
theorem dX10_sum_25 : decode cX10_sum 25 = .ok (.aload_n 0, 1) := by decide +kernel
theorem dX10_sum_26 : decode cX10_sum 26 = .ok (.aload_n 0, 1) := by decide +kernel
theorem dX10_sum_27 : decode cX10_sum 27 = .ok (.getfield 96, 3) := by decide +kernel
theorem dX10_sum_30 : decode cX10_sum 30 = .ok (.invokevirtual 99, 3) := by decide +kernel
theorem dX10_sum_33 : decode cX10_sum 33 = .ok (.bipush 45, 2) := by decide +kernel
theorem dX10_sum_35 : decode cX10_sum 35 = .ok (.if_icmp .ne 46, 3) := by decide +kernel
theorem dX10_sum_38 : decode cX10_sum 38 = .ok (.aload_n 0, 1) := by decide +kernel
theorem dX10_sum_39 : decode cX10_sum 39 = .ok (.aload_n 0, 1) := by decide +kernel
theorem dX10_sum_40 : decode cX10_sum 40 = .ok (.getfield 96, 3) := by decide +kernel
theorem dX10_sum_43 : decode cX10_sum 43 = .ok (.invokevirtual 99, 3) := by decide +kernel
theorem dX10_sum_46 : decode cX10_sum 46 = .ok (.istore_n 2, 1) := by decide +kernel
theorem dX10_sum_47 : decode cX10_sum 47 = .ok (.aload_n 0, 1) := by decide +kernel
theorem dX10_sum_48 : decode cX10_sum 48 = .ok (.dup, 1) := by decide +kernel
theorem dX10_sum_49 : decode cX10_sum 49 = .ok (.getfield 96, 3) := by decide +kernel
theorem dX10_sum_52 : decode cX10_sum 52 = .ok (.iconst 1, 1) := by decide +kernel
theorem dX10_sum_53 : decode cX10_sum 53 = .ok (.iadd, 1) := by decide +kernel
theorem dX10_sum_54 : decode cX10_sum 54 = .ok (.putfield 96, 3) := by decide +kernel
theorem dX10_sum_57 : decode cX10_sum 57 = .ok (.aload_n 0, 1) := by decide +kernel
theorem dX10_sum_58 : decode cX10_sum 58 = .ok (.invokevirtual 133, 3) := by decide +kernel
theorem dX10_sum_61 : decode cX10_sum 61 = .ok (.istore_n 3, 1) := by decide +kernel
theorem dX10_sum_62 : decode cX10_sum 62 = .ok (.iload_n 2, 1) := by decide +kernel
theorem dX10_sum_63 : decode cX10_sum 63 = .ok (.bipush 43, 2) := by decide +kernel
theorem dX10_sum_65 : decode cX10_sum 65 = .ok (.if_icmp .ne 9, 3) := by decide +kernel
theorem dX10_sum_68 : decode cX10_sum 68 = .ok (.iload_n 1, 1) := by decide +kernel
theorem dX10_sum_69 : decode cX10_sum 69 = .ok (.iload_n 3, 1) := by decide +kernel
theorem dX10_sum_70 : decode cX10_sum 70 = .ok (.iadd, 1) := by decide +kernel
theorem dX10_sum_71 : decode cX10_sum 71 = .ok (.goto 6, 3) := by decide +kernel
theorem dX10_sum_74 : decode cX10_sum 74 = .ok (.iload_n 1, 1) := by decide +kernel
theorem dX10_sum_75 : decode cX10_sum 75 = .ok (.iload_n 3, 1) := by decide +kernel
theorem dX10_sum_76 : decode cX10_sum 76 = .ok (.isub, 1) := by decide +kernel
theorem dX10_sum_77 : decode cX10_sum 77 = .ok (.istore_n 1, 1) := by decide +kernel
theorem dX10_sum_78 : decode cX10_sum 78 = .ok (.goto (-73), 3) := by decide +kernel
theorem dX10_sum_81 : decode cX10_sum 81 = .ok (.iload_n 1, 1) := by decide +kernel
theorem dX10_sum_82 : decode cX10_sum 82 = .ok (.ireturn, 1) := by decide +kernel
theorem dX10_compared_0 : decode cX10_compared 0 = .ok (.aload_n 0, 1) := by decide +kernel
theorem dX10_compared_1 : decode cX10_compared 1 = .ok (.invokevirtual 136, 3) := by decide +kernel
theorem dX10_compared_4 : decode cX10_compared 4 = .ok (.istore_n 1, 1) := by decide +kernel
theorem dX10_compared_5 : decode cX10_compared 5 = .ok (.aload_n 0, 1) := by decide +kernel
theorem dX10_compared_6 : decode cX10_compared 6 = .ok (.getfield 92, 3) := by decide +kernel
theorem dX10_compared_9 : decode cX10_compared 9 = .ok (.ifCond .eq 14, 3) := by decide +kernel
theorem dX10_compared_12 : decode cX10_compared 12 = .ok (.aload_n 0, 1) := by decide +kernel
theorem dX10_compared_13 : decode cX10_compared 13 = .ok (.aload_n 0, 1) := by decide +kernel
theorem dX10_compared_14 : decode cX10_compared 14 = .ok (.getfield 96, 3) := by decide +kernel
theorem dX10_compared_17 : decode cX10_compared 17 = .ok (.invokevirtual 99, 3) := by decide +kernel
theorem dX10_compared_20 : decode cX10_compared 20 = .ok (.goto 4, 3) := by decide +kernel
theorem dX10_compared_23 : decode cX10_compared 23 = .ok (.iconst (-1), 1) := by decide +kernel
theorem dX10_compared_24 : decode cX10_compared 24 = .ok (.istore_n 2, 1) := by decide +kernel
theorem dX10_compared_25 : decode cX10_compared 25 = .ok (.iload_n 2, 1) := by decide +kernel
theorem dX10_compared_26 : decode cX10_compared 26 = .ok (.bipush 60, 2) := by decide +kernel
theorem dX10_compared_28 : decode cX10_compared 28 = .ok (.if_icmp .eq 17, 3) := by decide +kernel
theorem dX10_compared_31 : decode cX10_compared 31 = .ok (.iload_n 2, 1) := by decide +kernel
theorem dX10_compared_32 : decode cX10_compared 32 = .ok (.bipush 61, 2) := by decide +kernel
theorem dX10_compared_34 : decode cX10_compared 34 = .ok (.if_icmp .eq 11, 3) := by decide +kernel
theorem dX10_compared_37 : decode cX10_compared 37 = .ok (.iload_n 2, 1) := by decide +kernel
theorem dX10_compared_38 : decode cX10_compared 38 = .ok (.bipush 62, 2) := by decide +kernel
theorem dX10_compared_40 : decode cX10_compared 40 = .ok (.if_icmp .eq 5, 3) := by decide +kernel
theorem dX10_compared_43 : decode cX10_compared 43 = .ok (.iload_n 1, 1) := by decide +kernel
theorem dX10_compared_44 : decode cX10_compared 44 = .ok (.ireturn, 1) := by decide +kernel
theorem dX10_compared_45 : decode cX10_compared 45 = .ok (.aload_n 0, 1) := by decide +kernel
theorem dX10_compared_46 : decode cX10_compared 46 = .ok (.dup, 1) := by decide +kernel
theorem dX10_compared_47 : decode cX10_compared 47 = .ok (.getfield 96, 3) := by decide +kernel
theorem dX10_compared_50 : decode cX10_compared 50 = .ok (.iconst 1, 1) := by decide +kernel
theorem dX10_compared_51 : decode cX10_compared 51 = .ok (.iadd, 1) := by decide +kernel
theorem dX10_compared_52 : decode cX10_compared 52 = .ok (.putfield 96, 3) := by decide +kernel
theorem dX10_compared_55 : decode cX10_compared 55 = .ok (.aload_n 0, 1) := by decide +kernel
theorem dX10_compared_56 : decode cX10_compared 56 = .ok (.invokevirtual 136, 3) := by decide +kernel
theorem dX10_compared_59 : decode cX10_compared 59 = .ok (.istore_n 3, 1) := by decide +kernel
theorem dX10_compared_60 : decode cX10_compared 60 = .ok (.iload_n 2, 1) := by decide +kernel
theorem dX10_compared_61 : decode cX10_compared 61 = .ok (.bipush 60, 2) := by decide +kernel
theorem dX10_compared_63 : decode cX10_compared 63 = .ok (.if_icmp .ne 16, 3) := by decide +kernel
theorem dX10_compared_66 : decode cX10_compared 66 = .ok (.iload_n 1, 1) := by decide +kernel
theorem dX10_compared_67 : decode cX10_compared 67 = .ok (.iload_n 3, 1) := by decide +kernel
theorem dX10_compared_68 : decode cX10_compared 68 = .ok (.if_icmp .ge 7, 3) := by decide +kernel
theorem dX10_compared_71 : decode cX10_compared 71 = .ok (.iconst 1, 1) := by decide +kernel
theorem dX10_compared_72 : decode cX10_compared 72 = .ok (.goto 36, 3) := by decide +kernel
theorem dX10_compared_75 : decode cX10_compared 75 = .ok (.iconst 0, 1) := by decide +kernel
theorem dX10_compared_76 : decode cX10_compared 76 = .ok (.goto 32, 3) := by decide +kernel
theorem dX10_compared_79 : decode cX10_compared 79 = .ok (.iload_n 2, 1) := by decide +kernel
theorem dX10_compared_80 : decode cX10_compared 80 = .ok (.bipush 61, 2) := by decide +kernel
theorem dX10_compared_82 : decode cX10_compared 82 = .ok (.if_icmp .ne 16, 3) := by decide +kernel
theorem dX10_compared_85 : decode cX10_compared 85 = .ok (.iload_n 1, 1) := by decide +kernel
theorem dX10_compared_86 : decode cX10_compared 86 = .ok (.iload_n 3, 1) := by decide +kernel
theorem dX10_compared_87 : decode cX10_compared 87 = .ok (.if_icmp .ne 7, 3) := by decide +kernel
theorem dX10_compared_90 : decode cX10_compared 90 = .ok (.iconst 1, 1) := by decide +kernel
theorem dX10_compared_91 : decode cX10_compared 91 = .ok (.goto 17, 3) := by decide +kernel
theorem dX10_compared_94 : decode cX10_compared 94 = .ok (.iconst 0, 1) := by decide +kernel
theorem dX10_compared_95 : decode cX10_compared 95 = .ok (.goto 13, 3) := by decide +kernel
theorem dX10_compared_98 : decode cX10_compared 98 = .ok (.iload_n 1, 1) := by decide +kernel
theorem dX10_compared_99 : decode cX10_compared 99 = .ok (.iload_n 3, 1) := by decide +kernel
theorem dX10_compared_100 : decode cX10_compared 100 = .ok (.if_icmp .le 7, 3) := by decide +kernel
theorem dX10_compared_103 : decode cX10_compared 103 = .ok (.iconst 1, 1) := by decide +kernel
theorem dX10_compared_104 : decode cX10_compared 104 = .ok (.goto 4, 3) := by decide +kernel
theorem dX10_compared_107 : decode cX10_compared 107 = .ok (.iconst 0, 1) := by decide +kernel
theorem dX10_compared_108 : decode cX10_compared 108 = .ok (.istore 4, 2) := by decide +kernel
theorem dX10_compared_110 : decode cX10_compared 110 = .ok (.iload 4, 2) := by decide +kernel
theorem dX10_compared_112 : decode cX10_compared 112 = .ok (.ifCond .eq 7, 3) := by decide +kernel
theorem dX10_compared_115 : decode cX10_compared 115 = .ok (.iconst 1, 1) := by decide +kernel
theorem dX10_compared_116 : decode cX10_compared 116 = .ok (.goto 4, 3) := by decide +kernel
theorem dX10_compared_119 : decode cX10_compared 119 = .ok (.iconst 0, 1) := by decide +kernel
theorem dX10_compared_120 : decode cX10_compared 120 = .ok (.ireturn, 1) := by decide +kernel
theorem dX10_both_0 : decode cX10_both 0 = .ok (.aload_n 0, 1) := by decide +kernel
theorem dX10_both_1 : decode cX10_both 1 = .ok (.invokevirtual 139, 3) := by decide +kernel
theorem dX10_both_4 : decode cX10_both 4 = .ok (.istore_n 1, 1) := by decide +kernel
theorem dX10_both_5 : decode cX10_both 5 = .ok (.aload_n 0, 1) := by decide +kernel
theorem dX10_both_6 : decode cX10_both 6 = .ok (.getfield 92, 3) := by decide +kernel
theorem dX10_both_9 : decode cX10_both 9 = .ok (.ifCond .eq 48, 3) := by decide +kernel
theorem dX10_both_12 : decode cX10_both 12 = .ok (.aload_n 0, 1) := by decide +kernel
theorem dX10_both_13 : decode cX10_both 13 = .ok (.aload_n 0, 1) := by decide +kernel
theorem dX10_both_14 : decode cX10_both 14 = .ok (.getfield 96, 3) := by decide +kernel
theorem dX10_both_17 : decode cX10_both 17 = .ok (.invokevirtual 99, 3) := by decide +kernel
theorem dX10_both_20 : decode cX10_both 20 = .ok (.bipush 38, 2) := by decide +kernel
theorem dX10_both_22 : decode cX10_both 22 = .ok (.if_icmp .ne 35, 3) := by decide +kernel
theorem dX10_both_25 : decode cX10_both 25 = .ok (.aload_n 0, 1) := by decide +kernel
theorem dX10_both_26 : decode cX10_both 26 = .ok (.dup, 1) := by decide +kernel
theorem dX10_both_27 : decode cX10_both 27 = .ok (.getfield 96, 3) := by decide +kernel
theorem dX10_both_30 : decode cX10_both 30 = .ok (.iconst 1, 1) := by decide +kernel
theorem dX10_both_31 : decode cX10_both 31 = .ok (.iadd, 1) := by decide +kernel
theorem dX10_both_32 : decode cX10_both 32 = .ok (.putfield 96, 3) := by decide +kernel
theorem dX10_both_35 : decode cX10_both 35 = .ok (.aload_n 0, 1) := by decide +kernel
theorem dX10_both_36 : decode cX10_both 36 = .ok (.invokevirtual 139, 3) := by decide +kernel
theorem dX10_both_39 : decode cX10_both 39 = .ok (.istore_n 2, 1) := by decide +kernel
theorem dX10_both_40 : decode cX10_both 40 = .ok (.iload_n 1, 1) := by decide +kernel
theorem dX10_both_41 : decode cX10_both 41 = .ok (.ifCond .eq 11, 3) := by decide +kernel
theorem dX10_both_44 : decode cX10_both 44 = .ok (.iload_n 2, 1) := by decide +kernel
theorem dX10_both_45 : decode cX10_both 45 = .ok (.ifCond .eq 7, 3) := by decide +kernel
theorem dX10_both_48 : decode cX10_both 48 = .ok (.iconst 1, 1) := by decide +kernel
theorem dX10_both_49 : decode cX10_both 49 = .ok (.goto 4, 3) := by decide +kernel
theorem dX10_both_52 : decode cX10_both 52 = .ok (.iconst 0, 1) := by decide +kernel
theorem dX10_both_53 : decode cX10_both 53 = .ok (.istore_n 1, 1) := by decide +kernel
theorem dX10_both_54 : decode cX10_both 54 = .ok (.goto (-49), 3) := by decide +kernel
theorem dX10_both_57 : decode cX10_both 57 = .ok (.iload_n 1, 1) := by decide +kernel
theorem dX10_both_58 : decode cX10_both 58 = .ok (.ireturn, 1) := by decide +kernel
theorem dX10_whole_0 : decode cX10_whole 0 = .ok (.aload_n 0, 1) := by decide +kernel
theorem dX10_whole_1 : decode cX10_whole 1 = .ok (.invokevirtual 142, 3) := by decide +kernel
theorem dX10_whole_4 : decode cX10_whole 4 = .ok (.istore_n 1, 1) := by decide +kernel
theorem dX10_whole_5 : decode cX10_whole 5 = .ok (.aload_n 0, 1) := by decide +kernel
theorem dX10_whole_6 : decode cX10_whole 6 = .ok (.getfield 92, 3) := by decide +kernel
theorem dX10_whole_9 : decode cX10_whole 9 = .ok (.ifCond .eq 48, 3) := by decide +kernel
theorem dX10_whole_12 : decode cX10_whole 12 = .ok (.aload_n 0, 1) := by decide +kernel
theorem dX10_whole_13 : decode cX10_whole 13 = .ok (.aload_n 0, 1) := by decide +kernel
theorem dX10_whole_14 : decode cX10_whole 14 = .ok (.getfield 96, 3) := by decide +kernel
theorem dX10_whole_17 : decode cX10_whole 17 = .ok (.invokevirtual 99, 3) := by decide +kernel
theorem dX10_whole_20 : decode cX10_whole 20 = .ok (.bipush 124, 2) := by decide +kernel
theorem dX10_whole_22 : decode cX10_whole 22 = .ok (.if_icmp .ne 35, 3) := by decide +kernel
theorem dX10_whole_25 : decode cX10_whole 25 = .ok (.aload_n 0, 1) := by decide +kernel
theorem dX10_whole_26 : decode cX10_whole 26 = .ok (.dup, 1) := by decide +kernel
theorem dX10_whole_27 : decode cX10_whole 27 = .ok (.getfield 96, 3) := by decide +kernel
theorem dX10_whole_30 : decode cX10_whole 30 = .ok (.iconst 1, 1) := by decide +kernel
theorem dX10_whole_31 : decode cX10_whole 31 = .ok (.iadd, 1) := by decide +kernel
theorem dX10_whole_32 : decode cX10_whole 32 = .ok (.putfield 96, 3) := by decide +kernel
theorem dX10_whole_35 : decode cX10_whole 35 = .ok (.aload_n 0, 1) := by decide +kernel
theorem dX10_whole_36 : decode cX10_whole 36 = .ok (.invokevirtual 142, 3) := by decide +kernel
theorem dX10_whole_39 : decode cX10_whole 39 = .ok (.istore_n 2, 1) := by decide +kernel
theorem dX10_whole_40 : decode cX10_whole 40 = .ok (.iload_n 1, 1) := by decide +kernel
theorem dX10_whole_41 : decode cX10_whole 41 = .ok (.ifCond .ne 7, 3) := by decide +kernel
theorem dX10_whole_44 : decode cX10_whole 44 = .ok (.iload_n 2, 1) := by decide +kernel
theorem dX10_whole_45 : decode cX10_whole 45 = .ok (.ifCond .eq 7, 3) := by decide +kernel
theorem dX10_whole_48 : decode cX10_whole 48 = .ok (.iconst 1, 1) := by decide +kernel
theorem dX10_whole_49 : decode cX10_whole 49 = .ok (.goto 4, 3) := by decide +kernel
theorem dX10_whole_52 : decode cX10_whole 52 = .ok (.iconst 0, 1) := by decide +kernel
theorem dX10_whole_53 : decode cX10_whole 53 = .ok (.istore_n 1, 1) := by decide +kernel
theorem dX10_whole_54 : decode cX10_whole 54 = .ok (.goto (-49), 3) := by decide +kernel
theorem dX10_whole_57 : decode cX10_whole 57 = .ok (.iload_n 1, 1) := by decide +kernel
theorem dX10_whole_58 : decode cX10_whole 58 = .ok (.ireturn, 1) := by decide +kernel
theorem dX10_walks_0 : decode cX10_walks 0 = .ok (.aload_n 0, 1) := by decide +kernel
theorem dX10_walks_1 : decode cX10_walks 1 = .ok (.iload_n 1, 1) := by decide +kernel
theorem dX10_walks_2 : decode cX10_walks 2 = .ok (.putfield 89, 3) := by decide +kernel
theorem dX10_walks_5 : decode cX10_walks 5 = .ok (.aload_n 0, 1) := by decide +kernel
theorem dX10_walks_6 : decode cX10_walks 6 = .ok (.iconst 0, 1) := by decide +kernel
theorem dX10_walks_7 : decode cX10_walks 7 = .ok (.putfield 96, 3) := by decide +kernel
theorem dX10_walks_10 : decode cX10_walks 10 = .ok (.aload_n 0, 1) := by decide +kernel
theorem dX10_walks_11 : decode cX10_walks 11 = .ok (.aload_n 0, 1) := by decide +kernel
theorem dX10_walks_12 : decode cX10_walks 12 = .ok (.getfield 7, 3) := by decide +kernel
theorem dX10_walks_15 : decode cX10_walks 15 = .ok (.iconst 5, 1) := by decide +kernel
theorem dX10_walks_16 : decode cX10_walks 16 = .ok (.iload_n 1, 1) := by decide +kernel
theorem dX10_walks_17 : decode cX10_walks 17 = .ok (.iadd, 1) := by decide +kernel
theorem dX10_walks_18 : decode cX10_walks 18 = .ok (.iaload, 1) := by decide +kernel
theorem dX10_walks_19 : decode cX10_walks 19 = .ok (.putfield 85, 3) := by decide +kernel
theorem dX10_walks_22 : decode cX10_walks 22 = .ok (.aload_n 0, 1) := by decide +kernel
theorem dX10_walks_23 : decode cX10_walks 23 = .ok (.iconst 0, 1) := by decide +kernel
theorem dX10_walks_24 : decode cX10_walks 24 = .ok (.putfield 124, 3) := by decide +kernel
theorem dX10_walks_27 : decode cX10_walks 27 = .ok (.aload_n 0, 1) := by decide +kernel
theorem dX10_walks_28 : decode cX10_walks 28 = .ok (.iconst 1, 1) := by decide +kernel
theorem dX10_walks_29 : decode cX10_walks 29 = .ok (.putfield 92, 3) := by decide +kernel
theorem dX10_walks_32 : decode cX10_walks 32 = .ok (.aload_n 0, 1) := by decide +kernel
theorem dX10_walks_33 : decode cX10_walks 33 = .ok (.iload_n 2, 1) := by decide +kernel
theorem dX10_walks_34 : decode cX10_walks 34 = .ok (.putfield 109, 3) := by decide +kernel
theorem dX10_walks_37 : decode cX10_walks 37 = .ok (.aload_n 0, 1) := by decide +kernel
theorem dX10_walks_38 : decode cX10_walks 38 = .ok (.iload_n 3, 1) := by decide +kernel
theorem dX10_walks_39 : decode cX10_walks 39 = .ok (.putfield 112, 3) := by decide +kernel
theorem dX10_walks_42 : decode cX10_walks 42 = .ok (.aload_n 0, 1) := by decide +kernel
theorem dX10_walks_43 : decode cX10_walks 43 = .ok (.iload 4, 2) := by decide +kernel
theorem dX10_walks_45 : decode cX10_walks 45 = .ok (.putfield 115, 3) := by decide +kernel
theorem dX10_walks_48 : decode cX10_walks 48 = .ok (.aload_n 0, 1) := by decide +kernel
theorem dX10_walks_49 : decode cX10_walks 49 = .ok (.invokevirtual 130, 3) := by decide +kernel
theorem dX10_walks_52 : decode cX10_walks 52 = .ok (.istore 5, 2) := by decide +kernel
theorem dX10_walks_54 : decode cX10_walks 54 = .ok (.aload_n 0, 1) := by decide +kernel
theorem dX10_walks_55 : decode cX10_walks 55 = .ok (.aload_n 0, 1) := by decide +kernel
theorem dX10_walks_56 : decode cX10_walks 56 = .ok (.getfield 92, 3) := by decide +kernel
theorem dX10_walks_59 : decode cX10_walks 59 = .ok (.ifCond .eq 18, 3) := by decide +kernel
theorem dX10_walks_62 : decode cX10_walks 62 = .ok (.aload_n 0, 1) := by decide +kernel
theorem dX10_walks_63 : decode cX10_walks 63 = .ok (.getfield 96, 3) := by decide +kernel
theorem dX10_walks_66 : decode cX10_walks 66 = .ok (.aload_n 0, 1) := by decide +kernel
theorem dX10_walks_67 : decode cX10_walks 67 = .ok (.getfield 85, 3) := by decide +kernel
theorem dX10_walks_70 : decode cX10_walks 70 = .ok (.if_icmp .ne 7, 3) := by decide +kernel
theorem dX10_walks_73 : decode cX10_walks 73 = .ok (.iconst 1, 1) := by decide +kernel
theorem dX10_walks_74 : decode cX10_walks 74 = .ok (.goto 4, 3) := by decide +kernel
theorem dX10_walks_77 : decode cX10_walks 77 = .ok (.iconst 0, 1) := by decide +kernel
theorem dX10_walks_78 : decode cX10_walks 78 = .ok (.putfield 92, 3) := by decide +kernel
theorem dX10_walks_81 : decode cX10_walks 81 = .ok (.iload 5, 2) := by decide +kernel
theorem dX10_walks_83 : decode cX10_walks 83 = .ok (.ireturn, 1) := by decide +kernel
theorem dX10_lawOf_0 : decode cX10_lawOf 0 = .ok (.iload_n 1, 1) := by decide +kernel
theorem dX10_lawOf_1 : decode cX10_lawOf 1 = .ok (.ifCond .ne 8, 3) := by decide +kernel
theorem dX10_lawOf_4 : decode cX10_lawOf 4 = .ok (.bipush (-9), 2) := by decide +kernel
theorem dX10_lawOf_6 : decode cX10_lawOf 6 = .ok (.goto 4, 3) := by decide +kernel
theorem dX10_lawOf_9 : decode cX10_lawOf 9 = .ok (.iconst 0, 1) := by decide +kernel
theorem dX10_lawOf_10 : decode cX10_lawOf 10 = .ok (.istore 5, 2) := by decide +kernel
theorem dX10_lawOf_12 : decode cX10_lawOf 12 = .ok (.iload_n 1, 1) := by decide +kernel
theorem dX10_lawOf_13 : decode cX10_lawOf 13 = .ok (.ifCond .ne 8, 3) := by decide +kernel
theorem dX10_lawOf_16 : decode cX10_lawOf 16 = .ok (.bipush 19, 2) := by decide +kernel
theorem dX10_lawOf_18 : decode cX10_lawOf 18 = .ok (.goto 5, 3) := by decide +kernel
theorem dX10_lawOf_21 : decode cX10_lawOf 21 = .ok (.bipush 9, 2) := by decide +kernel
theorem dX10_lawOf_23 : decode cX10_lawOf 23 = .ok (.istore 6, 2) := by decide +kernel
theorem dX10_lawOf_25 : decode cX10_lawOf 25 = .ok (.aload_n 0, 1) := by decide +kernel
theorem dX10_lawOf_26 : decode cX10_lawOf 26 = .ok (.getfield 7, 3) := by decide +kernel
theorem dX10_lawOf_29 : decode cX10_lawOf 29 = .ok (.iconst 5, 1) := by decide +kernel
theorem dX10_lawOf_30 : decode cX10_lawOf 30 = .ok (.iload_n 1, 1) := by decide +kernel
theorem dX10_lawOf_31 : decode cX10_lawOf 31 = .ok (.iadd, 1) := by decide +kernel
theorem dX10_lawOf_32 : decode cX10_lawOf 32 = .ok (.iaload, 1) := by decide +kernel
theorem dX10_lawOf_33 : decode cX10_lawOf 33 = .ok (.ifCond .lt 20, 3) := by decide +kernel
theorem dX10_lawOf_36 : decode cX10_lawOf 36 = .ok (.aload_n 0, 1) := by decide +kernel
theorem dX10_lawOf_37 : decode cX10_lawOf 37 = .ok (.iload_n 1, 1) := by decide +kernel
theorem dX10_lawOf_38 : decode cX10_lawOf 38 = .ok (.iload_n 2, 1) := by decide +kernel
theorem dX10_lawOf_39 : decode cX10_lawOf 39 = .ok (.iload_n 3, 1) := by decide +kernel
theorem dX10_lawOf_40 : decode cX10_lawOf 40 = .ok (.iload 4, 2) := by decide +kernel
theorem dX10_lawOf_42 : decode cX10_lawOf 42 = .ok (.invokevirtual 145, 3) := by decide +kernel
theorem dX10_lawOf_45 : decode cX10_lawOf 45 = .ok (.iload 5, 2) := by decide +kernel
theorem dX10_lawOf_47 : decode cX10_lawOf 47 = .ok (.iload 6, 2) := by decide +kernel
theorem dX10_lawOf_49 : decode cX10_lawOf 49 = .ok (.invokestatic 149, 3) := by decide +kernel
theorem dX10_lawOf_52 : decode cX10_lawOf 52 = .ok (.ireturn, 1) := by decide +kernel
theorem dX10_lawOf_53 : decode cX10_lawOf 53 = .ok (.iload_n 1, 1) := by decide +kernel
theorem dX10_lawOf_54 : decode cX10_lawOf 54 = .ok (.ifCond .ne 18, 3) := by decide +kernel
theorem dX10_lawOf_57 : decode cX10_lawOf 57 = .ok (.iconst 2, 1) := by decide +kernel
theorem dX10_lawOf_58 : decode cX10_lawOf 58 = .ok (.iload_n 2, 1) := by decide +kernel
theorem dX10_lawOf_59 : decode cX10_lawOf 59 = .ok (.iconst 2, 1) := by decide +kernel
theorem dX10_lawOf_60 : decode cX10_lawOf 60 = .ok (.idiv, 1) := by decide +kernel
theorem dX10_lawOf_61 : decode cX10_lawOf 61 = .ok (.iadd, 1) := by decide +kernel
theorem dX10_lawOf_62 : decode cX10_lawOf 62 = .ok (.iload 5, 2) := by decide +kernel
theorem dX10_lawOf_64 : decode cX10_lawOf 64 = .ok (.iload 6, 2) := by decide +kernel
theorem dX10_lawOf_66 : decode cX10_lawOf 66 = .ok (.invokestatic 149, 3) := by decide +kernel
theorem dX10_lawOf_69 : decode cX10_lawOf 69 = .ok (.goto 4, 3) := by decide +kernel
theorem dX10_lawOf_72 : decode cX10_lawOf 72 = .ok (.iconst 4, 1) := by decide +kernel
theorem dX10_lawOf_73 : decode cX10_lawOf 73 = .ok (.ireturn, 1) := by decide +kernel
theorem dX10_law_0 : decode cX10_law 0 = .ok (.iload_n 1, 1) := by decide +kernel
theorem dX10_law_1 : decode cX10_law 1 = .ok (.iconst 0, 1) := by decide +kernel
theorem dX10_law_2 : decode cX10_law 2 = .ok (.iconst 1, 1) := by decide +kernel
theorem dX10_law_3 : decode cX10_law 3 = .ok (.invokestatic 44, 3) := by decide +kernel
theorem dX10_law_6 : decode cX10_law 6 = .ok (.ifCond .eq 15, 3) := by decide +kernel
theorem dX10_law_9 : decode cX10_law 9 = .ok (.aload_n 0, 1) := by decide +kernel
theorem dX10_law_10 : decode cX10_law 10 = .ok (.iload_n 1, 1) := by decide +kernel
theorem dX10_law_11 : decode cX10_law 11 = .ok (.iload_n 2, 1) := by decide +kernel
theorem dX10_law_12 : decode cX10_law 12 = .ok (.iload_n 3, 1) := by decide +kernel
theorem dX10_law_13 : decode cX10_law 13 = .ok (.iload 4, 2) := by decide +kernel
theorem dX10_law_15 : decode cX10_law 15 = .ok (.invokevirtual 153, 3) := by decide +kernel
theorem dX10_law_18 : decode cX10_law 18 = .ok (.goto 9, 3) := by decide +kernel
theorem dX10_law_21 : decode cX10_law 21 = .ok (.aload_n 0, 1) := by decide +kernel
theorem dX10_law_22 : decode cX10_law 22 = .ok (.ldc 48, 2) := by decide +kernel
theorem dX10_law_24 : decode cX10_law 24 = .ok (.invokevirtual 49, 3) := by decide +kernel
theorem dX10_law_27 : decode cX10_law 27 = .ok (.ireturn, 1) := by decide +kernel
theorem dX10_feed_0 : decode cX10_feed 0 = .ok (.iload_n 3, 1) := by decide +kernel
theorem dX10_feed_1 : decode cX10_feed 1 = .ok (.iconst 1, 1) := by decide +kernel
theorem dX10_feed_2 : decode cX10_feed 2 = .ok (.bipush 8, 2) := by decide +kernel
theorem dX10_feed_4 : decode cX10_feed 4 = .ok (.invokestatic 44, 3) := by decide +kernel
theorem dX10_feed_7 : decode cX10_feed 7 = .ok (.ifCond .ne 10, 3) := by decide +kernel
theorem dX10_feed_10 : decode cX10_feed 10 = .ok (.aload_n 0, 1) := by decide +kernel
theorem dX10_feed_11 : decode cX10_feed 11 = .ok (.ldc 48, 2) := by decide +kernel
theorem dX10_feed_13 : decode cX10_feed 13 = .ok (.invokevirtual 49, 3) := by decide +kernel
theorem dX10_feed_16 : decode cX10_feed 16 = .ok (.ireturn, 1) := by decide +kernel
theorem dX10_feed_17 : decode cX10_feed 17 = .ok (.aload_n 0, 1) := by decide +kernel
theorem dX10_feed_18 : decode cX10_feed 18 = .ok (.getfield 7, 3) := by decide +kernel
theorem dX10_feed_21 : decode cX10_feed 21 = .ok (.iconst 3, 1) := by decide +kernel
theorem dX10_feed_22 : decode cX10_feed 22 = .ok (.iaload, 1) := by decide +kernel
theorem dX10_feed_23 : decode cX10_feed 23 = .ok (.iload_n 3, 1) := by decide +kernel
theorem dX10_feed_24 : decode cX10_feed 24 = .ok (.iadd, 1) := by decide +kernel
theorem dX10_feed_25 : decode cX10_feed 25 = .ok (.bipush 50, 2) := by decide +kernel
theorem dX10_feed_27 : decode cX10_feed 27 = .ok (.if_icmp .le 10, 3) := by decide +kernel
theorem dX10_feed_30 : decode cX10_feed 30 = .ok (.aload_n 0, 1) := by decide +kernel
theorem dX10_feed_31 : decode cX10_feed 31 = .ok (.ldc 57, 2) := by decide +kernel
theorem dX10_feed_33 : decode cX10_feed 33 = .ok (.invokevirtual 49, 3) := by decide +kernel
theorem dX10_feed_36 : decode cX10_feed 36 = .ok (.ireturn, 1) := by decide +kernel
theorem dX10_feed_37 : decode cX10_feed 37 = .ok (.iconst 0, 1) := by decide +kernel
theorem dX10_feed_38 : decode cX10_feed 38 = .ok (.istore 4, 2) := by decide +kernel
theorem dX10_feed_40 : decode cX10_feed 40 = .ok (.iload 4, 2) := by decide +kernel
theorem dX10_feed_42 : decode cX10_feed 42 = .ok (.iload_n 3, 1) := by decide +kernel
theorem dX10_feed_43 : decode cX10_feed 43 = .ok (.if_icmp .ge 45, 3) := by decide +kernel
theorem dX10_feed_46 : decode cX10_feed 46 = .ok (.aload_n 0, 1) := by decide +kernel
theorem dX10_feed_47 : decode cX10_feed 47 = .ok (.getfield 7, 3) := by decide +kernel
theorem dX10_feed_50 : decode cX10_feed 50 = .ok (.bipush 43, 2) := by decide +kernel
theorem dX10_feed_52 : decode cX10_feed 52 = .ok (.aload_n 0, 1) := by decide +kernel
theorem dX10_feed_53 : decode cX10_feed 53 = .ok (.getfield 7, 3) := by decide +kernel
theorem dX10_feed_56 : decode cX10_feed 56 = .ok (.iconst 3, 1) := by decide +kernel
theorem dX10_feed_57 : decode cX10_feed 57 = .ok (.iaload, 1) := by decide +kernel
theorem dX10_feed_58 : decode cX10_feed 58 = .ok (.iadd, 1) := by decide +kernel
theorem dX10_feed_59 : decode cX10_feed 59 = .ok (.lload_n 1, 1) := by decide +kernel
theorem dX10_feed_60 : decode cX10_feed 60 = .ok (.bipush 8, 2) := by decide +kernel
theorem dX10_feed_62 : decode cX10_feed 62 = .ok (.iload 4, 2) := by decide +kernel
theorem dX10_feed_64 : decode cX10_feed 64 = .ok (.imul, 1) := by decide +kernel
theorem dX10_feed_65 : decode cX10_feed 65 = .ok (.lshr, 1) := by decide +kernel
theorem dX10_feed_66 : decode cX10_feed 66 = .ok (.ldc2_w 156, 3) := by decide +kernel
theorem dX10_feed_69 : decode cX10_feed 69 = .ok (.land, 1) := by decide +kernel
theorem dX10_feed_70 : decode cX10_feed 70 = .ok (.l2i, 1) := by decide +kernel
theorem dX10_feed_71 : decode cX10_feed 71 = .ok (.iastore, 1) := by decide +kernel
theorem dX10_feed_72 : decode cX10_feed 72 = .ok (.aload_n 0, 1) := by decide +kernel
theorem dX10_feed_73 : decode cX10_feed 73 = .ok (.getfield 7, 3) := by decide +kernel
theorem dX10_feed_76 : decode cX10_feed 76 = .ok (.iconst 3, 1) := by decide +kernel
theorem dX10_feed_77 : decode cX10_feed 77 = .ok (.dup2, 1) := by decide +kernel
theorem dX10_feed_78 : decode cX10_feed 78 = .ok (.iaload, 1) := by decide +kernel
theorem dX10_feed_79 : decode cX10_feed 79 = .ok (.iconst 1, 1) := by decide +kernel
theorem dX10_feed_80 : decode cX10_feed 80 = .ok (.iadd, 1) := by decide +kernel
theorem dX10_feed_81 : decode cX10_feed 81 = .ok (.iastore, 1) := by decide +kernel
theorem dX10_feed_82 : decode cX10_feed 82 = .ok (.iinc 4 1, 3) := by decide +kernel
theorem dX10_feed_85 : decode cX10_feed 85 = .ok (.goto (-45), 3) := by decide +kernel
theorem dX10_feed_88 : decode cX10_feed 88 = .ok (.aload_n 0, 1) := by decide +kernel
theorem dX10_feed_89 : decode cX10_feed 89 = .ok (.getfield 7, 3) := by decide +kernel
theorem dX10_feed_92 : decode cX10_feed 92 = .ok (.iconst 3, 1) := by decide +kernel
theorem dX10_feed_93 : decode cX10_feed 93 = .ok (.iaload, 1) := by decide +kernel
theorem dX10_feed_94 : decode cX10_feed 94 = .ok (.ireturn, 1) := by decide +kernel
theorem dX10_text_0 : decode cX10_text 0 = .ok (.iload_n 1, 1) := by decide +kernel
theorem dX10_text_1 : decode cX10_text 1 = .ok (.iconst 0, 1) := by decide +kernel
theorem dX10_text_2 : decode cX10_text 2 = .ok (.iconst 1, 1) := by decide +kernel
theorem dX10_text_3 : decode cX10_text 3 = .ok (.invokestatic 44, 3) := by decide +kernel
theorem dX10_text_6 : decode cX10_text 6 = .ok (.ifCond .ne 10, 3) := by decide +kernel
theorem dX10_text_9 : decode cX10_text 9 = .ok (.aload_n 0, 1) := by decide +kernel
theorem dX10_text_10 : decode cX10_text 10 = .ok (.ldc 48, 2) := by decide +kernel
theorem dX10_text_12 : decode cX10_text 12 = .ok (.invokevirtual 49, 3) := by decide +kernel
theorem dX10_text_15 : decode cX10_text 15 = .ok (.ireturn, 1) := by decide +kernel
theorem dX10_text_16 : decode cX10_text 16 = .ok (.aload_n 0, 1) := by decide +kernel
theorem dX10_text_17 : decode cX10_text 17 = .ok (.aload_n 0, 1) := by decide +kernel
theorem dX10_text_18 : decode cX10_text 18 = .ok (.getfield 7, 3) := by decide +kernel
theorem dX10_text_21 : decode cX10_text 21 = .ok (.aload_n 0, 1) := by decide +kernel
theorem dX10_text_22 : decode cX10_text 22 = .ok (.getfield 19, 3) := by decide +kernel
theorem dX10_text_25 : decode cX10_text 25 = .ok (.invokevirtual 158, 3) := by decide +kernel
theorem dX10_text_28 : decode cX10_text 28 = .ok (.iconst 0, 1) := by decide +kernel
theorem dX10_text_29 : decode cX10_text 29 = .ok (.istore_n 2, 1) := by decide +kernel
theorem dX10_text_30 : decode cX10_text 30 = .ok (.iload_n 2, 1) := by decide +kernel
theorem dX10_text_31 : decode cX10_text 31 = .ok (.bipush 50, 2) := by decide +kernel
theorem dX10_text_33 : decode cX10_text 33 = .ok (.if_icmp .ge 32, 3) := by decide +kernel
theorem dX10_text_36 : decode cX10_text 36 = .ok (.aload_n 0, 1) := by decide +kernel
theorem dX10_text_37 : decode cX10_text 37 = .ok (.getfield 7, 3) := by decide +kernel
theorem dX10_text_40 : decode cX10_text 40 = .ok (.bipush 113, 2) := by decide +kernel
theorem dX10_text_42 : decode cX10_text 42 = .ok (.bipush 50, 2) := by decide +kernel
theorem dX10_text_44 : decode cX10_text 44 = .ok (.iload_n 1, 1) := by decide +kernel
theorem dX10_text_45 : decode cX10_text 45 = .ok (.imul, 1) := by decide +kernel
theorem dX10_text_46 : decode cX10_text 46 = .ok (.iadd, 1) := by decide +kernel
theorem dX10_text_47 : decode cX10_text 47 = .ok (.iload_n 2, 1) := by decide +kernel
theorem dX10_text_48 : decode cX10_text 48 = .ok (.iadd, 1) := by decide +kernel
theorem dX10_text_49 : decode cX10_text 49 = .ok (.aload_n 0, 1) := by decide +kernel
theorem dX10_text_50 : decode cX10_text 50 = .ok (.getfield 7, 3) := by decide +kernel
theorem dX10_text_53 : decode cX10_text 53 = .ok (.bipush 43, 2) := by decide +kernel
theorem dX10_text_55 : decode cX10_text 55 = .ok (.iload_n 2, 1) := by decide +kernel
theorem dX10_text_56 : decode cX10_text 56 = .ok (.iadd, 1) := by decide +kernel
theorem dX10_text_57 : decode cX10_text 57 = .ok (.iaload, 1) := by decide +kernel
theorem dX10_text_58 : decode cX10_text 58 = .ok (.iastore, 1) := by decide +kernel
theorem dX10_text_59 : decode cX10_text 59 = .ok (.iinc 2 1, 3) := by decide +kernel
theorem dX10_text_62 : decode cX10_text 62 = .ok (.goto (-32), 3) := by decide +kernel
theorem dX10_text_65 : decode cX10_text 65 = .ok (.aload_n 0, 1) := by decide +kernel
theorem dX10_text_66 : decode cX10_text 66 = .ok (.getfield 7, 3) := by decide +kernel
theorem dX10_text_69 : decode cX10_text 69 = .ok (.iconst 5, 1) := by decide +kernel
theorem dX10_text_70 : decode cX10_text 70 = .ok (.iload_n 1, 1) := by decide +kernel
theorem dX10_text_71 : decode cX10_text 71 = .ok (.iadd, 1) := by decide +kernel
theorem dX10_text_72 : decode cX10_text 72 = .ok (.aload_n 0, 1) := by decide +kernel
theorem dX10_text_73 : decode cX10_text 73 = .ok (.getfield 7, 3) := by decide +kernel
theorem dX10_text_76 : decode cX10_text 76 = .ok (.iconst 3, 1) := by decide +kernel
theorem dX10_text_77 : decode cX10_text 77 = .ok (.iaload, 1) := by decide +kernel
theorem dX10_text_78 : decode cX10_text 78 = .ok (.iastore, 1) := by decide +kernel
theorem dX10_text_79 : decode cX10_text 79 = .ok (.aload_n 0, 1) := by decide +kernel
theorem dX10_text_80 : decode cX10_text 80 = .ok (.iload_n 1, 1) := by decide +kernel
theorem dX10_text_81 : decode cX10_text 81 = .ok (.iconst 1, 1) := by decide +kernel
theorem dX10_text_82 : decode cX10_text 82 = .ok (.iconst 1, 1) := by decide +kernel
theorem dX10_text_83 : decode cX10_text 83 = .ok (.iconst 1, 1) := by decide +kernel
theorem dX10_text_84 : decode cX10_text 84 = .ok (.invokevirtual 145, 3) := by decide +kernel
theorem dX10_text_87 : decode cX10_text 87 = .ok (.istore_n 2, 1) := by decide +kernel
theorem dX10_text_88 : decode cX10_text 88 = .ok (.aload_n 0, 1) := by decide +kernel
theorem dX10_text_89 : decode cX10_text 89 = .ok (.getfield 92, 3) := by decide +kernel
theorem dX10_text_92 : decode cX10_text 92 = .ok (.ifCond .eq 12, 3) := by decide +kernel
theorem dX10_text_95 : decode cX10_text 95 = .ok (.iload_n 2, 1) := by decide +kernel
theorem dX10_text_96 : decode cX10_text 96 = .ok (.iload_n 2, 1) := by decide +kernel
theorem dX10_text_97 : decode cX10_text 97 = .ok (.if_icmp .ne 7, 3) := by decide +kernel
theorem dX10_text_100 : decode cX10_text 100 = .ok (.iconst 1, 1) := by decide +kernel
theorem dX10_text_101 : decode cX10_text 101 = .ok (.goto 4, 3) := by decide +kernel
theorem dX10_text_104 : decode cX10_text 104 = .ok (.iconst 0, 1) := by decide +kernel
theorem dX10_text_105 : decode cX10_text 105 = .ok (.istore_n 3, 1) := by decide +kernel
theorem dX10_text_106 : decode cX10_text 106 = .ok (.aload_n 0, 1) := by decide +kernel
theorem dX10_text_107 : decode cX10_text 107 = .ok (.getfield 96, 3) := by decide +kernel
theorem dX10_text_110 : decode cX10_text 110 = .ok (.istore 4, 2) := by decide +kernel
theorem dX10_text_112 : decode cX10_text 112 = .ok (.iload_n 3, 1) := by decide +kernel
theorem dX10_text_113 : decode cX10_text 113 = .ok (.ifCond .ne 15, 3) := by decide +kernel
theorem dX10_text_116 : decode cX10_text 116 = .ok (.aload_n 0, 1) := by decide +kernel
theorem dX10_text_117 : decode cX10_text 117 = .ok (.aload_n 0, 1) := by decide +kernel
theorem dX10_text_118 : decode cX10_text 118 = .ok (.getfield 19, 3) := by decide +kernel
theorem dX10_text_121 : decode cX10_text 121 = .ok (.aload_n 0, 1) := by decide +kernel
theorem dX10_text_122 : decode cX10_text 122 = .ok (.getfield 7, 3) := by decide +kernel
theorem dX10_text_125 : decode cX10_text 125 = .ok (.invokevirtual 158, 3) := by decide +kernel
theorem dX10_text_128 : decode cX10_text 128 = .ok (.aload_n 0, 1) := by decide +kernel
theorem dX10_text_129 : decode cX10_text 129 = .ok (.getfield 7, 3) := by decide +kernel
theorem dX10_text_132 : decode cX10_text 132 = .ok (.iconst 3, 1) := by decide +kernel
theorem dX10_text_133 : decode cX10_text 133 = .ok (.iconst 0, 1) := by decide +kernel
theorem dX10_text_134 : decode cX10_text 134 = .ok (.iastore, 1) := by decide +kernel
theorem dX10_text_135 : decode cX10_text 135 = .ok (.iload_n 3, 1) := by decide +kernel
theorem dX10_text_136 : decode cX10_text 136 = .ok (.ifCond .eq 7, 3) := by decide +kernel
theorem dX10_text_139 : decode cX10_text 139 = .ok (.iconst 1, 1) := by decide +kernel
theorem dX10_text_140 : decode cX10_text 140 = .ok (.goto 8, 3) := by decide +kernel
theorem dX10_text_143 : decode cX10_text 143 = .ok (.bipush (-10), 2) := by decide +kernel
theorem dX10_text_145 : decode cX10_text 145 = .ok (.iload 4, 2) := by decide +kernel
theorem dX10_text_147 : decode cX10_text 147 = .ok (.isub, 1) := by decide +kernel
theorem dX10_text_148 : decode cX10_text 148 = .ok (.ireturn, 1) := by decide +kernel
theorem dX10_wants_0 : decode cX10_wants 0 = .ok (.aload_n 0, 1) := by decide +kernel
theorem dX10_wants_1 : decode cX10_wants 1 = .ok (.iload_n 1, 1) := by decide +kernel
theorem dX10_wants_2 : decode cX10_wants 2 = .ok (.iconst 1, 1) := by decide +kernel
theorem dX10_wants_3 : decode cX10_wants 3 = .ok (.invokevirtual 78, 3) := by decide +kernel
theorem dX10_wants_6 : decode cX10_wants 6 = .ok (.istore_n 2, 1) := by decide +kernel
theorem dX10_wants_7 : decode cX10_wants 7 = .ok (.aload_n 0, 1) := by decide +kernel
theorem dX10_wants_8 : decode cX10_wants 8 = .ok (.iconst 0, 1) := by decide +kernel
theorem dX10_wants_9 : decode cX10_wants 9 = .ok (.aload_n 0, 1) := by decide +kernel
theorem dX10_wants_10 : decode cX10_wants 10 = .ok (.iload_n 1, 1) := by decide +kernel
theorem dX10_wants_11 : decode cX10_wants 11 = .ok (.iconst 2, 1) := by decide +kernel
theorem dX10_wants_12 : decode cX10_wants 12 = .ok (.invokevirtual 78, 3) := by decide +kernel
theorem dX10_wants_15 : decode cX10_wants 15 = .ok (.iload_n 2, 1) := by decide +kernel
theorem dX10_wants_16 : decode cX10_wants 16 = .ok (.aload_n 0, 1) := by decide +kernel
theorem dX10_wants_17 : decode cX10_wants 17 = .ok (.iload_n 1, 1) := by decide +kernel
theorem dX10_wants_18 : decode cX10_wants 18 = .ok (.iconst 0, 1) := by decide +kernel
theorem dX10_wants_19 : decode cX10_wants 19 = .ok (.invokevirtual 78, 3) := by decide +kernel
theorem dX10_wants_22 : decode cX10_wants 22 = .ok (.invokevirtual 153, 3) := by decide +kernel
theorem dX10_wants_25 : decode cX10_wants 25 = .ok (.istore_n 3, 1) := by decide +kernel
theorem dX10_wants_26 : decode cX10_wants 26 = .ok (.aload_n 0, 1) := by decide +kernel
theorem dX10_wants_27 : decode cX10_wants 27 = .ok (.iload_n 1, 1) := by decide +kernel
theorem dX10_wants_28 : decode cX10_wants 28 = .ok (.iconst 0, 1) := by decide +kernel
theorem dX10_wants_29 : decode cX10_wants 29 = .ok (.invokevirtual 78, 3) := by decide +kernel
theorem dX10_wants_32 : decode cX10_wants 32 = .ok (.tableswitch 80 1 6 #[40, 48, 74, 44, 59, 74], 40) := by decide +kernel
theorem dX10_wants_72 : decode cX10_wants 72 = .ok (.iload_n 3, 1) := by decide +kernel
theorem dX10_wants_73 : decode cX10_wants 73 = .ok (.iconst 2, 1) := by decide +kernel
theorem dX10_wants_74 : decode cX10_wants 74 = .ok (.isub, 1) := by decide +kernel
theorem dX10_wants_75 : decode cX10_wants 75 = .ok (.ireturn, 1) := by decide +kernel
theorem dX10_wants_76 : decode cX10_wants 76 = .ok (.iload_n 3, 1) := by decide +kernel
theorem dX10_wants_77 : decode cX10_wants 77 = .ok (.iconst 1, 1) := by decide +kernel
theorem dX10_wants_78 : decode cX10_wants 78 = .ok (.isub, 1) := by decide +kernel
theorem dX10_wants_79 : decode cX10_wants 79 = .ok (.ireturn, 1) := by decide +kernel
theorem dX10_wants_80 : decode cX10_wants 80 = .ok (.iload_n 3, 1) := by decide +kernel
theorem dX10_wants_81 : decode cX10_wants 81 = .ok (.aload_n 0, 1) := by decide +kernel
theorem dX10_wants_82 : decode cX10_wants 82 = .ok (.iload_n 1, 1) := by decide +kernel
theorem dX10_wants_83 : decode cX10_wants 83 = .ok (.iconst 2, 1) := by decide +kernel
theorem dX10_wants_84 : decode cX10_wants 84 = .ok (.invokevirtual 78, 3) := by decide +kernel
theorem dX10_wants_87 : decode cX10_wants 87 = .ok (.iconst 2, 1) := by decide +kernel
theorem dX10_wants_88 : decode cX10_wants 88 = .ok (.idiv, 1) := by decide +kernel
theorem dX10_wants_89 : decode cX10_wants 89 = .ok (.iadd, 1) := by decide +kernel
theorem dX10_wants_90 : decode cX10_wants 90 = .ok (.ireturn, 1) := by decide +kernel
theorem dX10_wants_91 : decode cX10_wants 91 = .ok (.iload_n 3, 1) := by decide +kernel
theorem dX10_wants_92 : decode cX10_wants 92 = .ok (.aload_n 0, 1) := by decide +kernel
theorem dX10_wants_93 : decode cX10_wants 93 = .ok (.iload_n 1, 1) := by decide +kernel
theorem dX10_wants_94 : decode cX10_wants 94 = .ok (.iconst 2, 1) := by decide +kernel
theorem dX10_wants_95 : decode cX10_wants 95 = .ok (.invokevirtual 78, 3) := by decide +kernel
theorem dX10_wants_98 : decode cX10_wants 98 = .ok (.iconst 2, 1) := by decide +kernel
theorem dX10_wants_99 : decode cX10_wants 99 = .ok (.idiv, 1) := by decide +kernel
theorem dX10_wants_100 : decode cX10_wants 100 = .ok (.iadd, 1) := by decide +kernel
theorem dX10_wants_101 : decode cX10_wants 101 = .ok (.iload_n 2, 1) := by decide +kernel
theorem dX10_wants_102 : decode cX10_wants 102 = .ok (.iconst 2, 1) := by decide +kernel
theorem dX10_wants_103 : decode cX10_wants 103 = .ok (.irem, 1) := by decide +kernel
theorem dX10_wants_104 : decode cX10_wants 104 = .ok (.isub, 1) := by decide +kernel
theorem dX10_wants_105 : decode cX10_wants 105 = .ok (.ireturn, 1) := by decide +kernel
theorem dX10_wants_106 : decode cX10_wants 106 = .ok (.iload_n 3, 1) := by decide +kernel
theorem dX10_wants_107 : decode cX10_wants 107 = .ok (.iload_n 2, 1) := by decide +kernel
theorem dX10_wants_108 : decode cX10_wants 108 = .ok (.iconst 3, 1) := by decide +kernel
theorem dX10_wants_109 : decode cX10_wants 109 = .ok (.irem, 1) := by decide +kernel
theorem dX10_wants_110 : decode cX10_wants 110 = .ok (.iadd, 1) := by decide +kernel
theorem dX10_wants_111 : decode cX10_wants 111 = .ok (.ireturn, 1) := by decide +kernel
theorem dX10_wants_112 : decode cX10_wants 112 = .ok (.iload_n 3, 1) := by decide +kernel
theorem dX10_wants_113 : decode cX10_wants 113 = .ok (.ireturn, 1) := by decide +kernel
theorem dX10_bears_0 : decode cX10_bears 0 = .ok (.aload_n 0, 1) := by decide +kernel
theorem dX10_bears_1 : decode cX10_bears 1 = .ok (.iload_n 1, 1) := by decide +kernel
theorem dX10_bears_2 : decode cX10_bears 2 = .ok (.iconst 0, 1) := by decide +kernel
theorem dX10_bears_3 : decode cX10_bears 3 = .ok (.invokevirtual 78, 3) := by decide +kernel
theorem dX10_bears_6 : decode cX10_bears 6 = .ok (.tableswitch 53 1 6 #[38, 53, 40, 38, 40, 42], 38) := by decide +kernel
theorem dX10_bears_44 : decode cX10_bears 44 = .ok (.iconst 0, 1) := by decide +kernel
theorem dX10_bears_45 : decode cX10_bears 45 = .ok (.ireturn, 1) := by decide +kernel
theorem dX10_bears_46 : decode cX10_bears 46 = .ok (.iconst 2, 1) := by decide +kernel
theorem dX10_bears_47 : decode cX10_bears 47 = .ok (.ireturn, 1) := by decide +kernel
theorem dX10_bears_48 : decode cX10_bears 48 = .ok (.iconst 2, 1) := by decide +kernel
theorem dX10_bears_49 : decode cX10_bears 49 = .ok (.aload_n 0, 1) := by decide +kernel
theorem dX10_bears_50 : decode cX10_bears 50 = .ok (.iload_n 1, 1) := by decide +kernel
theorem dX10_bears_51 : decode cX10_bears 51 = .ok (.iconst 1, 1) := by decide +kernel
theorem dX10_bears_52 : decode cX10_bears 52 = .ok (.invokevirtual 78, 3) := by decide +kernel
theorem dX10_bears_55 : decode cX10_bears 55 = .ok (.iconst 4, 1) := by decide +kernel
theorem dX10_bears_56 : decode cX10_bears 56 = .ok (.idiv, 1) := by decide +kernel
theorem dX10_bears_57 : decode cX10_bears 57 = .ok (.iadd, 1) := by decide +kernel
theorem dX10_bears_58 : decode cX10_bears 58 = .ok (.ireturn, 1) := by decide +kernel
theorem dX10_bears_59 : decode cX10_bears 59 = .ok (.iconst 1, 1) := by decide +kernel
theorem dX10_bears_60 : decode cX10_bears 60 = .ok (.ireturn, 1) := by decide +kernel
theorem dX10_off_0 : decode cX10_off 0 = .ok (.aload_n 0, 1) := by decide +kernel
theorem dX10_off_1 : decode cX10_off 1 = .ok (.getfield 7, 3) := by decide +kernel
theorem dX10_off_4 : decode cX10_off 4 = .ok (.bipush 8, 2) := by decide +kernel
theorem dX10_off_6 : decode cX10_off 6 = .ok (.iaload, 1) := by decide +kernel
theorem dX10_off_7 : decode cX10_off 7 = .ok (.aload_n 0, 1) := by decide +kernel
theorem dX10_off_8 : decode cX10_off 8 = .ok (.getfield 7, 3) := by decide +kernel
theorem dX10_off_11 : decode cX10_off 11 = .ok (.bipush 9, 2) := by decide +kernel
theorem dX10_off_13 : decode cX10_off 13 = .ok (.iaload, 1) := by decide +kernel
theorem dX10_off_14 : decode cX10_off 14 = .ok (.isub, 1) := by decide +kernel
theorem dX10_off_15 : decode cX10_off 15 = .ok (.aload_n 0, 1) := by decide +kernel
theorem dX10_off_16 : decode cX10_off 16 = .ok (.getfield 7, 3) := by decide +kernel
theorem dX10_off_19 : decode cX10_off 19 = .ok (.bipush 11, 2) := by decide +kernel
theorem dX10_off_21 : decode cX10_off 21 = .ok (.iaload, 1) := by decide +kernel
theorem dX10_off_22 : decode cX10_off 22 = .ok (.bipush 20, 2) := by decide +kernel
theorem dX10_off_24 : decode cX10_off 24 = .ok (.idiv, 1) := by decide +kernel
theorem dX10_off_25 : decode cX10_off 25 = .ok (.isub, 1) := by decide +kernel
theorem dX10_off_26 : decode cX10_off 26 = .ok (.aload_n 0, 1) := by decide +kernel
theorem dX10_off_27 : decode cX10_off 27 = .ok (.iload_n 1, 1) := by decide +kernel
theorem dX10_off_28 : decode cX10_off 28 = .ok (.invokevirtual 66, 3) := by decide +kernel
theorem dX10_off_31 : decode cX10_off 31 = .ok (.isub, 1) := by decide +kernel
theorem dX10_off_32 : decode cX10_off 32 = .ok (.ireturn, 1) := by decide +kernel
theorem dX10_isSkipped_0 : decode cX10_isSkipped 0 = .ok (.aload_n 0, 1) := by decide +kernel
theorem dX10_isSkipped_1 : decode cX10_isSkipped 1 = .ok (.getfield 7, 3) := by decide +kernel
theorem dX10_isSkipped_4 : decode cX10_isSkipped 4 = .ok (.bipush 10, 2) := by decide +kernel
theorem dX10_isSkipped_6 : decode cX10_isSkipped 6 = .ok (.iaload, 1) := by decide +kernel
theorem dX10_isSkipped_7 : decode cX10_isSkipped 7 = .ok (.iconst 2, 1) := by decide +kernel
theorem dX10_isSkipped_8 : decode cX10_isSkipped 8 = .ok (.if_icmp .eq 48, 3) := by decide +kernel
theorem dX10_isSkipped_11 : decode cX10_isSkipped 11 = .ok (.aload_n 0, 1) := by decide +kernel
theorem dX10_isSkipped_12 : decode cX10_isSkipped 12 = .ok (.getfield 7, 3) := by decide +kernel
theorem dX10_isSkipped_15 : decode cX10_isSkipped 15 = .ok (.bipush 10, 2) := by decide +kernel
theorem dX10_isSkipped_17 : decode cX10_isSkipped 17 = .ok (.iaload, 1) := by decide +kernel
theorem dX10_isSkipped_18 : decode cX10_isSkipped 18 = .ok (.iconst 1, 1) := by decide +kernel
theorem dX10_isSkipped_19 : decode cX10_isSkipped 19 = .ok (.if_icmp .ne 41, 3) := by decide +kernel
theorem dX10_isSkipped_22 : decode cX10_isSkipped 22 = .ok (.aload_n 0, 1) := by decide +kernel
theorem dX10_isSkipped_23 : decode cX10_isSkipped 23 = .ok (.getfield 7, 3) := by decide +kernel
theorem dX10_isSkipped_26 : decode cX10_isSkipped 26 = .ok (.bipush 12, 2) := by decide +kernel
theorem dX10_isSkipped_28 : decode cX10_isSkipped 28 = .ok (.iaload, 1) := by decide +kernel
theorem dX10_isSkipped_29 : decode cX10_isSkipped 29 = .ok (.aload_n 0, 1) := by decide +kernel
theorem dX10_isSkipped_30 : decode cX10_isSkipped 30 = .ok (.iconst 1, 1) := by decide +kernel
theorem dX10_isSkipped_31 : decode cX10_isSkipped 31 = .ok (.aload_n 0, 1) := by decide +kernel
theorem dX10_isSkipped_32 : decode cX10_isSkipped 32 = .ok (.iload_n 1, 1) := by decide +kernel
theorem dX10_isSkipped_33 : decode cX10_isSkipped 33 = .ok (.iconst 2, 1) := by decide +kernel
theorem dX10_isSkipped_34 : decode cX10_isSkipped 34 = .ok (.invokevirtual 78, 3) := by decide +kernel
theorem dX10_isSkipped_37 : decode cX10_isSkipped 37 = .ok (.aload_n 0, 1) := by decide +kernel
theorem dX10_isSkipped_38 : decode cX10_isSkipped 38 = .ok (.iload_n 1, 1) := by decide +kernel
theorem dX10_isSkipped_39 : decode cX10_isSkipped 39 = .ok (.iconst 1, 1) := by decide +kernel
theorem dX10_isSkipped_40 : decode cX10_isSkipped 40 = .ok (.invokevirtual 78, 3) := by decide +kernel
theorem dX10_isSkipped_43 : decode cX10_isSkipped 43 = .ok (.aload_n 0, 1) := by decide +kernel
theorem dX10_isSkipped_44 : decode cX10_isSkipped 44 = .ok (.getfield 7, 3) := by decide +kernel
theorem dX10_isSkipped_47 : decode cX10_isSkipped 47 = .ok (.bipush 11, 2) := by decide +kernel
theorem dX10_isSkipped_49 : decode cX10_isSkipped 49 = .ok (.iaload, 1) := by decide +kernel
theorem dX10_isSkipped_50 : decode cX10_isSkipped 50 = .ok (.invokevirtual 153, 3) := by decide +kernel
theorem dX10_isSkipped_53 : decode cX10_isSkipped 53 = .ok (.if_icmp .le 7, 3) := by decide +kernel
theorem dX10_isSkipped_56 : decode cX10_isSkipped 56 = .ok (.iconst 1, 1) := by decide +kernel
theorem dX10_isSkipped_57 : decode cX10_isSkipped 57 = .ok (.goto 4, 3) := by decide +kernel
theorem dX10_isSkipped_60 : decode cX10_isSkipped 60 = .ok (.iconst 0, 1) := by decide +kernel
theorem dX10_isSkipped_61 : decode cX10_isSkipped 61 = .ok (.ireturn, 1) := by decide +kernel
theorem dX10_shows_0 : decode cX10_shows 0 = .ok (.aload_n 0, 1) := by decide +kernel
theorem dX10_shows_1 : decode cX10_shows 1 = .ok (.getfield 7, 3) := by decide +kernel
theorem dX10_shows_4 : decode cX10_shows 4 = .ok (.bipush 7, 2) := by decide +kernel
theorem dX10_shows_6 : decode cX10_shows 6 = .ok (.iaload, 1) := by decide +kernel
theorem dX10_shows_7 : decode cX10_shows 7 = .ok (.iconst 1, 1) := by decide +kernel
theorem dX10_shows_8 : decode cX10_shows 8 = .ok (.if_icmp .ne 5, 3) := by decide +kernel
theorem dX10_shows_11 : decode cX10_shows 11 = .ok (.iconst 4, 1) := by decide +kernel
theorem dX10_shows_12 : decode cX10_shows 12 = .ok (.ireturn, 1) := by decide +kernel
theorem dX10_shows_13 : decode cX10_shows 13 = .ok (.aload_n 0, 1) := by decide +kernel
theorem dX10_shows_14 : decode cX10_shows 14 = .ok (.iload_n 1, 1) := by decide +kernel
theorem dX10_shows_15 : decode cX10_shows 15 = .ok (.invokevirtual 162, 3) := by decide +kernel
theorem dX10_shows_18 : decode cX10_shows 18 = .ok (.ifCond .eq 5, 3) := by decide +kernel
theorem dX10_shows_21 : decode cX10_shows 21 = .ok (.iconst 3, 1) := by decide +kernel
theorem dX10_shows_22 : decode cX10_shows 22 = .ok (.ireturn, 1) := by decide +kernel
theorem dX10_shows_23 : decode cX10_shows 23 = .ok (.aload_n 0, 1) := by decide +kernel
theorem dX10_shows_24 : decode cX10_shows 24 = .ok (.iload_n 1, 1) := by decide +kernel
theorem dX10_shows_25 : decode cX10_shows 25 = .ok (.invokevirtual 72, 3) := by decide +kernel
theorem dX10_shows_28 : decode cX10_shows 28 = .ok (.istore_n 2, 1) := by decide +kernel
theorem dX10_shows_29 : decode cX10_shows 29 = .ok (.iload_n 2, 1) := by decide +kernel
theorem dX10_shows_30 : decode cX10_shows 30 = .ok (.aload_n 0, 1) := by decide +kernel
theorem dX10_shows_31 : decode cX10_shows 31 = .ok (.iload_n 1, 1) := by decide +kernel
theorem dX10_shows_32 : decode cX10_shows 32 = .ok (.invokevirtual 69, 3) := by decide +kernel
theorem dX10_shows_35 : decode cX10_shows 35 = .ok (.ineg, 1) := by decide +kernel
theorem dX10_shows_36 : decode cX10_shows 36 = .ok (.if_icmp .ge 7, 3) := by decide +kernel
theorem dX10_shows_39 : decode cX10_shows 39 = .ok (.iconst 1, 1) := by decide +kernel
theorem dX10_shows_40 : decode cX10_shows 40 = .ok (.goto 17, 3) := by decide +kernel
theorem dX10_shows_43 : decode cX10_shows 43 = .ok (.iload_n 2, 1) := by decide +kernel
theorem dX10_shows_44 : decode cX10_shows 44 = .ok (.aload_n 0, 1) := by decide +kernel
theorem dX10_shows_45 : decode cX10_shows 45 = .ok (.iload_n 1, 1) := by decide +kernel
theorem dX10_shows_46 : decode cX10_shows 46 = .ok (.invokevirtual 69, 3) := by decide +kernel
theorem dX10_shows_49 : decode cX10_shows 49 = .ok (.if_icmp .le 7, 3) := by decide +kernel
theorem dX10_shows_52 : decode cX10_shows 52 = .ok (.iconst 2, 1) := by decide +kernel
theorem dX10_shows_53 : decode cX10_shows 53 = .ok (.goto 4, 3) := by decide +kernel
theorem dX10_shows_56 : decode cX10_shows 56 = .ok (.iconst 0, 1) := by decide +kernel
theorem dX10_shows_57 : decode cX10_shows 57 = .ok (.ireturn, 1) := by decide +kernel
theorem dX10_yard_0 : decode cX10_yard 0 = .ok (.aload_n 0, 1) := by decide +kernel
theorem dX10_yard_1 : decode cX10_yard 1 = .ok (.iload_n 1, 1) := by decide +kernel
theorem dX10_yard_2 : decode cX10_yard 2 = .ok (.invokevirtual 75, 3) := by decide +kernel
theorem dX10_yard_5 : decode cX10_yard 5 = .ok (.ifCond .ne 7, 3) := by decide +kernel
theorem dX10_yard_8 : decode cX10_yard 8 = .ok (.iconst 0, 1) := by decide +kernel
theorem dX10_yard_9 : decode cX10_yard 9 = .ok (.goto 4, 3) := by decide +kernel
theorem dX10_yard_12 : decode cX10_yard 12 = .ok (.iconst 1, 1) := by decide +kernel
theorem dX10_yard_13 : decode cX10_yard 13 = .ok (.istore_n 2, 1) := by decide +kernel
theorem dX10_yard_14 : decode cX10_yard 14 = .ok (.aload_n 0, 1) := by decide +kernel
theorem dX10_yard_15 : decode cX10_yard 15 = .ok (.iload_n 1, 1) := by decide +kernel
theorem dX10_yard_16 : decode cX10_yard 16 = .ok (.iconst 0, 1) := by decide +kernel
theorem dX10_yard_17 : decode cX10_yard 17 = .ok (.invokevirtual 78, 3) := by decide +kernel
theorem dX10_yard_20 : decode cX10_yard 20 = .ok (.istore_n 3, 1) := by decide +kernel
theorem dX10_yard_21 : decode cX10_yard 21 = .ok (.iload_n 3, 1) := by decide +kernel
theorem dX10_yard_22 : decode cX10_yard 22 = .ok (.bipush 6, 2) := by decide +kernel
theorem dX10_yard_24 : decode cX10_yard 24 = .ok (.if_icmp .ne 7, 3) := by decide +kernel
theorem dX10_yard_27 : decode cX10_yard 27 = .ok (.iconst 0, 1) := by decide +kernel
theorem dX10_yard_28 : decode cX10_yard 28 = .ok (.goto 18, 3) := by decide +kernel
theorem dX10_yard_31 : decode cX10_yard 31 = .ok (.iload_n 3, 1) := by decide +kernel
theorem dX10_yard_32 : decode cX10_yard 32 = .ok (.iconst 2, 1) := by decide +kernel
theorem dX10_yard_33 : decode cX10_yard 33 = .ok (.if_icmp .eq 8, 3) := by decide +kernel
theorem dX10_yard_36 : decode cX10_yard 36 = .ok (.iload_n 3, 1) := by decide +kernel
theorem dX10_yard_37 : decode cX10_yard 37 = .ok (.iconst 5, 1) := by decide +kernel
theorem dX10_yard_38 : decode cX10_yard 38 = .ok (.if_icmp .ne 7, 3) := by decide +kernel
theorem dX10_yard_41 : decode cX10_yard 41 = .ok (.iconst 2, 1) := by decide +kernel
theorem dX10_yard_42 : decode cX10_yard 42 = .ok (.goto 4, 3) := by decide +kernel
theorem dX10_yard_45 : decode cX10_yard 45 = .ok (.iconst 1, 1) := by decide +kernel
theorem dX10_yard_46 : decode cX10_yard 46 = .ok (.istore 4, 2) := by decide +kernel
theorem dX10_yard_48 : decode cX10_yard 48 = .ok (.aload_n 0, 1) := by decide +kernel
theorem dX10_yard_49 : decode cX10_yard 49 = .ok (.iload_n 1, 1) := by decide +kernel
theorem dX10_yard_50 : decode cX10_yard 50 = .ok (.iconst 4, 1) := by decide +kernel
theorem dX10_yard_51 : decode cX10_yard 51 = .ok (.aload_n 0, 1) := by decide +kernel
theorem dX10_yard_52 : decode cX10_yard 52 = .ok (.iload_n 1, 1) := by decide +kernel
theorem dX10_yard_53 : decode cX10_yard 53 = .ok (.iconst 4, 1) := by decide +kernel
theorem dX10_yard_54 : decode cX10_yard 54 = .ok (.invokevirtual 78, 3) := by decide +kernel
theorem dX10_yard_57 : decode cX10_yard 57 = .ok (.iload_n 2, 1) := by decide +kernel
theorem dX10_yard_58 : decode cX10_yard 58 = .ok (.iadd, 1) := by decide +kernel
theorem dX10_yard_59 : decode cX10_yard 59 = .ok (.iconst 0, 1) := by decide +kernel
theorem dX10_yard_60 : decode cX10_yard 60 = .ok (.sipush 9999, 3) := by decide +kernel
theorem dX10_yard_63 : decode cX10_yard 63 = .ok (.invokestatic 149, 3) := by decide +kernel
theorem dX10_yard_66 : decode cX10_yard 66 = .ok (.invokevirtual 58, 3) := by decide +kernel
theorem dX10_yard_69 : decode cX10_yard 69 = .ok (.aload_n 0, 1) := by decide +kernel
theorem dX10_yard_70 : decode cX10_yard 70 = .ok (.iload_n 1, 1) := by decide +kernel
theorem dX10_yard_71 : decode cX10_yard 71 = .ok (.iconst 3, 1) := by decide +kernel
theorem dX10_yard_72 : decode cX10_yard 72 = .ok (.aload_n 0, 1) := by decide +kernel
theorem dX10_yard_73 : decode cX10_yard 73 = .ok (.iload_n 1, 1) := by decide +kernel
theorem dX10_yard_74 : decode cX10_yard 74 = .ok (.iconst 3, 1) := by decide +kernel
theorem dX10_yard_75 : decode cX10_yard 75 = .ok (.invokevirtual 78, 3) := by decide +kernel
theorem dX10_yard_78 : decode cX10_yard 78 = .ok (.iconst 1, 1) := by decide +kernel
theorem dX10_yard_79 : decode cX10_yard 79 = .ok (.iadd, 1) := by decide +kernel
theorem dX10_yard_80 : decode cX10_yard 80 = .ok (.iconst 0, 1) := by decide +kernel
theorem dX10_yard_81 : decode cX10_yard 81 = .ok (.sipush 9999, 3) := by decide +kernel
theorem dX10_yard_84 : decode cX10_yard 84 = .ok (.invokestatic 149, 3) := by decide +kernel
theorem dX10_yard_87 : decode cX10_yard 87 = .ok (.invokevirtual 58, 3) := by decide +kernel
theorem dX10_yard_90 : decode cX10_yard 90 = .ok (.aload_n 0, 1) := by decide +kernel
theorem dX10_yard_91 : decode cX10_yard 91 = .ok (.getfield 7, 3) := by decide +kernel
theorem dX10_yard_94 : decode cX10_yard 94 = .ok (.bipush 11, 2) := by decide +kernel
theorem dX10_yard_96 : decode cX10_yard 96 = .ok (.aload_n 0, 1) := by decide +kernel
theorem dX10_yard_97 : decode cX10_yard 97 = .ok (.getfield 7, 3) := by decide +kernel
theorem dX10_yard_100 : decode cX10_yard 100 = .ok (.bipush 11, 2) := by decide +kernel
theorem dX10_yard_102 : decode cX10_yard 102 = .ok (.iaload, 1) := by decide +kernel
theorem dX10_yard_103 : decode cX10_yard 103 = .ok (.iload 4, 2) := by decide +kernel
theorem dX10_yard_105 : decode cX10_yard 105 = .ok (.iadd, 1) := by decide +kernel
theorem dX10_yard_106 : decode cX10_yard 106 = .ok (.iconst 0, 1) := by decide +kernel
theorem dX10_yard_107 : decode cX10_yard 107 = .ok (.bipush 99, 2) := by decide +kernel
theorem dX10_yard_109 : decode cX10_yard 109 = .ok (.invokestatic 149, 3) := by decide +kernel
theorem dX10_yard_112 : decode cX10_yard 112 = .ok (.iastore, 1) := by decide +kernel
theorem dX10_yard_113 : decode cX10_yard 113 = .ok (.aload_n 0, 1) := by decide +kernel
theorem dX10_yard_114 : decode cX10_yard 114 = .ok (.getfield 7, 3) := by decide +kernel
theorem dX10_yard_117 : decode cX10_yard 117 = .ok (.iconst 0, 1) := by decide +kernel
theorem dX10_yard_118 : decode cX10_yard 118 = .ok (.dup2, 1) := by decide +kernel
theorem dX10_yard_119 : decode cX10_yard 119 = .ok (.iaload, 1) := by decide +kernel
theorem dX10_yard_120 : decode cX10_yard 120 = .ok (.bipush 10, 2) := by decide +kernel
theorem dX10_yard_122 : decode cX10_yard 122 = .ok (.aload_n 0, 1) := by decide +kernel
theorem dX10_yard_123 : decode cX10_yard 123 = .ok (.getfield 7, 3) := by decide +kernel
theorem dX10_yard_126 : decode cX10_yard 126 = .ok (.bipush 12, 2) := by decide +kernel
theorem dX10_yard_128 : decode cX10_yard 128 = .ok (.iaload, 1) := by decide +kernel
theorem dX10_yard_129 : decode cX10_yard 129 = .ok (.isub, 1) := by decide +kernel
theorem dX10_yard_130 : decode cX10_yard 130 = .ok (.iadd, 1) := by decide +kernel
theorem dX10_yard_131 : decode cX10_yard 131 = .ok (.iastore, 1) := by decide +kernel
theorem dX10_yard_132 : decode cX10_yard 132 = .ok (.iload_n 2, 1) := by decide +kernel
theorem dX10_yard_133 : decode cX10_yard 133 = .ok (.ireturn, 1) := by decide +kernel
theorem dX10_sews_0 : decode cX10_sews 0 = .ok (.iconst 0, 1) := by decide +kernel
theorem dX10_sews_1 : decode cX10_sews 1 = .ok (.istore_n 3, 1) := by decide +kernel
theorem dX10_sews_2 : decode cX10_sews 2 = .ok (.iconst 0, 1) := by decide +kernel
theorem dX10_sews_3 : decode cX10_sews 3 = .ok (.istore 4, 2) := by decide +kernel
theorem dX10_sews_5 : decode cX10_sews 5 = .ok (.iload 4, 2) := by decide +kernel
theorem dX10_sews_7 : decode cX10_sews 7 = .ok (.iload_n 2, 1) := by decide +kernel
theorem dX10_sews_8 : decode cX10_sews 8 = .ok (.if_icmp .ge 17, 3) := by decide +kernel
theorem dX10_sews_11 : decode cX10_sews 11 = .ok (.iload_n 3, 1) := by decide +kernel
theorem dX10_sews_12 : decode cX10_sews 12 = .ok (.aload_n 0, 1) := by decide +kernel
theorem dX10_sews_13 : decode cX10_sews 13 = .ok (.iload_n 1, 1) := by decide +kernel
theorem dX10_sews_14 : decode cX10_sews 14 = .ok (.invokevirtual 165, 3) := by decide +kernel
theorem dX10_sews_17 : decode cX10_sews 17 = .ok (.iadd, 1) := by decide +kernel
theorem dX10_sews_18 : decode cX10_sews 18 = .ok (.istore_n 3, 1) := by decide +kernel
theorem dX10_sews_19 : decode cX10_sews 19 = .ok (.iinc 4 1, 3) := by decide +kernel
theorem dX10_sews_22 : decode cX10_sews 22 = .ok (.goto (-17), 3) := by decide +kernel
theorem dX10_sews_25 : decode cX10_sews 25 = .ok (.iload_n 3, 1) := by decide +kernel
theorem dX10_sews_26 : decode cX10_sews 26 = .ok (.ireturn, 1) := by decide +kernel
theorem dX10_sew_0 : decode cX10_sew 0 = .ok (.aload_n 0, 1) := by decide +kernel
theorem dX10_sew_1 : decode cX10_sew 1 = .ok (.iload_n 1, 1) := by decide +kernel
theorem dX10_sew_2 : decode cX10_sew 2 = .ok (.invokevirtual 62, 3) := by decide +kernel
theorem dX10_sew_5 : decode cX10_sew 5 = .ok (.ifCond .eq 14, 3) := by decide +kernel
theorem dX10_sew_8 : decode cX10_sew 8 = .ok (.iload_n 2, 1) := by decide +kernel
theorem dX10_sew_9 : decode cX10_sew 9 = .ok (.iconst 1, 1) := by decide +kernel
theorem dX10_sew_10 : decode cX10_sew 10 = .ok (.sipush 200, 3) := by decide +kernel
theorem dX10_sew_13 : decode cX10_sew 13 = .ok (.invokestatic 44, 3) := by decide +kernel
theorem dX10_sew_16 : decode cX10_sew 16 = .ok (.ifCond .ne 10, 3) := by decide +kernel
theorem dX10_sew_19 : decode cX10_sew 19 = .ok (.aload_n 0, 1) := by decide +kernel
theorem dX10_sew_20 : decode cX10_sew 20 = .ok (.ldc 48, 2) := by decide +kernel
theorem dX10_sew_22 : decode cX10_sew 22 = .ok (.invokevirtual 49, 3) := by decide +kernel
theorem dX10_sew_25 : decode cX10_sew 25 = .ok (.ireturn, 1) := by decide +kernel
theorem dX10_sew_26 : decode cX10_sew 26 = .ok (.aload_n 0, 1) := by decide +kernel
theorem dX10_sew_27 : decode cX10_sew 27 = .ok (.getfield 7, 3) := by decide +kernel
theorem dX10_sew_30 : decode cX10_sew 30 = .ok (.iconst 0, 1) := by decide +kernel
theorem dX10_sew_31 : decode cX10_sew 31 = .ok (.iaload, 1) := by decide +kernel
theorem dX10_sew_32 : decode cX10_sew 32 = .ok (.iload_n 2, 1) := by decide +kernel
theorem dX10_sew_33 : decode cX10_sew 33 = .ok (.bipush 10, 2) := by decide +kernel
theorem dX10_sew_35 : decode cX10_sew 35 = .ok (.aload_n 0, 1) := by decide +kernel
theorem dX10_sew_36 : decode cX10_sew 36 = .ok (.getfield 7, 3) := by decide +kernel
theorem dX10_sew_39 : decode cX10_sew 39 = .ok (.bipush 12, 2) := by decide +kernel
theorem dX10_sew_41 : decode cX10_sew 41 = .ok (.iaload, 1) := by decide +kernel
theorem dX10_sew_42 : decode cX10_sew 42 = .ok (.isub, 1) := by decide +kernel
theorem dX10_sew_43 : decode cX10_sew 43 = .ok (.imul, 1) := by decide +kernel
theorem dX10_sew_44 : decode cX10_sew 44 = .ok (.iadd, 1) := by decide +kernel
theorem dX10_sew_45 : decode cX10_sew 45 = .ok (.ldc 168, 2) := by decide +kernel
theorem dX10_sew_47 : decode cX10_sew 47 = .ok (.if_icmp .le 12, 3) := by decide +kernel
theorem dX10_sew_50 : decode cX10_sew 50 = .ok (.aload_n 0, 1) := by decide +kernel
theorem dX10_sew_51 : decode cX10_sew 51 = .ok (.ldc 169, 2) := by decide +kernel
theorem dX10_sew_53 : decode cX10_sew 53 = .ok (.invokevirtual 49, 3) := by decide +kernel
theorem dX10_sew_56 : decode cX10_sew 56 = .ok (.goto 9, 3) := by decide +kernel
theorem dX10_sew_59 : decode cX10_sew 59 = .ok (.aload_n 0, 1) := by decide +kernel
theorem dX10_sew_60 : decode cX10_sew 60 = .ok (.iload_n 1, 1) := by decide +kernel
theorem dX10_sew_61 : decode cX10_sew 61 = .ok (.iload_n 2, 1) := by decide +kernel
theorem dX10_sew_62 : decode cX10_sew 62 = .ok (.invokevirtual 170, 3) := by decide +kernel
theorem dX10_sew_65 : decode cX10_sew 65 = .ok (.ireturn, 1) := by decide +kernel
theorem dX10_lasts_0 : decode cX10_lasts 0 = .ok (.iload_n 0, 1) := by decide +kernel
theorem dX10_lasts_1 : decode cX10_lasts 1 = .ok (.ifCond .ne 8, 3) := by decide +kernel
theorem dX10_lasts_4 : decode cX10_lasts 4 = .ok (.bipush 11, 2) := by decide +kernel
theorem dX10_lasts_6 : decode cX10_lasts 6 = .ok (.goto 33, 3) := by decide +kernel
theorem dX10_lasts_9 : decode cX10_lasts 9 = .ok (.iload_n 0, 1) := by decide +kernel
theorem dX10_lasts_10 : decode cX10_lasts 10 = .ok (.iconst 1, 1) := by decide +kernel
theorem dX10_lasts_11 : decode cX10_lasts 11 = .ok (.if_icmp .ne 8, 3) := by decide +kernel
theorem dX10_lasts_14 : decode cX10_lasts 14 = .ok (.bipush 20, 2) := by decide +kernel
theorem dX10_lasts_16 : decode cX10_lasts 16 = .ok (.goto 23, 3) := by decide +kernel
theorem dX10_lasts_19 : decode cX10_lasts 19 = .ok (.iload_n 0, 1) := by decide +kernel
theorem dX10_lasts_20 : decode cX10_lasts 20 = .ok (.iconst 2, 1) := by decide +kernel
theorem dX10_lasts_21 : decode cX10_lasts 21 = .ok (.if_icmp .ne 8, 3) := by decide +kernel
theorem dX10_lasts_24 : decode cX10_lasts 24 = .ok (.bipush 9, 2) := by decide +kernel
theorem dX10_lasts_26 : decode cX10_lasts 26 = .ok (.goto 13, 3) := by decide +kernel
theorem dX10_lasts_29 : decode cX10_lasts 29 = .ok (.iload_n 0, 1) := by decide +kernel
theorem dX10_lasts_30 : decode cX10_lasts 30 = .ok (.iconst 5, 1) := by decide +kernel
theorem dX10_lasts_31 : decode cX10_lasts 31 = .ok (.if_icmp .ge 7, 3) := by decide +kernel
theorem dX10_lasts_34 : decode cX10_lasts 34 = .ok (.iconst 2, 1) := by decide +kernel
theorem dX10_lasts_35 : decode cX10_lasts 35 = .ok (.goto 4, 3) := by decide +kernel
theorem dX10_lasts_38 : decode cX10_lasts 38 = .ok (.iconst 5, 1) := by decide +kernel
theorem dX10_lasts_39 : decode cX10_lasts 39 = .ok (.ireturn, 1) := by decide +kernel
theorem dX10_canDo_0 : decode cX10_canDo 0 = .ok (.iload_n 1, 1) := by decide +kernel
theorem dX10_canDo_1 : decode cX10_canDo 1 = .ok (.iconst 3, 1) := by decide +kernel
theorem dX10_canDo_2 : decode cX10_canDo 2 = .ok (.if_icmp .ne 23, 3) := by decide +kernel
theorem dX10_canDo_5 : decode cX10_canDo 5 = .ok (.aload_n 0, 1) := by decide +kernel
theorem dX10_canDo_6 : decode cX10_canDo 6 = .ok (.getfield 7, 3) := by decide +kernel
theorem dX10_canDo_9 : decode cX10_canDo 9 = .ok (.bipush 8, 2) := by decide +kernel
theorem dX10_canDo_11 : decode cX10_canDo 11 = .ok (.iaload, 1) := by decide +kernel
theorem dX10_canDo_12 : decode cX10_canDo 12 = .ok (.bipush 9, 2) := by decide +kernel
theorem dX10_canDo_14 : decode cX10_canDo 14 = .ok (.if_icmp .ge 7, 3) := by decide +kernel
theorem dX10_canDo_17 : decode cX10_canDo 17 = .ok (.iconst 1, 1) := by decide +kernel
theorem dX10_canDo_18 : decode cX10_canDo 18 = .ok (.goto 76, 3) := by decide +kernel
theorem dX10_canDo_21 : decode cX10_canDo 21 = .ok (.iconst 0, 1) := by decide +kernel
theorem dX10_canDo_22 : decode cX10_canDo 22 = .ok (.goto 72, 3) := by decide +kernel
theorem dX10_canDo_25 : decode cX10_canDo 25 = .ok (.iload_n 1, 1) := by decide +kernel
theorem dX10_canDo_26 : decode cX10_canDo 26 = .ok (.iconst 4, 1) := by decide +kernel
theorem dX10_canDo_27 : decode cX10_canDo 27 = .ok (.if_icmp .ne 21, 3) := by decide +kernel
theorem dX10_canDo_30 : decode cX10_canDo 30 = .ok (.aload_n 0, 1) := by decide +kernel
theorem dX10_canDo_31 : decode cX10_canDo 31 = .ok (.getfield 7, 3) := by decide +kernel
theorem dX10_canDo_34 : decode cX10_canDo 34 = .ok (.bipush 8, 2) := by decide +kernel
theorem dX10_canDo_36 : decode cX10_canDo 36 = .ok (.iaload, 1) := by decide +kernel
theorem dX10_canDo_37 : decode cX10_canDo 37 = .ok (.ifCond .le 7, 3) := by decide +kernel
theorem dX10_canDo_40 : decode cX10_canDo 40 = .ok (.iconst 1, 1) := by decide +kernel
theorem dX10_canDo_41 : decode cX10_canDo 41 = .ok (.goto 53, 3) := by decide +kernel
theorem dX10_canDo_44 : decode cX10_canDo 44 = .ok (.iconst 0, 1) := by decide +kernel
theorem dX10_canDo_45 : decode cX10_canDo 45 = .ok (.goto 49, 3) := by decide +kernel
theorem dX10_canDo_48 : decode cX10_canDo 48 = .ok (.iload_n 1, 1) := by decide +kernel
theorem dX10_canDo_49 : decode cX10_canDo 49 = .ok (.iconst 5, 1) := by decide +kernel
theorem dX10_canDo_50 : decode cX10_canDo 50 = .ok (.if_icmp .ne 23, 3) := by decide +kernel
theorem dX10_canDo_53 : decode cX10_canDo 53 = .ok (.aload_n 0, 1) := by decide +kernel
theorem dX10_canDo_54 : decode cX10_canDo 54 = .ok (.getfield 7, 3) := by decide +kernel
theorem dX10_canDo_57 : decode cX10_canDo 57 = .ok (.bipush 9, 2) := by decide +kernel
theorem dX10_canDo_59 : decode cX10_canDo 59 = .ok (.iaload, 1) := by decide +kernel
theorem dX10_canDo_60 : decode cX10_canDo 60 = .ok (.bipush 9, 2) := by decide +kernel
theorem dX10_canDo_62 : decode cX10_canDo 62 = .ok (.if_icmp .ge 7, 3) := by decide +kernel
theorem dX10_canDo_65 : decode cX10_canDo 65 = .ok (.iconst 1, 1) := by decide +kernel
theorem dX10_canDo_66 : decode cX10_canDo 66 = .ok (.goto 28, 3) := by decide +kernel
theorem dX10_canDo_69 : decode cX10_canDo 69 = .ok (.iconst 0, 1) := by decide +kernel
theorem dX10_canDo_70 : decode cX10_canDo 70 = .ok (.goto 24, 3) := by decide +kernel
theorem dX10_canDo_73 : decode cX10_canDo 73 = .ok (.iload_n 1, 1) := by decide +kernel
theorem dX10_canDo_74 : decode cX10_canDo 74 = .ok (.bipush 6, 2) := by decide +kernel
theorem dX10_canDo_76 : decode cX10_canDo 76 = .ok (.if_icmp .ne 13, 3) := by decide +kernel
theorem dX10_canDo_79 : decode cX10_canDo 79 = .ok (.aload_n 0, 1) := by decide +kernel
theorem dX10_canDo_80 : decode cX10_canDo 80 = .ok (.getfield 7, 3) := by decide +kernel
theorem dX10_canDo_83 : decode cX10_canDo 83 = .ok (.bipush 9, 2) := by decide +kernel
theorem dX10_canDo_85 : decode cX10_canDo 85 = .ok (.iaload, 1) := by decide +kernel
theorem dX10_canDo_86 : decode cX10_canDo 86 = .ok (.ifCond .le 7, 3) := by decide +kernel
theorem dX10_canDo_89 : decode cX10_canDo 89 = .ok (.iconst 1, 1) := by decide +kernel
theorem dX10_canDo_90 : decode cX10_canDo 90 = .ok (.goto 4, 3) := by decide +kernel
theorem dX10_canDo_93 : decode cX10_canDo 93 = .ok (.iconst 0, 1) := by decide +kernel
theorem dX10_canDo_94 : decode cX10_canDo 94 = .ok (.ireturn, 1) := by decide +kernel
theorem dX10_does_0 : decode cX10_does 0 = .ok (.iload_n 1, 1) := by decide +kernel
theorem dX10_does_1 : decode cX10_does 1 = .ok (.tableswitch 114 0 5 #[39, 50, 61, 72, 86, 100], 39) := by decide +kernel
theorem dX10_does_40 : decode cX10_does 40 = .ok (.aload_n 0, 1) := by decide +kernel
theorem dX10_does_41 : decode cX10_does 41 = .ok (.getfield 7, 3) := by decide +kernel
theorem dX10_does_44 : decode cX10_does 44 = .ok (.bipush 7, 2) := by decide +kernel
theorem dX10_does_46 : decode cX10_does 46 = .ok (.iconst 0, 1) := by decide +kernel
theorem dX10_does_47 : decode cX10_does 47 = .ok (.iastore, 1) := by decide +kernel
theorem dX10_does_48 : decode cX10_does 48 = .ok (.goto 78, 3) := by decide +kernel
theorem dX10_does_51 : decode cX10_does 51 = .ok (.aload_n 0, 1) := by decide +kernel
theorem dX10_does_52 : decode cX10_does 52 = .ok (.getfield 7, 3) := by decide +kernel
theorem dX10_does_55 : decode cX10_does 55 = .ok (.bipush 10, 2) := by decide +kernel
theorem dX10_does_57 : decode cX10_does 57 = .ok (.iconst 0, 1) := by decide +kernel
theorem dX10_does_58 : decode cX10_does 58 = .ok (.iastore, 1) := by decide +kernel
theorem dX10_does_59 : decode cX10_does 59 = .ok (.goto 67, 3) := by decide +kernel
theorem dX10_does_62 : decode cX10_does 62 = .ok (.aload_n 0, 1) := by decide +kernel
theorem dX10_does_63 : decode cX10_does 63 = .ok (.getfield 7, 3) := by decide +kernel
theorem dX10_does_66 : decode cX10_does 66 = .ok (.bipush 11, 2) := by decide +kernel
theorem dX10_does_68 : decode cX10_does 68 = .ok (.iconst 0, 1) := by decide +kernel
theorem dX10_does_69 : decode cX10_does 69 = .ok (.iastore, 1) := by decide +kernel
theorem dX10_does_70 : decode cX10_does 70 = .ok (.goto 56, 3) := by decide +kernel
theorem dX10_does_73 : decode cX10_does 73 = .ok (.aload_n 0, 1) := by decide +kernel
theorem dX10_does_74 : decode cX10_does 74 = .ok (.getfield 7, 3) := by decide +kernel
theorem dX10_does_77 : decode cX10_does 77 = .ok (.bipush 8, 2) := by decide +kernel
theorem dX10_does_79 : decode cX10_does 79 = .ok (.dup2, 1) := by decide +kernel
theorem dX10_does_80 : decode cX10_does 80 = .ok (.iaload, 1) := by decide +kernel
theorem dX10_does_81 : decode cX10_does 81 = .ok (.iconst 1, 1) := by decide +kernel
theorem dX10_does_82 : decode cX10_does 82 = .ok (.iadd, 1) := by decide +kernel
theorem dX10_does_83 : decode cX10_does 83 = .ok (.iastore, 1) := by decide +kernel
theorem dX10_does_84 : decode cX10_does 84 = .ok (.goto 42, 3) := by decide +kernel
theorem dX10_does_87 : decode cX10_does 87 = .ok (.aload_n 0, 1) := by decide +kernel
theorem dX10_does_88 : decode cX10_does 88 = .ok (.getfield 7, 3) := by decide +kernel
theorem dX10_does_91 : decode cX10_does 91 = .ok (.bipush 8, 2) := by decide +kernel
theorem dX10_does_93 : decode cX10_does 93 = .ok (.dup2, 1) := by decide +kernel
theorem dX10_does_94 : decode cX10_does 94 = .ok (.iaload, 1) := by decide +kernel
theorem dX10_does_95 : decode cX10_does 95 = .ok (.iconst 1, 1) := by decide +kernel
theorem dX10_does_96 : decode cX10_does 96 = .ok (.isub, 1) := by decide +kernel
theorem dX10_does_97 : decode cX10_does 97 = .ok (.iastore, 1) := by decide +kernel
theorem dX10_does_98 : decode cX10_does 98 = .ok (.goto 28, 3) := by decide +kernel
theorem dX10_does_101 : decode cX10_does 101 = .ok (.aload_n 0, 1) := by decide +kernel
theorem dX10_does_102 : decode cX10_does 102 = .ok (.getfield 7, 3) := by decide +kernel
theorem dX10_does_105 : decode cX10_does 105 = .ok (.bipush 9, 2) := by decide +kernel
theorem dX10_does_107 : decode cX10_does 107 = .ok (.dup2, 1) := by decide +kernel
theorem dX10_does_108 : decode cX10_does 108 = .ok (.iaload, 1) := by decide +kernel
theorem dX10_does_109 : decode cX10_does 109 = .ok (.iconst 1, 1) := by decide +kernel
theorem dX10_does_110 : decode cX10_does 110 = .ok (.iadd, 1) := by decide +kernel
theorem dX10_does_111 : decode cX10_does 111 = .ok (.iastore, 1) := by decide +kernel
theorem dX10_does_112 : decode cX10_does 112 = .ok (.goto 14, 3) := by decide +kernel
theorem dX10_does_115 : decode cX10_does 115 = .ok (.aload_n 0, 1) := by decide +kernel
theorem dX10_does_116 : decode cX10_does 116 = .ok (.getfield 7, 3) := by decide +kernel
theorem dX10_does_119 : decode cX10_does 119 = .ok (.bipush 9, 2) := by decide +kernel
theorem dX10_does_121 : decode cX10_does 121 = .ok (.dup2, 1) := by decide +kernel
theorem dX10_does_122 : decode cX10_does 122 = .ok (.iaload, 1) := by decide +kernel
theorem dX10_does_123 : decode cX10_does 123 = .ok (.iconst 1, 1) := by decide +kernel
theorem dX10_does_124 : decode cX10_does 124 = .ok (.isub, 1) := by decide +kernel
theorem dX10_does_125 : decode cX10_does 125 = .ok (.iastore, 1) := by decide +kernel
theorem dX10_does_126 : decode cX10_does 126 = .ok (.aload_n 0, 1) := by decide +kernel
theorem dX10_does_127 : decode cX10_does 127 = .ok (.getfield 7, 3) := by decide +kernel
theorem dX10_does_130 : decode cX10_does 130 = .ok (.iconst 0, 1) := by decide +kernel
theorem dX10_does_131 : decode cX10_does 131 = .ok (.dup2, 1) := by decide +kernel
theorem dX10_does_132 : decode cX10_does 132 = .ok (.iaload, 1) := by decide +kernel
theorem dX10_does_133 : decode cX10_does 133 = .ok (.iload_n 1, 1) := by decide +kernel
theorem dX10_does_134 : decode cX10_does 134 = .ok (.invokestatic 173, 3) := by decide +kernel
theorem dX10_does_137 : decode cX10_does 137 = .ok (.iadd, 1) := by decide +kernel
theorem dX10_does_138 : decode cX10_does 138 = .ok (.iastore, 1) := by decide +kernel
theorem dX10_does_139 : decode cX10_does 139 = .ok (.return_, 1) := by decide +kernel
theorem dX10_deed_0 : decode cX10_deed 0 = .ok (.iload_n 1, 1) := by decide +kernel
theorem dX10_deed_1 : decode cX10_deed 1 = .ok (.iconst 0, 1) := by decide +kernel
theorem dX10_deed_2 : decode cX10_deed 2 = .ok (.bipush 6, 2) := by decide +kernel
theorem dX10_deed_4 : decode cX10_deed 4 = .ok (.invokestatic 44, 3) := by decide +kernel
theorem dX10_deed_7 : decode cX10_deed 7 = .ok (.ifCond .ne 10, 3) := by decide +kernel
theorem dX10_deed_10 : decode cX10_deed 10 = .ok (.aload_n 0, 1) := by decide +kernel
theorem dX10_deed_11 : decode cX10_deed 11 = .ok (.ldc 48, 2) := by decide +kernel
theorem dX10_deed_13 : decode cX10_deed 13 = .ok (.invokevirtual 49, 3) := by decide +kernel
theorem dX10_deed_16 : decode cX10_deed 16 = .ok (.ireturn, 1) := by decide +kernel
theorem dX10_deed_17 : decode cX10_deed 17 = .ok (.aload_n 0, 1) := by decide +kernel
theorem dX10_deed_18 : decode cX10_deed 18 = .ok (.iload_n 1, 1) := by decide +kernel
theorem dX10_deed_19 : decode cX10_deed 19 = .ok (.invokevirtual 176, 3) := by decide +kernel
theorem dX10_deed_22 : decode cX10_deed 22 = .ok (.ifCond .eq 19, 3) := by decide +kernel
theorem dX10_deed_25 : decode cX10_deed 25 = .ok (.aload_n 0, 1) := by decide +kernel
theorem dX10_deed_26 : decode cX10_deed 26 = .ok (.getfield 7, 3) := by decide +kernel
theorem dX10_deed_29 : decode cX10_deed 29 = .ok (.iconst 0, 1) := by decide +kernel
theorem dX10_deed_30 : decode cX10_deed 30 = .ok (.iaload, 1) := by decide +kernel
theorem dX10_deed_31 : decode cX10_deed 31 = .ok (.iload_n 1, 1) := by decide +kernel
theorem dX10_deed_32 : decode cX10_deed 32 = .ok (.invokestatic 173, 3) := by decide +kernel
theorem dX10_deed_35 : decode cX10_deed 35 = .ok (.iadd, 1) := by decide +kernel
theorem dX10_deed_36 : decode cX10_deed 36 = .ok (.ldc 168, 2) := by decide +kernel
theorem dX10_deed_38 : decode cX10_deed 38 = .ok (.if_icmp .le 10, 3) := by decide +kernel
theorem dX10_deed_41 : decode cX10_deed 41 = .ok (.aload_n 0, 1) := by decide +kernel
theorem dX10_deed_42 : decode cX10_deed 42 = .ok (.ldc 169, 2) := by decide +kernel
theorem dX10_deed_44 : decode cX10_deed 44 = .ok (.invokevirtual 49, 3) := by decide +kernel
theorem dX10_deed_47 : decode cX10_deed 47 = .ok (.ireturn, 1) := by decide +kernel
theorem dX10_deed_48 : decode cX10_deed 48 = .ok (.aload_n 0, 1) := by decide +kernel
theorem dX10_deed_49 : decode cX10_deed 49 = .ok (.iload_n 1, 1) := by decide +kernel
theorem dX10_deed_50 : decode cX10_deed 50 = .ok (.invokevirtual 179, 3) := by decide +kernel
theorem dX10_deed_53 : decode cX10_deed 53 = .ok (.aload_n 0, 1) := by decide +kernel
theorem dX10_deed_54 : decode cX10_deed 54 = .ok (.getfield 7, 3) := by decide +kernel
theorem dX10_deed_57 : decode cX10_deed 57 = .ok (.iconst 0, 1) := by decide +kernel
theorem dX10_deed_58 : decode cX10_deed 58 = .ok (.iaload, 1) := by decide +kernel
theorem dX10_deed_59 : decode cX10_deed 59 = .ok (.ireturn, 1) := by decide +kernel
theorem dX10_drawn_0 : decode cX10_drawn 0 = .ok (.aload_n 0, 1) := by decide +kernel
theorem dX10_drawn_1 : decode cX10_drawn 1 = .ok (.getfield 7, 3) := by decide +kernel
theorem dX10_drawn_4 : decode cX10_drawn 4 = .ok (.iconst 1, 1) := by decide +kernel
theorem dX10_drawn_5 : decode cX10_drawn 5 = .ok (.aload_n 0, 1) := by decide +kernel
theorem dX10_drawn_6 : decode cX10_drawn 6 = .ok (.getfield 7, 3) := by decide +kernel
theorem dX10_drawn_9 : decode cX10_drawn 9 = .ok (.iconst 1, 1) := by decide +kernel
theorem dX10_drawn_10 : decode cX10_drawn 10 = .ok (.iaload, 1) := by decide +kernel
theorem dX10_drawn_11 : decode cX10_drawn 11 = .ok (.ldc 183, 2) := by decide +kernel
theorem dX10_drawn_13 : decode cX10_drawn 13 = .ok (.imul, 1) := by decide +kernel
theorem dX10_drawn_14 : decode cX10_drawn 14 = .ok (.sipush 12345, 3) := by decide +kernel
theorem dX10_drawn_17 : decode cX10_drawn 17 = .ok (.iadd, 1) := by decide +kernel
theorem dX10_drawn_18 : decode cX10_drawn 18 = .ok (.iastore, 1) := by decide +kernel
theorem dX10_drawn_19 : decode cX10_drawn 19 = .ok (.aload_n 0, 1) := by decide +kernel
theorem dX10_drawn_20 : decode cX10_drawn 20 = .ok (.getfield 7, 3) := by decide +kernel
theorem dX10_drawn_23 : decode cX10_drawn 23 = .ok (.iconst 1, 1) := by decide +kernel
theorem dX10_drawn_24 : decode cX10_drawn 24 = .ok (.iaload, 1) := by decide +kernel
theorem dX10_drawn_25 : decode cX10_drawn 25 = .ok (.bipush 8, 2) := by decide +kernel
theorem dX10_drawn_27 : decode cX10_drawn 27 = .ok (.iushr, 1) := by decide +kernel
theorem dX10_drawn_28 : decode cX10_drawn 28 = .ok (.iload_n 1, 1) := by decide +kernel
theorem dX10_drawn_29 : decode cX10_drawn 29 = .ok (.irem, 1) := by decide +kernel
theorem dX10_drawn_30 : decode cX10_drawn 30 = .ok (.ireturn, 1) := by decide +kernel
theorem dX10_loose_0 : decode cX10_loose 0 = .ok (.iload_n 1, 1) := by decide +kernel
theorem dX10_loose_1 : decode cX10_loose 1 = .ok (.iconst 1, 1) := by decide +kernel
theorem dX10_loose_2 : decode cX10_loose 2 = .ok (.bipush 40, 2) := by decide +kernel
theorem dX10_loose_4 : decode cX10_loose 4 = .ok (.invokestatic 44, 3) := by decide +kernel
theorem dX10_loose_7 : decode cX10_loose 7 = .ok (.ifCond .ne 10, 3) := by decide +kernel
theorem dX10_loose_10 : decode cX10_loose 10 = .ok (.aload_n 0, 1) := by decide +kernel
theorem dX10_loose_11 : decode cX10_loose 11 = .ok (.ldc 48, 2) := by decide +kernel
theorem dX10_loose_13 : decode cX10_loose 13 = .ok (.invokevirtual 49, 3) := by decide +kernel
theorem dX10_loose_16 : decode cX10_loose 16 = .ok (.ireturn, 1) := by decide +kernel
theorem dX10_loose_17 : decode cX10_loose 17 = .ok (.aload_n 0, 1) := by decide +kernel
theorem dX10_loose_18 : decode cX10_loose 18 = .ok (.getfield 7, 3) := by decide +kernel
theorem dX10_loose_21 : decode cX10_loose 21 = .ok (.iconst 0, 1) := by decide +kernel
theorem dX10_loose_22 : decode cX10_loose 22 = .ok (.iaload, 1) := by decide +kernel
theorem dX10_loose_23 : decode cX10_loose 23 = .ok (.bipush 30, 2) := by decide +kernel
theorem dX10_loose_25 : decode cX10_loose 25 = .ok (.iload_n 1, 1) := by decide +kernel
theorem dX10_loose_26 : decode cX10_loose 26 = .ok (.imul, 1) := by decide +kernel
theorem dX10_loose_27 : decode cX10_loose 27 = .ok (.iadd, 1) := by decide +kernel
theorem dX10_loose_28 : decode cX10_loose 28 = .ok (.ldc 168, 2) := by decide +kernel
theorem dX10_loose_30 : decode cX10_loose 30 = .ok (.if_icmp .le 10, 3) := by decide +kernel
theorem dX10_loose_33 : decode cX10_loose 33 = .ok (.aload_n 0, 1) := by decide +kernel
theorem dX10_loose_34 : decode cX10_loose 34 = .ok (.ldc 169, 2) := by decide +kernel
theorem dX10_loose_36 : decode cX10_loose 36 = .ok (.invokevirtual 49, 3) := by decide +kernel
theorem dX10_loose_39 : decode cX10_loose 39 = .ok (.ireturn, 1) := by decide +kernel
theorem dX10_loose_40 : decode cX10_loose 40 = .ok (.iconst 0, 1) := by decide +kernel
theorem dX10_loose_41 : decode cX10_loose 41 = .ok (.istore_n 2, 1) := by decide +kernel
theorem dX10_loose_42 : decode cX10_loose 42 = .ok (.iconst 0, 1) := by decide +kernel
theorem dX10_loose_43 : decode cX10_loose 43 = .ok (.istore_n 3, 1) := by decide +kernel
theorem dX10_loose_44 : decode cX10_loose 44 = .ok (.iload_n 3, 1) := by decide +kernel
theorem dX10_loose_45 : decode cX10_loose 45 = .ok (.iload_n 1, 1) := by decide +kernel
theorem dX10_loose_46 : decode cX10_loose 46 = .ok (.if_icmp .ge 79, 3) := by decide +kernel
theorem dX10_loose_49 : decode cX10_loose 49 = .ok (.aload_n 0, 1) := by decide +kernel
theorem dX10_loose_50 : decode cX10_loose 50 = .ok (.bipush 7, 2) := by decide +kernel
theorem dX10_loose_52 : decode cX10_loose 52 = .ok (.invokevirtual 184, 3) := by decide +kernel
theorem dX10_loose_55 : decode cX10_loose 55 = .ok (.istore 4, 2) := by decide +kernel
theorem dX10_loose_57 : decode cX10_loose 57 = .ok (.aload_n 0, 1) := by decide +kernel
theorem dX10_loose_58 : decode cX10_loose 58 = .ok (.aload_n 0, 1) := by decide +kernel
theorem dX10_loose_59 : decode cX10_loose 59 = .ok (.getfield 7, 3) := by decide +kernel
theorem dX10_loose_62 : decode cX10_loose 62 = .ok (.iconst 2, 1) := by decide +kernel
theorem dX10_loose_63 : decode cX10_loose 63 = .ok (.iaload, 1) := by decide +kernel
theorem dX10_loose_64 : decode cX10_loose 64 = .ok (.ifCond .le 12, 3) := by decide +kernel
theorem dX10_loose_67 : decode cX10_loose 67 = .ok (.aload_n 0, 1) := by decide +kernel
theorem dX10_loose_68 : decode cX10_loose 68 = .ok (.getfield 7, 3) := by decide +kernel
theorem dX10_loose_71 : decode cX10_loose 71 = .ok (.iconst 2, 1) := by decide +kernel
theorem dX10_loose_72 : decode cX10_loose 72 = .ok (.iaload, 1) := by decide +kernel
theorem dX10_loose_73 : decode cX10_loose 73 = .ok (.goto 4, 3) := by decide +kernel
theorem dX10_loose_76 : decode cX10_loose 76 = .ok (.iconst 1, 1) := by decide +kernel
theorem dX10_loose_77 : decode cX10_loose 77 = .ok (.invokevirtual 184, 3) := by decide +kernel
theorem dX10_loose_80 : decode cX10_loose 80 = .ok (.istore 5, 2) := by decide +kernel
theorem dX10_loose_82 : decode cX10_loose 82 = .ok (.aload_n 0, 1) := by decide +kernel
theorem dX10_loose_83 : decode cX10_loose 83 = .ok (.iload 4, 2) := by decide +kernel
theorem dX10_loose_85 : decode cX10_loose 85 = .ok (.invokevirtual 176, 3) := by decide +kernel
theorem dX10_loose_88 : decode cX10_loose 88 = .ok (.ifCond .eq 9, 3) := by decide +kernel
theorem dX10_loose_91 : decode cX10_loose 91 = .ok (.aload_n 0, 1) := by decide +kernel
theorem dX10_loose_92 : decode cX10_loose 92 = .ok (.iload 4, 2) := by decide +kernel
theorem dX10_loose_94 : decode cX10_loose 94 = .ok (.invokevirtual 179, 3) := by decide +kernel
theorem dX10_loose_97 : decode cX10_loose 97 = .ok (.iload_n 2, 1) := by decide +kernel
theorem dX10_loose_98 : decode cX10_loose 98 = .ok (.aload_n 0, 1) := by decide +kernel
theorem dX10_loose_99 : decode cX10_loose 99 = .ok (.getfield 7, 3) := by decide +kernel
theorem dX10_loose_102 : decode cX10_loose 102 = .ok (.iconst 2, 1) := by decide +kernel
theorem dX10_loose_103 : decode cX10_loose 103 = .ok (.iaload, 1) := by decide +kernel
theorem dX10_loose_104 : decode cX10_loose 104 = .ok (.ifCond .le 12, 3) := by decide +kernel
theorem dX10_loose_107 : decode cX10_loose 107 = .ok (.aload_n 0, 1) := by decide +kernel
theorem dX10_loose_108 : decode cX10_loose 108 = .ok (.iload 5, 2) := by decide +kernel
theorem dX10_loose_110 : decode cX10_loose 110 = .ok (.invokevirtual 165, 3) := by decide +kernel
theorem dX10_loose_113 : decode cX10_loose 113 = .ok (.goto 4, 3) := by decide +kernel
theorem dX10_loose_116 : decode cX10_loose 116 = .ok (.iconst 0, 1) := by decide +kernel
theorem dX10_loose_117 : decode cX10_loose 117 = .ok (.iadd, 1) := by decide +kernel
theorem dX10_loose_118 : decode cX10_loose 118 = .ok (.istore_n 2, 1) := by decide +kernel
theorem dX10_loose_119 : decode cX10_loose 119 = .ok (.iinc 3 1, 3) := by decide +kernel
theorem dX10_loose_122 : decode cX10_loose 122 = .ok (.goto (-78), 3) := by decide +kernel
theorem dX10_loose_125 : decode cX10_loose 125 = .ok (.iload_n 2, 1) := by decide +kernel
theorem dX10_loose_126 : decode cX10_loose 126 = .ok (.ireturn, 1) := by decide +kernel
theorem dX10_after_0 : decode cX10_after 0 = .ok (.aload_n 0, 1) := by decide +kernel
theorem dX10_after_1 : decode cX10_after 1 = .ok (.iload_n 1, 1) := by decide +kernel
theorem dX10_after_2 : decode cX10_after 2 = .ok (.invokevirtual 62, 3) := by decide +kernel
theorem dX10_after_5 : decode cX10_after 5 = .ok (.ifCond .eq 14, 3) := by decide +kernel
theorem dX10_after_8 : decode cX10_after 8 = .ok (.iload_n 2, 1) := by decide +kernel
theorem dX10_after_9 : decode cX10_after 9 = .ok (.iconst 0, 1) := by decide +kernel
theorem dX10_after_10 : decode cX10_after 10 = .ok (.sipush 200, 3) := by decide +kernel
theorem dX10_after_13 : decode cX10_after 13 = .ok (.invokestatic 44, 3) := by decide +kernel
theorem dX10_after_16 : decode cX10_after 16 = .ok (.ifCond .ne 10, 3) := by decide +kernel
theorem dX10_after_19 : decode cX10_after 19 = .ok (.aload_n 0, 1) := by decide +kernel
theorem dX10_after_20 : decode cX10_after 20 = .ok (.ldc 48, 2) := by decide +kernel
theorem dX10_after_22 : decode cX10_after 22 = .ok (.invokevirtual 49, 3) := by decide +kernel
theorem dX10_after_25 : decode cX10_after 25 = .ok (.ireturn, 1) := by decide +kernel
theorem dX10_after_26 : decode cX10_after 26 = .ok (.aload_n 0, 1) := by decide +kernel
theorem dX10_after_27 : decode cX10_after 27 = .ok (.aload_n 0, 1) := by decide +kernel
theorem dX10_after_28 : decode cX10_after 28 = .ok (.getfield 7, 3) := by decide +kernel
theorem dX10_after_31 : decode cX10_after 31 = .ok (.aload_n 0, 1) := by decide +kernel
theorem dX10_after_32 : decode cX10_after 32 = .ok (.getfield 16, 3) := by decide +kernel
theorem dX10_after_35 : decode cX10_after 35 = .ok (.invokevirtual 158, 3) := by decide +kernel
theorem dX10_after_38 : decode cX10_after 38 = .ok (.aload_n 0, 1) := by decide +kernel
theorem dX10_after_39 : decode cX10_after 39 = .ok (.iload_n 1, 1) := by decide +kernel
theorem dX10_after_40 : decode cX10_after 40 = .ok (.iload_n 2, 1) := by decide +kernel
theorem dX10_after_41 : decode cX10_after 41 = .ok (.invokevirtual 170, 3) := by decide +kernel
theorem dX10_after_44 : decode cX10_after 44 = .ok (.istore_n 3, 1) := by decide +kernel
theorem dX10_after_45 : decode cX10_after 45 = .ok (.iload_n 3, 1) := by decide +kernel
theorem dX10_after_46 : decode cX10_after 46 = .ok (.ifCond .ge 7, 3) := by decide +kernel
theorem dX10_after_49 : decode cX10_after 49 = .ok (.iconst 0, 1) := by decide +kernel
theorem dX10_after_50 : decode cX10_after 50 = .ok (.goto 8, 3) := by decide +kernel
theorem dX10_after_53 : decode cX10_after 53 = .ok (.aload_n 0, 1) := by decide +kernel
theorem dX10_after_54 : decode cX10_after 54 = .ok (.iload_n 1, 1) := by decide +kernel
theorem dX10_after_55 : decode cX10_after 55 = .ok (.invokevirtual 75, 3) := by decide +kernel
theorem dX10_after_58 : decode cX10_after 58 = .ok (.istore 4, 2) := by decide +kernel
theorem dX10_after_60 : decode cX10_after 60 = .ok (.aload_n 0, 1) := by decide +kernel
theorem dX10_after_61 : decode cX10_after 61 = .ok (.aload_n 0, 1) := by decide +kernel
theorem dX10_after_62 : decode cX10_after 62 = .ok (.getfield 16, 3) := by decide +kernel
theorem dX10_after_65 : decode cX10_after 65 = .ok (.aload_n 0, 1) := by decide +kernel
theorem dX10_after_66 : decode cX10_after 66 = .ok (.getfield 7, 3) := by decide +kernel
theorem dX10_after_69 : decode cX10_after 69 = .ok (.invokevirtual 158, 3) := by decide +kernel
theorem dX10_after_72 : decode cX10_after 72 = .ok (.iload 4, 2) := by decide +kernel
theorem dX10_after_74 : decode cX10_after 74 = .ok (.ireturn, 1) := by decide +kernel
theorem dX10_until_0 : decode cX10_until 0 = .ok (.aload_n 0, 1) := by decide +kernel
theorem dX10_until_1 : decode cX10_until 1 = .ok (.iload_n 1, 1) := by decide +kernel
theorem dX10_until_2 : decode cX10_until 2 = .ok (.invokevirtual 62, 3) := by decide +kernel
theorem dX10_until_5 : decode cX10_until 5 = .ok (.ifCond .ne 10, 3) := by decide +kernel
theorem dX10_until_8 : decode cX10_until 8 = .ok (.aload_n 0, 1) := by decide +kernel
theorem dX10_until_9 : decode cX10_until 9 = .ok (.ldc 48, 2) := by decide +kernel
theorem dX10_until_11 : decode cX10_until 11 = .ok (.invokevirtual 49, 3) := by decide +kernel
theorem dX10_until_14 : decode cX10_until 14 = .ok (.ireturn, 1) := by decide +kernel
theorem dX10_until_15 : decode cX10_until 15 = .ok (.aload_n 0, 1) := by decide +kernel
theorem dX10_until_16 : decode cX10_until 16 = .ok (.iload_n 1, 1) := by decide +kernel
theorem dX10_until_17 : decode cX10_until 17 = .ok (.invokevirtual 75, 3) := by decide +kernel
theorem dX10_until_20 : decode cX10_until 20 = .ok (.istore_n 2, 1) := by decide +kernel
theorem dX10_until_21 : decode cX10_until 21 = .ok (.aload_n 0, 1) := by decide +kernel
theorem dX10_until_22 : decode cX10_until 22 = .ok (.aload_n 0, 1) := by decide +kernel
theorem dX10_until_23 : decode cX10_until 23 = .ok (.getfield 7, 3) := by decide +kernel
theorem dX10_until_26 : decode cX10_until 26 = .ok (.aload_n 0, 1) := by decide +kernel
theorem dX10_until_27 : decode cX10_until 27 = .ok (.getfield 16, 3) := by decide +kernel
theorem dX10_until_30 : decode cX10_until 30 = .ok (.invokevirtual 158, 3) := by decide +kernel
theorem dX10_until_33 : decode cX10_until 33 = .ok (.iconst 0, 1) := by decide +kernel
theorem dX10_until_34 : decode cX10_until 34 = .ok (.istore_n 3, 1) := by decide +kernel
theorem dX10_until_35 : decode cX10_until 35 = .ok (.iload_n 3, 1) := by decide +kernel
theorem dX10_until_36 : decode cX10_until 36 = .ok (.sipush 200, 3) := by decide +kernel
theorem dX10_until_39 : decode cX10_until 39 = .ok (.if_icmp .gt 31, 3) := by decide +kernel
theorem dX10_until_42 : decode cX10_until 42 = .ok (.aload_n 0, 1) := by decide +kernel
theorem dX10_until_43 : decode cX10_until 43 = .ok (.iload_n 1, 1) := by decide +kernel
theorem dX10_until_44 : decode cX10_until 44 = .ok (.invokevirtual 75, 3) := by decide +kernel
theorem dX10_until_47 : decode cX10_until 47 = .ok (.iload_n 2, 1) := by decide +kernel
theorem dX10_until_48 : decode cX10_until 48 = .ok (.if_icmp .ne 22, 3) := by decide +kernel
theorem dX10_until_51 : decode cX10_until 51 = .ok (.iload_n 3, 1) := by decide +kernel
theorem dX10_until_52 : decode cX10_until 52 = .ok (.aload_n 0, 1) := by decide +kernel
theorem dX10_until_53 : decode cX10_until 53 = .ok (.iload_n 1, 1) := by decide +kernel
theorem dX10_until_54 : decode cX10_until 54 = .ok (.invokevirtual 165, 3) := by decide +kernel
theorem dX10_until_57 : decode cX10_until 57 = .ok (.ifCond .ge 7, 3) := by decide +kernel
theorem dX10_until_60 : decode cX10_until 60 = .ok (.iconst 0, 1) := by decide +kernel
theorem dX10_until_61 : decode cX10_until 61 = .ok (.goto 4, 3) := by decide +kernel
theorem dX10_until_64 : decode cX10_until 64 = .ok (.iconst 1, 1) := by decide +kernel
theorem dX10_until_65 : decode cX10_until 65 = .ok (.iadd, 1) := by decide +kernel
theorem dX10_until_66 : decode cX10_until 66 = .ok (.istore_n 3, 1) := by decide +kernel
theorem dX10_until_67 : decode cX10_until 67 = .ok (.goto (-32), 3) := by decide +kernel
theorem dX10_until_70 : decode cX10_until 70 = .ok (.aload_n 0, 1) := by decide +kernel
theorem dX10_until_71 : decode cX10_until 71 = .ok (.aload_n 0, 1) := by decide +kernel
theorem dX10_until_72 : decode cX10_until 72 = .ok (.getfield 16, 3) := by decide +kernel
theorem dX10_until_75 : decode cX10_until 75 = .ok (.aload_n 0, 1) := by decide +kernel
theorem dX10_until_76 : decode cX10_until 76 = .ok (.getfield 7, 3) := by decide +kernel
theorem dX10_until_79 : decode cX10_until 79 = .ok (.invokevirtual 158, 3) := by decide +kernel
theorem dX10_until_82 : decode cX10_until 82 = .ok (.iload_n 3, 1) := by decide +kernel
theorem dX10_until_83 : decode cX10_until 83 = .ok (.sipush 200, 3) := by decide +kernel
theorem dX10_until_86 : decode cX10_until 86 = .ok (.if_icmp .le 12, 3) := by decide +kernel
theorem dX10_until_89 : decode cX10_until 89 = .ok (.aload_n 0, 1) := by decide +kernel
theorem dX10_until_90 : decode cX10_until 90 = .ok (.ldc 187, 2) := by decide +kernel
theorem dX10_until_92 : decode cX10_until 92 = .ok (.invokevirtual 49, 3) := by decide +kernel
theorem dX10_until_95 : decode cX10_until 95 = .ok (.goto 4, 3) := by decide +kernel
theorem dX10_until_98 : decode cX10_until 98 = .ok (.iload_n 3, 1) := by decide +kernel
theorem dX10_until_99 : decode cX10_until 99 = .ok (.ireturn, 1) := by decide +kernel
theorem dX10_apart_0 : decode cX10_apart 0 = .ok (.iload_n 0, 1) := by decide +kernel
theorem dX10_apart_1 : decode cX10_apart 1 = .ok (.iload_n 1, 1) := by decide +kernel
theorem dX10_apart_2 : decode cX10_apart 2 = .ok (.if_icmp .ge 9, 3) := by decide +kernel
theorem dX10_apart_5 : decode cX10_apart 5 = .ok (.iload_n 1, 1) := by decide +kernel
theorem dX10_apart_6 : decode cX10_apart 6 = .ok (.iload_n 0, 1) := by decide +kernel
theorem dX10_apart_7 : decode cX10_apart 7 = .ok (.isub, 1) := by decide +kernel
theorem dX10_apart_8 : decode cX10_apart 8 = .ok (.goto 6, 3) := by decide +kernel
theorem dX10_apart_11 : decode cX10_apart 11 = .ok (.iload_n 0, 1) := by decide +kernel
theorem dX10_apart_12 : decode cX10_apart 12 = .ok (.iload_n 1, 1) := by decide +kernel
theorem dX10_apart_13 : decode cX10_apart 13 = .ok (.isub, 1) := by decide +kernel
theorem dX10_apart_14 : decode cX10_apart 14 = .ok (.ireturn, 1) := by decide +kernel
theorem dX10_cure_0 : decode cX10_cure 0 = .ok (.aload_n 0, 1) := by decide +kernel
theorem dX10_cure_1 : decode cX10_cure 1 = .ok (.iload_n 1, 1) := by decide +kernel
theorem dX10_cure_2 : decode cX10_cure 2 = .ok (.invokevirtual 62, 3) := by decide +kernel
theorem dX10_cure_5 : decode cX10_cure 5 = .ok (.ifCond .eq 12, 3) := by decide +kernel
theorem dX10_cure_8 : decode cX10_cure 8 = .ok (.iload_n 2, 1) := by decide +kernel
theorem dX10_cure_9 : decode cX10_cure 9 = .ok (.iconst 0, 1) := by decide +kernel
theorem dX10_cure_10 : decode cX10_cure 10 = .ok (.iconst 1, 1) := by decide +kernel
theorem dX10_cure_11 : decode cX10_cure 11 = .ok (.invokestatic 44, 3) := by decide +kernel
theorem dX10_cure_14 : decode cX10_cure 14 = .ok (.ifCond .ne 10, 3) := by decide +kernel
theorem dX10_cure_17 : decode cX10_cure 17 = .ok (.aload_n 0, 1) := by decide +kernel
theorem dX10_cure_18 : decode cX10_cure 18 = .ok (.ldc 48, 2) := by decide +kernel
theorem dX10_cure_20 : decode cX10_cure 20 = .ok (.invokevirtual 49, 3) := by decide +kernel
theorem dX10_cure_23 : decode cX10_cure 23 = .ok (.ireturn, 1) := by decide +kernel
theorem dX10_cure_24 : decode cX10_cure 24 = .ok (.iconst (-1), 1) := by decide +kernel
theorem dX10_cure_25 : decode cX10_cure 25 = .ok (.istore_n 3, 1) := by decide +kernel
theorem dX10_cure_26 : decode cX10_cure 26 = .ok (.iconst 0, 1) := by decide +kernel
theorem dX10_cure_27 : decode cX10_cure 27 = .ok (.istore 4, 2) := by decide +kernel
theorem dX10_cure_29 : decode cX10_cure 29 = .ok (.aload_n 0, 1) := by decide +kernel
theorem dX10_cure_30 : decode cX10_cure 30 = .ok (.aload_n 0, 1) := by decide +kernel
theorem dX10_cure_31 : decode cX10_cure 31 = .ok (.getfield 7, 3) := by decide +kernel
theorem dX10_cure_34 : decode cX10_cure 34 = .ok (.aload_n 0, 1) := by decide +kernel
theorem dX10_cure_35 : decode cX10_cure 35 = .ok (.getfield 16, 3) := by decide +kernel
theorem dX10_cure_38 : decode cX10_cure 38 = .ok (.invokevirtual 158, 3) := by decide +kernel
theorem dX10_cure_41 : decode cX10_cure 41 = .ok (.iconst 0, 1) := by decide +kernel
theorem dX10_cure_42 : decode cX10_cure 42 = .ok (.istore 5, 2) := by decide +kernel
theorem dX10_cure_44 : decode cX10_cure 44 = .ok (.iload 5, 2) := by decide +kernel
theorem dX10_cure_46 : decode cX10_cure 46 = .ok (.sipush 800, 3) := by decide +kernel
theorem dX10_cure_49 : decode cX10_cure 49 = .ok (.if_icmp .ge 185, 3) := by decide +kernel
theorem dX10_cure_52 : decode cX10_cure 52 = .ok (.iload 5, 2) := by decide +kernel
theorem dX10_cure_54 : decode cX10_cure 54 = .ok (.bipush 100, 2) := by decide +kernel
theorem dX10_cure_56 : decode cX10_cure 56 = .ok (.idiv, 1) := by decide +kernel
theorem dX10_cure_57 : decode cX10_cure 57 = .ok (.istore 6, 2) := by decide +kernel
theorem dX10_cure_59 : decode cX10_cure 59 = .ok (.iconst 2, 1) := by decide +kernel
theorem dX10_cure_60 : decode cX10_cure 60 = .ok (.aload_n 0, 1) := by decide +kernel
theorem dX10_cure_61 : decode cX10_cure 61 = .ok (.getfield 7, 3) := by decide +kernel
theorem dX10_cure_64 : decode cX10_cure 64 = .ok (.bipush 8, 2) := by decide +kernel
theorem dX10_cure_66 : decode cX10_cure 66 = .ok (.iaload, 1) := by decide +kernel
theorem dX10_cure_67 : decode cX10_cure 67 = .ok (.iload 5, 2) := by decide +kernel
theorem dX10_cure_69 : decode cX10_cure 69 = .ok (.bipush 10, 2) := by decide +kernel
theorem dX10_cure_71 : decode cX10_cure 71 = .ok (.idiv, 1) := by decide +kernel
theorem dX10_cure_72 : decode cX10_cure 72 = .ok (.bipush 10, 2) := by decide +kernel
theorem dX10_cure_74 : decode cX10_cure 74 = .ok (.irem, 1) := by decide +kernel
theorem dX10_cure_75 : decode cX10_cure 75 = .ok (.invokestatic 188, 3) := by decide +kernel
theorem dX10_cure_78 : decode cX10_cure 78 = .ok (.imul, 1) := by decide +kernel
theorem dX10_cure_79 : decode cX10_cure 79 = .ok (.iconst 5, 1) := by decide +kernel
theorem dX10_cure_80 : decode cX10_cure 80 = .ok (.aload_n 0, 1) := by decide +kernel
theorem dX10_cure_81 : decode cX10_cure 81 = .ok (.getfield 7, 3) := by decide +kernel
theorem dX10_cure_84 : decode cX10_cure 84 = .ok (.bipush 9, 2) := by decide +kernel
theorem dX10_cure_86 : decode cX10_cure 86 = .ok (.iaload, 1) := by decide +kernel
theorem dX10_cure_87 : decode cX10_cure 87 = .ok (.iload 5, 2) := by decide +kernel
theorem dX10_cure_89 : decode cX10_cure 89 = .ok (.bipush 10, 2) := by decide +kernel
theorem dX10_cure_91 : decode cX10_cure 91 = .ok (.irem, 1) := by decide +kernel
theorem dX10_cure_92 : decode cX10_cure 92 = .ok (.invokestatic 188, 3) := by decide +kernel
theorem dX10_cure_95 : decode cX10_cure 95 = .ok (.imul, 1) := by decide +kernel
theorem dX10_cure_96 : decode cX10_cure 96 = .ok (.iadd, 1) := by decide +kernel
theorem dX10_cure_97 : decode cX10_cure 97 = .ok (.istore 7, 2) := by decide +kernel
theorem dX10_cure_99 : decode cX10_cure 99 = .ok (.iconst 0, 1) := by decide +kernel
theorem dX10_cure_100 : decode cX10_cure 100 = .ok (.istore 8, 2) := by decide +kernel
theorem dX10_cure_102 : decode cX10_cure 102 = .ok (.iload 8, 2) := by decide +kernel
theorem dX10_cure_104 : decode cX10_cure 104 = .ok (.iconst 3, 1) := by decide +kernel
theorem dX10_cure_105 : decode cX10_cure 105 = .ok (.if_icmp .ge 36, 3) := by decide +kernel
theorem dX10_cure_108 : decode cX10_cure 108 = .ok (.iload 6, 2) := by decide +kernel
theorem dX10_cure_110 : decode cX10_cure 110 = .ok (.iload 8, 2) := by decide +kernel
theorem dX10_cure_112 : decode cX10_cure 112 = .ok (.ishr, 1) := by decide +kernel
theorem dX10_cure_113 : decode cX10_cure 113 = .ok (.iconst 1, 1) := by decide +kernel
theorem dX10_cure_114 : decode cX10_cure 114 = .ok (.iand, 1) := by decide +kernel
theorem dX10_cure_115 : decode cX10_cure 115 = .ok (.iconst 1, 1) := by decide +kernel
theorem dX10_cure_116 : decode cX10_cure 116 = .ok (.if_icmp .ne 19, 3) := by decide +kernel
theorem dX10_cure_119 : decode cX10_cure 119 = .ok (.aload_n 0, 1) := by decide +kernel
theorem dX10_cure_120 : decode cX10_cure 120 = .ok (.iload 8, 2) := by decide +kernel
theorem dX10_cure_122 : decode cX10_cure 122 = .ok (.invokevirtual 179, 3) := by decide +kernel
theorem dX10_cure_125 : decode cX10_cure 125 = .ok (.iload 7, 2) := by decide +kernel
theorem dX10_cure_127 : decode cX10_cure 127 = .ok (.iload 8, 2) := by decide +kernel
theorem dX10_cure_129 : decode cX10_cure 129 = .ok (.invokestatic 173, 3) := by decide +kernel
theorem dX10_cure_132 : decode cX10_cure 132 = .ok (.iadd, 1) := by decide +kernel
theorem dX10_cure_133 : decode cX10_cure 133 = .ok (.istore 7, 2) := by decide +kernel
theorem dX10_cure_135 : decode cX10_cure 135 = .ok (.iinc 8 1, 3) := by decide +kernel
theorem dX10_cure_138 : decode cX10_cure 138 = .ok (.goto (-36), 3) := by decide +kernel
theorem dX10_cure_141 : decode cX10_cure 141 = .ok (.aload_n 0, 1) := by decide +kernel
theorem dX10_cure_142 : decode cX10_cure 142 = .ok (.getfield 7, 3) := by decide +kernel
theorem dX10_cure_145 : decode cX10_cure 145 = .ok (.bipush 8, 2) := by decide +kernel
theorem dX10_cure_147 : decode cX10_cure 147 = .ok (.iload 5, 2) := by decide +kernel
theorem dX10_cure_149 : decode cX10_cure 149 = .ok (.bipush 10, 2) := by decide +kernel
theorem dX10_cure_151 : decode cX10_cure 151 = .ok (.idiv, 1) := by decide +kernel
theorem dX10_cure_152 : decode cX10_cure 152 = .ok (.bipush 10, 2) := by decide +kernel
theorem dX10_cure_154 : decode cX10_cure 154 = .ok (.irem, 1) := by decide +kernel
theorem dX10_cure_155 : decode cX10_cure 155 = .ok (.iastore, 1) := by decide +kernel
theorem dX10_cure_156 : decode cX10_cure 156 = .ok (.aload_n 0, 1) := by decide +kernel
theorem dX10_cure_157 : decode cX10_cure 157 = .ok (.getfield 7, 3) := by decide +kernel
theorem dX10_cure_160 : decode cX10_cure 160 = .ok (.bipush 9, 2) := by decide +kernel
theorem dX10_cure_162 : decode cX10_cure 162 = .ok (.iload 5, 2) := by decide +kernel
theorem dX10_cure_164 : decode cX10_cure 164 = .ok (.bipush 10, 2) := by decide +kernel
theorem dX10_cure_166 : decode cX10_cure 166 = .ok (.irem, 1) := by decide +kernel
theorem dX10_cure_167 : decode cX10_cure 167 = .ok (.iastore, 1) := by decide +kernel
theorem dX10_cure_168 : decode cX10_cure 168 = .ok (.aload_n 0, 1) := by decide +kernel
theorem dX10_cure_169 : decode cX10_cure 169 = .ok (.iload_n 1, 1) := by decide +kernel
theorem dX10_cure_170 : decode cX10_cure 170 = .ok (.invokevirtual 75, 3) := by decide +kernel
theorem dX10_cure_173 : decode cX10_cure 173 = .ok (.ifCond .ne 7, 3) := by decide +kernel
theorem dX10_cure_176 : decode cX10_cure 176 = .ok (.iconst 1, 1) := by decide +kernel
theorem dX10_cure_177 : decode cX10_cure 177 = .ok (.goto 4, 3) := by decide +kernel
theorem dX10_cure_180 : decode cX10_cure 180 = .ok (.iconst 0, 1) := by decide +kernel
theorem dX10_cure_181 : decode cX10_cure 181 = .ok (.istore 8, 2) := by decide +kernel
theorem dX10_cure_183 : decode cX10_cure 183 = .ok (.aload_n 0, 1) := by decide +kernel
theorem dX10_cure_184 : decode cX10_cure 184 = .ok (.aload_n 0, 1) := by decide +kernel
theorem dX10_cure_185 : decode cX10_cure 185 = .ok (.getfield 16, 3) := by decide +kernel
theorem dX10_cure_188 : decode cX10_cure 188 = .ok (.aload_n 0, 1) := by decide +kernel
theorem dX10_cure_189 : decode cX10_cure 189 = .ok (.getfield 7, 3) := by decide +kernel
theorem dX10_cure_192 : decode cX10_cure 192 = .ok (.invokevirtual 158, 3) := by decide +kernel
theorem dX10_cure_195 : decode cX10_cure 195 = .ok (.iload 8, 2) := by decide +kernel
theorem dX10_cure_197 : decode cX10_cure 197 = .ok (.ifCond .eq 31, 3) := by decide +kernel
theorem dX10_cure_200 : decode cX10_cure 200 = .ok (.iload_n 3, 1) := by decide +kernel
theorem dX10_cure_201 : decode cX10_cure 201 = .ok (.ifCond .lt 10, 3) := by decide +kernel
theorem dX10_cure_204 : decode cX10_cure 204 = .ok (.iload 7, 2) := by decide +kernel
theorem dX10_cure_206 : decode cX10_cure 206 = .ok (.iload 4, 2) := by decide +kernel
theorem dX10_cure_208 : decode cX10_cure 208 = .ok (.if_icmp .ge 20, 3) := by decide +kernel
theorem dX10_cure_211 : decode cX10_cure 211 = .ok (.sipush 1000, 3) := by decide +kernel
theorem dX10_cure_214 : decode cX10_cure 214 = .ok (.iload 6, 2) := by decide +kernel
theorem dX10_cure_216 : decode cX10_cure 216 = .ok (.imul, 1) := by decide +kernel
theorem dX10_cure_217 : decode cX10_cure 217 = .ok (.iload 5, 2) := by decide +kernel
theorem dX10_cure_219 : decode cX10_cure 219 = .ok (.bipush 100, 2) := by decide +kernel
theorem dX10_cure_221 : decode cX10_cure 221 = .ok (.irem, 1) := by decide +kernel
theorem dX10_cure_222 : decode cX10_cure 222 = .ok (.iadd, 1) := by decide +kernel
theorem dX10_cure_223 : decode cX10_cure 223 = .ok (.istore_n 3, 1) := by decide +kernel
theorem dX10_cure_224 : decode cX10_cure 224 = .ok (.iload 7, 2) := by decide +kernel
theorem dX10_cure_226 : decode cX10_cure 226 = .ok (.istore 4, 2) := by decide +kernel
theorem dX10_cure_228 : decode cX10_cure 228 = .ok (.iinc 5 1, 3) := by decide +kernel
theorem dX10_cure_231 : decode cX10_cure 231 = .ok (.goto (-187), 3) := by decide +kernel
theorem dX10_cure_234 : decode cX10_cure 234 = .ok (.iload_n 3, 1) := by decide +kernel
theorem dX10_cure_235 : decode cX10_cure 235 = .ok (.ifCond .ge 10, 3) := by decide +kernel
theorem dX10_cure_238 : decode cX10_cure 238 = .ok (.aload_n 0, 1) := by decide +kernel
theorem dX10_cure_239 : decode cX10_cure 239 = .ok (.ldc 187, 2) := by decide +kernel
theorem dX10_cure_241 : decode cX10_cure 241 = .ok (.invokevirtual 49, 3) := by decide +kernel
theorem dX10_cure_244 : decode cX10_cure 244 = .ok (.ireturn, 1) := by decide +kernel
theorem dX10_cure_245 : decode cX10_cure 245 = .ok (.iload_n 2, 1) := by decide +kernel
theorem dX10_cure_246 : decode cX10_cure 246 = .ok (.ifCond .ne 8, 3) := by decide +kernel
theorem dX10_cure_249 : decode cX10_cure 249 = .ok (.iload 4, 2) := by decide +kernel
theorem dX10_cure_251 : decode cX10_cure 251 = .ok (.goto 4, 3) := by decide +kernel
theorem dX10_cure_254 : decode cX10_cure 254 = .ok (.iload_n 3, 1) := by decide +kernel
theorem dX10_cure_255 : decode cX10_cure 255 = .ok (.ireturn, 1) := by decide +kernel
theorem dX10_alone_0 : decode cX10_alone 0 = .ok (.aload_n 0, 1) := by decide +kernel
theorem dX10_alone_1 : decode cX10_alone 1 = .ok (.iload_n 1, 1) := by decide +kernel
theorem dX10_alone_2 : decode cX10_alone 2 = .ok (.invokevirtual 62, 3) := by decide +kernel
theorem dX10_alone_5 : decode cX10_alone 5 = .ok (.ifCond .ne 10, 3) := by decide +kernel
theorem dX10_alone_8 : decode cX10_alone 8 = .ok (.aload_n 0, 1) := by decide +kernel
theorem dX10_alone_9 : decode cX10_alone 9 = .ok (.ldc 48, 2) := by decide +kernel
theorem dX10_alone_11 : decode cX10_alone 11 = .ok (.invokevirtual 49, 3) := by decide +kernel
theorem dX10_alone_14 : decode cX10_alone 14 = .ok (.ireturn, 1) := by decide +kernel
theorem dX10_alone_15 : decode cX10_alone 15 = .ok (.iconst 0, 1) := by decide +kernel
theorem dX10_alone_16 : decode cX10_alone 16 = .ok (.istore_n 2, 1) := by decide +kernel
theorem dX10_alone_17 : decode cX10_alone 17 = .ok (.aload_n 0, 1) := by decide +kernel
theorem dX10_alone_18 : decode cX10_alone 18 = .ok (.aload_n 0, 1) := by decide +kernel
theorem dX10_alone_19 : decode cX10_alone 19 = .ok (.getfield 7, 3) := by decide +kernel
theorem dX10_alone_22 : decode cX10_alone 22 = .ok (.aload_n 0, 1) := by decide +kernel
theorem dX10_alone_23 : decode cX10_alone 23 = .ok (.getfield 16, 3) := by decide +kernel
theorem dX10_alone_26 : decode cX10_alone 26 = .ok (.invokevirtual 158, 3) := by decide +kernel
theorem dX10_alone_29 : decode cX10_alone 29 = .ok (.iconst 0, 1) := by decide +kernel
theorem dX10_alone_30 : decode cX10_alone 30 = .ok (.istore_n 3, 1) := by decide +kernel
theorem dX10_alone_31 : decode cX10_alone 31 = .ok (.iload_n 3, 1) := by decide +kernel
theorem dX10_alone_32 : decode cX10_alone 32 = .ok (.bipush 7, 2) := by decide +kernel
theorem dX10_alone_34 : decode cX10_alone 34 = .ok (.if_icmp .ge 52, 3) := by decide +kernel
theorem dX10_alone_37 : decode cX10_alone 37 = .ok (.aload_n 0, 1) := by decide +kernel
theorem dX10_alone_38 : decode cX10_alone 38 = .ok (.iload_n 3, 1) := by decide +kernel
theorem dX10_alone_39 : decode cX10_alone 39 = .ok (.invokevirtual 176, 3) := by decide +kernel
theorem dX10_alone_42 : decode cX10_alone 42 = .ok (.ifCond .eq 38, 3) := by decide +kernel
theorem dX10_alone_45 : decode cX10_alone 45 = .ok (.aload_n 0, 1) := by decide +kernel
theorem dX10_alone_46 : decode cX10_alone 46 = .ok (.iload_n 3, 1) := by decide +kernel
theorem dX10_alone_47 : decode cX10_alone 47 = .ok (.invokevirtual 179, 3) := by decide +kernel
theorem dX10_alone_50 : decode cX10_alone 50 = .ok (.iload_n 2, 1) := by decide +kernel
theorem dX10_alone_51 : decode cX10_alone 51 = .ok (.aload_n 0, 1) := by decide +kernel
theorem dX10_alone_52 : decode cX10_alone 52 = .ok (.iload_n 1, 1) := by decide +kernel
theorem dX10_alone_53 : decode cX10_alone 53 = .ok (.invokevirtual 75, 3) := by decide +kernel
theorem dX10_alone_56 : decode cX10_alone 56 = .ok (.ifCond .ne 9, 3) := by decide +kernel
theorem dX10_alone_59 : decode cX10_alone 59 = .ok (.iconst 1, 1) := by decide +kernel
theorem dX10_alone_60 : decode cX10_alone 60 = .ok (.iload_n 3, 1) := by decide +kernel
theorem dX10_alone_61 : decode cX10_alone 61 = .ok (.ishl, 1) := by decide +kernel
theorem dX10_alone_62 : decode cX10_alone 62 = .ok (.goto 4, 3) := by decide +kernel
theorem dX10_alone_65 : decode cX10_alone 65 = .ok (.iconst 0, 1) := by decide +kernel
theorem dX10_alone_66 : decode cX10_alone 66 = .ok (.ior, 1) := by decide +kernel
theorem dX10_alone_67 : decode cX10_alone 67 = .ok (.istore_n 2, 1) := by decide +kernel
theorem dX10_alone_68 : decode cX10_alone 68 = .ok (.aload_n 0, 1) := by decide +kernel
theorem dX10_alone_69 : decode cX10_alone 69 = .ok (.aload_n 0, 1) := by decide +kernel
theorem dX10_alone_70 : decode cX10_alone 70 = .ok (.getfield 16, 3) := by decide +kernel
theorem dX10_alone_73 : decode cX10_alone 73 = .ok (.aload_n 0, 1) := by decide +kernel
theorem dX10_alone_74 : decode cX10_alone 74 = .ok (.getfield 7, 3) := by decide +kernel
theorem dX10_alone_77 : decode cX10_alone 77 = .ok (.invokevirtual 158, 3) := by decide +kernel
theorem dX10_alone_80 : decode cX10_alone 80 = .ok (.iinc 3 1, 3) := by decide +kernel
theorem dX10_alone_83 : decode cX10_alone 83 = .ok (.goto (-52), 3) := by decide +kernel
theorem dX10_alone_86 : decode cX10_alone 86 = .ok (.iload_n 2, 1) := by decide +kernel
theorem dX10_alone_87 : decode cX10_alone 87 = .ok (.ireturn, 1) := by decide +kernel
theorem dX10_turnsTo_0 : decode cX10_turnsTo 0 = .ok (.aload_n 0, 1) := by decide +kernel
theorem dX10_turnsTo_1 : decode cX10_turnsTo 1 = .ok (.getfield 7, 3) := by decide +kernel
theorem dX10_turnsTo_4 : decode cX10_turnsTo 4 = .ok (.bipush 7, 2) := by decide +kernel
theorem dX10_turnsTo_6 : decode cX10_turnsTo 6 = .ok (.iload_n 1, 1) := by decide +kernel
theorem dX10_turnsTo_7 : decode cX10_turnsTo 7 = .ok (.sipush 300, 3) := by decide +kernel
theorem dX10_turnsTo_10 : decode cX10_turnsTo 10 = .ok (.idiv, 1) := by decide +kernel
theorem dX10_turnsTo_11 : decode cX10_turnsTo 11 = .ok (.iastore, 1) := by decide +kernel
theorem dX10_turnsTo_12 : decode cX10_turnsTo 12 = .ok (.aload_n 0, 1) := by decide +kernel
theorem dX10_turnsTo_13 : decode cX10_turnsTo 13 = .ok (.getfield 7, 3) := by decide +kernel
theorem dX10_turnsTo_16 : decode cX10_turnsTo 16 = .ok (.bipush 10, 2) := by decide +kernel
theorem dX10_turnsTo_18 : decode cX10_turnsTo 18 = .ok (.iload_n 1, 1) := by decide +kernel
theorem dX10_turnsTo_19 : decode cX10_turnsTo 19 = .ok (.bipush 100, 2) := by decide +kernel
theorem dX10_turnsTo_21 : decode cX10_turnsTo 21 = .ok (.idiv, 1) := by decide +kernel
theorem dX10_turnsTo_22 : decode cX10_turnsTo 22 = .ok (.iconst 3, 1) := by decide +kernel
theorem dX10_turnsTo_23 : decode cX10_turnsTo 23 = .ok (.irem, 1) := by decide +kernel
theorem dX10_turnsTo_24 : decode cX10_turnsTo 24 = .ok (.iastore, 1) := by decide +kernel
theorem dX10_turnsTo_25 : decode cX10_turnsTo 25 = .ok (.aload_n 0, 1) := by decide +kernel
theorem dX10_turnsTo_26 : decode cX10_turnsTo 26 = .ok (.getfield 7, 3) := by decide +kernel
theorem dX10_turnsTo_29 : decode cX10_turnsTo 29 = .ok (.bipush 8, 2) := by decide +kernel
theorem dX10_turnsTo_31 : decode cX10_turnsTo 31 = .ok (.iload_n 1, 1) := by decide +kernel
theorem dX10_turnsTo_32 : decode cX10_turnsTo 32 = .ok (.bipush 10, 2) := by decide +kernel
theorem dX10_turnsTo_34 : decode cX10_turnsTo 34 = .ok (.idiv, 1) := by decide +kernel
theorem dX10_turnsTo_35 : decode cX10_turnsTo 35 = .ok (.bipush 10, 2) := by decide +kernel
theorem dX10_turnsTo_37 : decode cX10_turnsTo 37 = .ok (.irem, 1) := by decide +kernel
theorem dX10_turnsTo_38 : decode cX10_turnsTo 38 = .ok (.iastore, 1) := by decide +kernel
theorem dX10_turnsTo_39 : decode cX10_turnsTo 39 = .ok (.aload_n 0, 1) := by decide +kernel
theorem dX10_turnsTo_40 : decode cX10_turnsTo 40 = .ok (.getfield 7, 3) := by decide +kernel
theorem dX10_turnsTo_43 : decode cX10_turnsTo 43 = .ok (.bipush 9, 2) := by decide +kernel
theorem dX10_turnsTo_45 : decode cX10_turnsTo 45 = .ok (.iload_n 1, 1) := by decide +kernel
theorem dX10_turnsTo_46 : decode cX10_turnsTo 46 = .ok (.bipush 10, 2) := by decide +kernel
theorem dX10_turnsTo_48 : decode cX10_turnsTo 48 = .ok (.irem, 1) := by decide +kernel
theorem dX10_turnsTo_49 : decode cX10_turnsTo 49 = .ok (.iastore, 1) := by decide +kernel
theorem dX10_turnsTo_50 : decode cX10_turnsTo 50 = .ok (.return_, 1) := by decide +kernel
theorem dX10_isSheet_0 : decode cX10_isSheet 0 = .ok (.iload_n 0, 1) := by decide +kernel
theorem dX10_isSheet_1 : decode cX10_isSheet 1 = .ok (.iconst 0, 1) := by decide +kernel
theorem dX10_isSheet_2 : decode cX10_isSheet 2 = .ok (.iconst 3, 1) := by decide +kernel
theorem dX10_isSheet_3 : decode cX10_isSheet 3 = .ok (.invokestatic 44, 3) := by decide +kernel
theorem dX10_isSheet_6 : decode cX10_isSheet 6 = .ok (.ireturn, 1) := by decide +kernel
theorem dX10_isShown_0 : decode cX10_isShown 0 = .ok (.iconst 1, 1) := by decide +kernel
theorem dX10_isShown_1 : decode cX10_isShown 1 = .ok (.istore_n 2, 1) := by decide +kernel
theorem dX10_isShown_2 : decode cX10_isShown 2 = .ok (.iconst 0, 1) := by decide +kernel
theorem dX10_isShown_3 : decode cX10_isShown 3 = .ok (.istore_n 3, 1) := by decide +kernel
theorem dX10_isShown_4 : decode cX10_isShown 4 = .ok (.iload_n 3, 1) := by decide +kernel
theorem dX10_isShown_5 : decode cX10_isShown 5 = .ok (.aload_n 0, 1) := by decide +kernel
theorem dX10_isShown_6 : decode cX10_isShown 6 = .ok (.getfield 7, 3) := by decide +kernel
theorem dX10_isShown_9 : decode cX10_isShown 9 = .ok (.iconst 2, 1) := by decide +kernel
theorem dX10_isShown_10 : decode cX10_isShown 10 = .ok (.iaload, 1) := by decide +kernel
theorem dX10_isShown_11 : decode cX10_isShown 11 = .ok (.if_icmp .ge 47, 3) := by decide +kernel
theorem dX10_isShown_14 : decode cX10_isShown 14 = .ok (.iload_n 2, 1) := by decide +kernel
theorem dX10_isShown_15 : decode cX10_isShown 15 = .ok (.ifCond .eq 43, 3) := by decide +kernel
theorem dX10_isShown_18 : decode cX10_isShown 18 = .ok (.aload_n 0, 1) := by decide +kernel
theorem dX10_isShown_19 : decode cX10_isShown 19 = .ok (.getfield 31, 3) := by decide +kernel
theorem dX10_isShown_22 : decode cX10_isShown 22 = .ok (.bipush 40, 2) := by decide +kernel
theorem dX10_isShown_24 : decode cX10_isShown 24 = .ok (.iload_n 1, 1) := by decide +kernel
theorem dX10_isShown_25 : decode cX10_isShown 25 = .ok (.imul, 1) := by decide +kernel
theorem dX10_isShown_26 : decode cX10_isShown 26 = .ok (.iload_n 3, 1) := by decide +kernel
theorem dX10_isShown_27 : decode cX10_isShown 27 = .ok (.iadd, 1) := by decide +kernel
theorem dX10_isShown_28 : decode cX10_isShown 28 = .ok (.iaload, 1) := by decide +kernel
theorem dX10_isShown_29 : decode cX10_isShown 29 = .ok (.istore 4, 2) := by decide +kernel
theorem dX10_isShown_31 : decode cX10_isShown 31 = .ok (.iload 4, 2) := by decide +kernel
theorem dX10_isShown_33 : decode cX10_isShown 33 = .ok (.ifCond .lt 13, 3) := by decide +kernel
theorem dX10_isShown_36 : decode cX10_isShown 36 = .ok (.iload 4, 2) := by decide +kernel
theorem dX10_isShown_38 : decode cX10_isShown 38 = .ok (.aload_n 0, 1) := by decide +kernel
theorem dX10_isShown_39 : decode cX10_isShown 39 = .ok (.iload_n 3, 1) := by decide +kernel
theorem dX10_isShown_40 : decode cX10_isShown 40 = .ok (.invokevirtual 75, 3) := by decide +kernel
theorem dX10_isShown_43 : decode cX10_isShown 43 = .ok (.if_icmp .ne 7, 3) := by decide +kernel
theorem dX10_isShown_46 : decode cX10_isShown 46 = .ok (.iconst 1, 1) := by decide +kernel
theorem dX10_isShown_47 : decode cX10_isShown 47 = .ok (.goto 4, 3) := by decide +kernel
theorem dX10_isShown_50 : decode cX10_isShown 50 = .ok (.iconst 0, 1) := by decide +kernel
theorem dX10_isShown_51 : decode cX10_isShown 51 = .ok (.istore_n 2, 1) := by decide +kernel
theorem dX10_isShown_52 : decode cX10_isShown 52 = .ok (.iinc 3 1, 3) := by decide +kernel
theorem dX10_isShown_55 : decode cX10_isShown 55 = .ok (.goto (-51), 3) := by decide +kernel
theorem dX10_isShown_58 : decode cX10_isShown 58 = .ok (.iload_n 2, 1) := by decide +kernel
theorem dX10_isShown_59 : decode cX10_isShown 59 = .ok (.ireturn, 1) := by decide +kernel
theorem dX10_canBe_0 : decode cX10_canBe 0 = .ok (.iload_n 1, 1) := by decide +kernel
theorem dX10_canBe_1 : decode cX10_canBe 1 = .ok (.invokestatic 191, 3) := by decide +kernel
theorem dX10_canBe_4 : decode cX10_canBe 4 = .ok (.ifCond .eq 12, 3) := by decide +kernel
theorem dX10_canBe_7 : decode cX10_canBe 7 = .ok (.iload_n 2, 1) := by decide +kernel
theorem dX10_canBe_8 : decode cX10_canBe 8 = .ok (.iconst 0, 1) := by decide +kernel
theorem dX10_canBe_9 : decode cX10_canBe 9 = .ok (.iconst 1, 1) := by decide +kernel
theorem dX10_canBe_10 : decode cX10_canBe 10 = .ok (.invokestatic 44, 3) := by decide +kernel
theorem dX10_canBe_13 : decode cX10_canBe 13 = .ok (.ifCond .ne 10, 3) := by decide +kernel
theorem dX10_canBe_16 : decode cX10_canBe 16 = .ok (.aload_n 0, 1) := by decide +kernel
theorem dX10_canBe_17 : decode cX10_canBe 17 = .ok (.ldc 48, 2) := by decide +kernel
theorem dX10_canBe_19 : decode cX10_canBe 19 = .ok (.invokevirtual 49, 3) := by decide +kernel
theorem dX10_canBe_22 : decode cX10_canBe 22 = .ok (.ireturn, 1) := by decide +kernel
theorem dX10_canBe_23 : decode cX10_canBe 23 = .ok (.aload_n 0, 1) := by decide +kernel
theorem dX10_canBe_24 : decode cX10_canBe 24 = .ok (.getfield 25, 3) := by decide +kernel
theorem dX10_canBe_27 : decode cX10_canBe 27 = .ok (.iload_n 1, 1) := by decide +kernel
theorem dX10_canBe_28 : decode cX10_canBe 28 = .ok (.iaload, 1) := by decide +kernel
theorem dX10_canBe_29 : decode cX10_canBe 29 = .ok (.ifCond .eq 18, 3) := by decide +kernel
theorem dX10_canBe_32 : decode cX10_canBe 32 = .ok (.aload_n 0, 1) := by decide +kernel
theorem dX10_canBe_33 : decode cX10_canBe 33 = .ok (.getfield 28, 3) := by decide +kernel
theorem dX10_canBe_36 : decode cX10_canBe 36 = .ok (.iload_n 1, 1) := by decide +kernel
theorem dX10_canBe_37 : decode cX10_canBe 37 = .ok (.iaload, 1) := by decide +kernel
theorem dX10_canBe_38 : decode cX10_canBe 38 = .ok (.aload_n 0, 1) := by decide +kernel
theorem dX10_canBe_39 : decode cX10_canBe 39 = .ok (.getfield 7, 3) := by decide +kernel
theorem dX10_canBe_42 : decode cX10_canBe 42 = .ok (.iconst 2, 1) := by decide +kernel
theorem dX10_canBe_43 : decode cX10_canBe 43 = .ok (.iaload, 1) := by decide +kernel
theorem dX10_canBe_44 : decode cX10_canBe 44 = .ok (.if_icmp .eq 10, 3) := by decide +kernel
theorem dX10_canBe_47 : decode cX10_canBe 47 = .ok (.aload_n 0, 1) := by decide +kernel
theorem dX10_canBe_48 : decode cX10_canBe 48 = .ok (.ldc 187, 2) := by decide +kernel
theorem dX10_canBe_50 : decode cX10_canBe 50 = .ok (.invokevirtual 49, 3) := by decide +kernel
theorem dX10_canBe_53 : decode cX10_canBe 53 = .ok (.ireturn, 1) := by decide +kernel
theorem dX10_canBe_54 : decode cX10_canBe 54 = .ok (.iconst 0, 1) := by decide +kernel
theorem dX10_canBe_55 : decode cX10_canBe 55 = .ok (.istore_n 3, 1) := by decide +kernel
theorem dX10_canBe_56 : decode cX10_canBe 56 = .ok (.iconst 0, 1) := by decide +kernel
theorem dX10_canBe_57 : decode cX10_canBe 57 = .ok (.istore 4, 2) := by decide +kernel
theorem dX10_canBe_59 : decode cX10_canBe 59 = .ok (.aload_n 0, 1) := by decide +kernel
theorem dX10_canBe_60 : decode cX10_canBe 60 = .ok (.aload_n 0, 1) := by decide +kernel
theorem dX10_canBe_61 : decode cX10_canBe 61 = .ok (.getfield 7, 3) := by decide +kernel
theorem dX10_canBe_64 : decode cX10_canBe 64 = .ok (.aload_n 0, 1) := by decide +kernel
theorem dX10_canBe_65 : decode cX10_canBe 65 = .ok (.getfield 16, 3) := by decide +kernel
theorem dX10_canBe_68 : decode cX10_canBe 68 = .ok (.invokevirtual 158, 3) := by decide +kernel
theorem dX10_canBe_71 : decode cX10_canBe 71 = .ok (.sipush 599, 3) := by decide +kernel
theorem dX10_canBe_74 : decode cX10_canBe 74 = .ok (.istore 5, 2) := by decide +kernel
theorem dX10_canBe_76 : decode cX10_canBe 76 = .ok (.iload 5, 2) := by decide +kernel
theorem dX10_canBe_78 : decode cX10_canBe 78 = .ok (.ifCond .lt 69, 3) := by decide +kernel
theorem dX10_canBe_81 : decode cX10_canBe 81 = .ok (.aload_n 0, 1) := by decide +kernel
theorem dX10_canBe_82 : decode cX10_canBe 82 = .ok (.iload 5, 2) := by decide +kernel
theorem dX10_canBe_84 : decode cX10_canBe 84 = .ok (.invokevirtual 194, 3) := by decide +kernel
theorem dX10_canBe_87 : decode cX10_canBe 87 = .ok (.aload_n 0, 1) := by decide +kernel
theorem dX10_canBe_88 : decode cX10_canBe 88 = .ok (.iload_n 1, 1) := by decide +kernel
theorem dX10_canBe_89 : decode cX10_canBe 89 = .ok (.invokevirtual 197, 3) := by decide +kernel
theorem dX10_canBe_92 : decode cX10_canBe 92 = .ok (.ifCond .eq 49, 3) := by decide +kernel
theorem dX10_canBe_95 : decode cX10_canBe 95 = .ok (.iinc 3 1, 3) := by decide +kernel
theorem dX10_canBe_98 : decode cX10_canBe 98 = .ok (.sipush 1000, 3) := by decide +kernel
theorem dX10_canBe_101 : decode cX10_canBe 101 = .ok (.aload_n 0, 1) := by decide +kernel
theorem dX10_canBe_102 : decode cX10_canBe 102 = .ok (.getfield 7, 3) := by decide +kernel
theorem dX10_canBe_105 : decode cX10_canBe 105 = .ok (.bipush 7, 2) := by decide +kernel
theorem dX10_canBe_107 : decode cX10_canBe 107 = .ok (.iaload, 1) := by decide +kernel
theorem dX10_canBe_108 : decode cX10_canBe 108 = .ok (.imul, 1) := by decide +kernel
theorem dX10_canBe_109 : decode cX10_canBe 109 = .ok (.bipush 100, 2) := by decide +kernel
theorem dX10_canBe_111 : decode cX10_canBe 111 = .ok (.aload_n 0, 1) := by decide +kernel
theorem dX10_canBe_112 : decode cX10_canBe 112 = .ok (.getfield 7, 3) := by decide +kernel
theorem dX10_canBe_115 : decode cX10_canBe 115 = .ok (.bipush 10, 2) := by decide +kernel
theorem dX10_canBe_117 : decode cX10_canBe 117 = .ok (.iaload, 1) := by decide +kernel
theorem dX10_canBe_118 : decode cX10_canBe 118 = .ok (.imul, 1) := by decide +kernel
theorem dX10_canBe_119 : decode cX10_canBe 119 = .ok (.iadd, 1) := by decide +kernel
theorem dX10_canBe_120 : decode cX10_canBe 120 = .ok (.bipush 10, 2) := by decide +kernel
theorem dX10_canBe_122 : decode cX10_canBe 122 = .ok (.aload_n 0, 1) := by decide +kernel
theorem dX10_canBe_123 : decode cX10_canBe 123 = .ok (.getfield 7, 3) := by decide +kernel
theorem dX10_canBe_126 : decode cX10_canBe 126 = .ok (.bipush 8, 2) := by decide +kernel
theorem dX10_canBe_128 : decode cX10_canBe 128 = .ok (.iaload, 1) := by decide +kernel
theorem dX10_canBe_129 : decode cX10_canBe 129 = .ok (.imul, 1) := by decide +kernel
theorem dX10_canBe_130 : decode cX10_canBe 130 = .ok (.iadd, 1) := by decide +kernel
theorem dX10_canBe_131 : decode cX10_canBe 131 = .ok (.aload_n 0, 1) := by decide +kernel
theorem dX10_canBe_132 : decode cX10_canBe 132 = .ok (.getfield 7, 3) := by decide +kernel
theorem dX10_canBe_135 : decode cX10_canBe 135 = .ok (.bipush 9, 2) := by decide +kernel
theorem dX10_canBe_137 : decode cX10_canBe 137 = .ok (.iaload, 1) := by decide +kernel
theorem dX10_canBe_138 : decode cX10_canBe 138 = .ok (.iadd, 1) := by decide +kernel
theorem dX10_canBe_139 : decode cX10_canBe 139 = .ok (.istore 4, 2) := by decide +kernel
theorem dX10_canBe_141 : decode cX10_canBe 141 = .ok (.iinc 5 (-1), 3) := by decide +kernel
theorem dX10_canBe_144 : decode cX10_canBe 144 = .ok (.goto (-68), 3) := by decide +kernel
theorem dX10_canBe_147 : decode cX10_canBe 147 = .ok (.aload_n 0, 1) := by decide +kernel
theorem dX10_canBe_148 : decode cX10_canBe 148 = .ok (.aload_n 0, 1) := by decide +kernel
theorem dX10_canBe_149 : decode cX10_canBe 149 = .ok (.getfield 16, 3) := by decide +kernel
theorem dX10_canBe_152 : decode cX10_canBe 152 = .ok (.aload_n 0, 1) := by decide +kernel
theorem dX10_canBe_153 : decode cX10_canBe 153 = .ok (.getfield 7, 3) := by decide +kernel
theorem dX10_canBe_156 : decode cX10_canBe 156 = .ok (.invokevirtual 158, 3) := by decide +kernel
theorem dX10_canBe_159 : decode cX10_canBe 159 = .ok (.iload_n 2, 1) := by decide +kernel
theorem dX10_canBe_160 : decode cX10_canBe 160 = .ok (.iconst 1, 1) := by decide +kernel
theorem dX10_canBe_161 : decode cX10_canBe 161 = .ok (.if_icmp .ne 14, 3) := by decide +kernel
theorem dX10_canBe_164 : decode cX10_canBe 164 = .ok (.iload_n 3, 1) := by decide +kernel
theorem dX10_canBe_165 : decode cX10_canBe 165 = .ok (.ifCond .ne 10, 3) := by decide +kernel
theorem dX10_canBe_168 : decode cX10_canBe 168 = .ok (.aload_n 0, 1) := by decide +kernel
theorem dX10_canBe_169 : decode cX10_canBe 169 = .ok (.ldc 187, 2) := by decide +kernel
theorem dX10_canBe_171 : decode cX10_canBe 171 = .ok (.invokevirtual 49, 3) := by decide +kernel
theorem dX10_canBe_174 : decode cX10_canBe 174 = .ok (.ireturn, 1) := by decide +kernel
theorem dX10_canBe_175 : decode cX10_canBe 175 = .ok (.iload_n 2, 1) := by decide +kernel
theorem dX10_canBe_176 : decode cX10_canBe 176 = .ok (.ifCond .ne 7, 3) := by decide +kernel
theorem dX10_canBe_179 : decode cX10_canBe 179 = .ok (.iload_n 3, 1) := by decide +kernel
theorem dX10_canBe_180 : decode cX10_canBe 180 = .ok (.goto 5, 3) := by decide +kernel
theorem dX10_canBe_183 : decode cX10_canBe 183 = .ok (.iload 4, 2) := by decide +kernel
theorem dX10_canBe_185 : decode cX10_canBe 185 = .ok (.ireturn, 1) := by decide +kernel
theorem dX10_tellsMost_0 : decode cX10_tellsMost 0 = .ok (.iload_n 1, 1) := by decide +kernel
theorem dX10_tellsMost_1 : decode cX10_tellsMost 1 = .ok (.invokestatic 191, 3) := by decide +kernel
theorem dX10_tellsMost_4 : decode cX10_tellsMost 4 = .ok (.ifCond .ne 10, 3) := by decide +kernel
theorem dX10_tellsMost_7 : decode cX10_tellsMost 7 = .ok (.aload_n 0, 1) := by decide +kernel
theorem dX10_tellsMost_8 : decode cX10_tellsMost 8 = .ok (.ldc 48, 2) := by decide +kernel
theorem dX10_tellsMost_10 : decode cX10_tellsMost 10 = .ok (.invokevirtual 49, 3) := by decide +kernel
theorem dX10_tellsMost_13 : decode cX10_tellsMost 13 = .ok (.ireturn, 1) := by decide +kernel
theorem dX10_tellsMost_14 : decode cX10_tellsMost 14 = .ok (.aload_n 0, 1) := by decide +kernel
theorem dX10_tellsMost_15 : decode cX10_tellsMost 15 = .ok (.getfield 25, 3) := by decide +kernel
theorem dX10_tellsMost_18 : decode cX10_tellsMost 18 = .ok (.iload_n 1, 1) := by decide +kernel
theorem dX10_tellsMost_19 : decode cX10_tellsMost 19 = .ok (.iaload, 1) := by decide +kernel
theorem dX10_tellsMost_20 : decode cX10_tellsMost 20 = .ok (.ifCond .eq 27, 3) := by decide +kernel
theorem dX10_tellsMost_23 : decode cX10_tellsMost 23 = .ok (.aload_n 0, 1) := by decide +kernel
theorem dX10_tellsMost_24 : decode cX10_tellsMost 24 = .ok (.getfield 28, 3) := by decide +kernel
theorem dX10_tellsMost_27 : decode cX10_tellsMost 27 = .ok (.iload_n 1, 1) := by decide +kernel
theorem dX10_tellsMost_28 : decode cX10_tellsMost 28 = .ok (.iaload, 1) := by decide +kernel
theorem dX10_tellsMost_29 : decode cX10_tellsMost 29 = .ok (.aload_n 0, 1) := by decide +kernel
theorem dX10_tellsMost_30 : decode cX10_tellsMost 30 = .ok (.getfield 7, 3) := by decide +kernel
theorem dX10_tellsMost_33 : decode cX10_tellsMost 33 = .ok (.iconst 2, 1) := by decide +kernel
theorem dX10_tellsMost_34 : decode cX10_tellsMost 34 = .ok (.iaload, 1) := by decide +kernel
theorem dX10_tellsMost_35 : decode cX10_tellsMost 35 = .ok (.if_icmp .ne 12, 3) := by decide +kernel
theorem dX10_tellsMost_38 : decode cX10_tellsMost 38 = .ok (.aload_n 0, 1) := by decide +kernel
theorem dX10_tellsMost_39 : decode cX10_tellsMost 39 = .ok (.getfield 7, 3) := by decide +kernel
theorem dX10_tellsMost_42 : decode cX10_tellsMost 42 = .ok (.iconst 2, 1) := by decide +kernel
theorem dX10_tellsMost_43 : decode cX10_tellsMost 43 = .ok (.iaload, 1) := by decide +kernel
theorem dX10_tellsMost_44 : decode cX10_tellsMost 44 = .ok (.ifCond .ne 10, 3) := by decide +kernel
theorem dX10_tellsMost_47 : decode cX10_tellsMost 47 = .ok (.aload_n 0, 1) := by decide +kernel
theorem dX10_tellsMost_48 : decode cX10_tellsMost 48 = .ok (.ldc 187, 2) := by decide +kernel
theorem dX10_tellsMost_50 : decode cX10_tellsMost 50 = .ok (.invokevirtual 49, 3) := by decide +kernel
theorem dX10_tellsMost_53 : decode cX10_tellsMost 53 = .ok (.ireturn, 1) := by decide +kernel
theorem dX10_tellsMost_54 : decode cX10_tellsMost 54 = .ok (.iconst 0, 1) := by decide +kernel
theorem dX10_tellsMost_55 : decode cX10_tellsMost 55 = .ok (.istore_n 2, 1) := by decide +kernel
theorem dX10_tellsMost_56 : decode cX10_tellsMost 56 = .ok (.iload_n 2, 1) := by decide +kernel
theorem dX10_tellsMost_57 : decode cX10_tellsMost 57 = .ok (.bipush 30, 2) := by decide +kernel
theorem dX10_tellsMost_59 : decode cX10_tellsMost 59 = .ok (.if_icmp .ge 16, 3) := by decide +kernel
theorem dX10_tellsMost_62 : decode cX10_tellsMost 62 = .ok (.aload_n 0, 1) := by decide +kernel
theorem dX10_tellsMost_63 : decode cX10_tellsMost 63 = .ok (.getfield 37, 3) := by decide +kernel
theorem dX10_tellsMost_66 : decode cX10_tellsMost 66 = .ok (.iload_n 2, 1) := by decide +kernel
theorem dX10_tellsMost_67 : decode cX10_tellsMost 67 = .ok (.iconst 0, 1) := by decide +kernel
theorem dX10_tellsMost_68 : decode cX10_tellsMost 68 = .ok (.iastore, 1) := by decide +kernel
theorem dX10_tellsMost_69 : decode cX10_tellsMost 69 = .ok (.iinc 2 1, 3) := by decide +kernel
theorem dX10_tellsMost_72 : decode cX10_tellsMost 72 = .ok (.goto (-16), 3) := by decide +kernel
theorem dX10_tellsMost_75 : decode cX10_tellsMost 75 = .ok (.aload_n 0, 1) := by decide +kernel
theorem dX10_tellsMost_76 : decode cX10_tellsMost 76 = .ok (.aload_n 0, 1) := by decide +kernel
theorem dX10_tellsMost_77 : decode cX10_tellsMost 77 = .ok (.getfield 7, 3) := by decide +kernel
theorem dX10_tellsMost_80 : decode cX10_tellsMost 80 = .ok (.aload_n 0, 1) := by decide +kernel
theorem dX10_tellsMost_81 : decode cX10_tellsMost 81 = .ok (.getfield 16, 3) := by decide +kernel
theorem dX10_tellsMost_84 : decode cX10_tellsMost 84 = .ok (.invokevirtual 158, 3) := by decide +kernel
theorem dX10_tellsMost_87 : decode cX10_tellsMost 87 = .ok (.iconst 0, 1) := by decide +kernel
theorem dX10_tellsMost_88 : decode cX10_tellsMost 88 = .ok (.istore_n 2, 1) := by decide +kernel
theorem dX10_tellsMost_89 : decode cX10_tellsMost 89 = .ok (.iload_n 2, 1) := by decide +kernel
theorem dX10_tellsMost_90 : decode cX10_tellsMost 90 = .ok (.sipush 600, 3) := by decide +kernel
theorem dX10_tellsMost_93 : decode cX10_tellsMost 93 = .ok (.if_icmp .ge 58, 3) := by decide +kernel
theorem dX10_tellsMost_96 : decode cX10_tellsMost 96 = .ok (.aload_n 0, 1) := by decide +kernel
theorem dX10_tellsMost_97 : decode cX10_tellsMost 97 = .ok (.iload_n 2, 1) := by decide +kernel
theorem dX10_tellsMost_98 : decode cX10_tellsMost 98 = .ok (.invokevirtual 194, 3) := by decide +kernel
theorem dX10_tellsMost_101 : decode cX10_tellsMost 101 = .ok (.aload_n 0, 1) := by decide +kernel
theorem dX10_tellsMost_102 : decode cX10_tellsMost 102 = .ok (.iload_n 1, 1) := by decide +kernel
theorem dX10_tellsMost_103 : decode cX10_tellsMost 103 = .ok (.invokevirtual 197, 3) := by decide +kernel
theorem dX10_tellsMost_106 : decode cX10_tellsMost 106 = .ok (.ifCond .eq 39, 3) := by decide +kernel
theorem dX10_tellsMost_109 : decode cX10_tellsMost 109 = .ok (.iconst 0, 1) := by decide +kernel
theorem dX10_tellsMost_110 : decode cX10_tellsMost 110 = .ok (.istore_n 3, 1) := by decide +kernel
theorem dX10_tellsMost_111 : decode cX10_tellsMost 111 = .ok (.iload_n 3, 1) := by decide +kernel
theorem dX10_tellsMost_112 : decode cX10_tellsMost 112 = .ok (.aload_n 0, 1) := by decide +kernel
theorem dX10_tellsMost_113 : decode cX10_tellsMost 113 = .ok (.getfield 7, 3) := by decide +kernel
theorem dX10_tellsMost_116 : decode cX10_tellsMost 116 = .ok (.iconst 2, 1) := by decide +kernel
theorem dX10_tellsMost_117 : decode cX10_tellsMost 117 = .ok (.iaload, 1) := by decide +kernel
theorem dX10_tellsMost_118 : decode cX10_tellsMost 118 = .ok (.if_icmp .ge 27, 3) := by decide +kernel
theorem dX10_tellsMost_121 : decode cX10_tellsMost 121 = .ok (.aload_n 0, 1) := by decide +kernel
theorem dX10_tellsMost_122 : decode cX10_tellsMost 122 = .ok (.getfield 37, 3) := by decide +kernel
theorem dX10_tellsMost_125 : decode cX10_tellsMost 125 = .ok (.iconst 5, 1) := by decide +kernel
theorem dX10_tellsMost_126 : decode cX10_tellsMost 126 = .ok (.iload_n 3, 1) := by decide +kernel
theorem dX10_tellsMost_127 : decode cX10_tellsMost 127 = .ok (.imul, 1) := by decide +kernel
theorem dX10_tellsMost_128 : decode cX10_tellsMost 128 = .ok (.aload_n 0, 1) := by decide +kernel
theorem dX10_tellsMost_129 : decode cX10_tellsMost 129 = .ok (.iload_n 3, 1) := by decide +kernel
theorem dX10_tellsMost_130 : decode cX10_tellsMost 130 = .ok (.invokevirtual 75, 3) := by decide +kernel
theorem dX10_tellsMost_133 : decode cX10_tellsMost 133 = .ok (.iadd, 1) := by decide +kernel
theorem dX10_tellsMost_134 : decode cX10_tellsMost 134 = .ok (.dup2, 1) := by decide +kernel
theorem dX10_tellsMost_135 : decode cX10_tellsMost 135 = .ok (.iaload, 1) := by decide +kernel
theorem dX10_tellsMost_136 : decode cX10_tellsMost 136 = .ok (.iconst 1, 1) := by decide +kernel
theorem dX10_tellsMost_137 : decode cX10_tellsMost 137 = .ok (.iadd, 1) := by decide +kernel
theorem dX10_tellsMost_138 : decode cX10_tellsMost 138 = .ok (.iastore, 1) := by decide +kernel
theorem dX10_tellsMost_139 : decode cX10_tellsMost 139 = .ok (.iinc 3 1, 3) := by decide +kernel
theorem dX10_tellsMost_142 : decode cX10_tellsMost 142 = .ok (.goto (-31), 3) := by decide +kernel
theorem dX10_tellsMost_145 : decode cX10_tellsMost 145 = .ok (.iinc 2 1, 3) := by decide +kernel
theorem dX10_tellsMost_148 : decode cX10_tellsMost 148 = .ok (.goto (-59), 3) := by decide +kernel
theorem dX10_tellsMost_151 : decode cX10_tellsMost 151 = .ok (.aload_n 0, 1) := by decide +kernel
theorem dX10_tellsMost_152 : decode cX10_tellsMost 152 = .ok (.aload_n 0, 1) := by decide +kernel
theorem dX10_tellsMost_153 : decode cX10_tellsMost 153 = .ok (.getfield 16, 3) := by decide +kernel
theorem dX10_tellsMost_156 : decode cX10_tellsMost 156 = .ok (.aload_n 0, 1) := by decide +kernel
theorem dX10_tellsMost_157 : decode cX10_tellsMost 157 = .ok (.getfield 7, 3) := by decide +kernel
theorem dX10_tellsMost_160 : decode cX10_tellsMost 160 = .ok (.invokevirtual 158, 3) := by decide +kernel
theorem dX10_tellsMost_163 : decode cX10_tellsMost 163 = .ok (.iconst 0, 1) := by decide +kernel
theorem dX10_tellsMost_164 : decode cX10_tellsMost 164 = .ok (.istore_n 2, 1) := by decide +kernel
theorem dX10_tellsMost_165 : decode cX10_tellsMost 165 = .ok (.sipush 601, 3) := by decide +kernel
theorem dX10_tellsMost_168 : decode cX10_tellsMost 168 = .ok (.istore_n 3, 1) := by decide +kernel
theorem dX10_tellsMost_169 : decode cX10_tellsMost 169 = .ok (.iconst 0, 1) := by decide +kernel
theorem dX10_tellsMost_170 : decode cX10_tellsMost 170 = .ok (.istore 4, 2) := by decide +kernel
theorem dX10_tellsMost_172 : decode cX10_tellsMost 172 = .ok (.iload 4, 2) := by decide +kernel
theorem dX10_tellsMost_174 : decode cX10_tellsMost 174 = .ok (.aload_n 0, 1) := by decide +kernel
theorem dX10_tellsMost_175 : decode cX10_tellsMost 175 = .ok (.getfield 7, 3) := by decide +kernel
theorem dX10_tellsMost_178 : decode cX10_tellsMost 178 = .ok (.iconst 2, 1) := by decide +kernel
theorem dX10_tellsMost_179 : decode cX10_tellsMost 179 = .ok (.iaload, 1) := by decide +kernel
theorem dX10_tellsMost_180 : decode cX10_tellsMost 180 = .ok (.if_icmp .ge 89, 3) := by decide +kernel
theorem dX10_tellsMost_183 : decode cX10_tellsMost 183 = .ok (.iconst 0, 1) := by decide +kernel
theorem dX10_tellsMost_184 : decode cX10_tellsMost 184 = .ok (.istore 5, 2) := by decide +kernel
theorem dX10_tellsMost_186 : decode cX10_tellsMost 186 = .ok (.iconst 0, 1) := by decide +kernel
theorem dX10_tellsMost_187 : decode cX10_tellsMost 187 = .ok (.istore 6, 2) := by decide +kernel
theorem dX10_tellsMost_189 : decode cX10_tellsMost 189 = .ok (.iload 6, 2) := by decide +kernel
theorem dX10_tellsMost_191 : decode cX10_tellsMost 191 = .ok (.iconst 5, 1) := by decide +kernel
theorem dX10_tellsMost_192 : decode cX10_tellsMost 192 = .ok (.if_icmp .ge 45, 3) := by decide +kernel
theorem dX10_tellsMost_195 : decode cX10_tellsMost 195 = .ok (.aload_n 0, 1) := by decide +kernel
theorem dX10_tellsMost_196 : decode cX10_tellsMost 196 = .ok (.getfield 37, 3) := by decide +kernel
theorem dX10_tellsMost_199 : decode cX10_tellsMost 199 = .ok (.iconst 5, 1) := by decide +kernel
theorem dX10_tellsMost_200 : decode cX10_tellsMost 200 = .ok (.iload 4, 2) := by decide +kernel
theorem dX10_tellsMost_202 : decode cX10_tellsMost 202 = .ok (.imul, 1) := by decide +kernel
theorem dX10_tellsMost_203 : decode cX10_tellsMost 203 = .ok (.iload 6, 2) := by decide +kernel
theorem dX10_tellsMost_205 : decode cX10_tellsMost 205 = .ok (.iadd, 1) := by decide +kernel
theorem dX10_tellsMost_206 : decode cX10_tellsMost 206 = .ok (.iaload, 1) := by decide +kernel
theorem dX10_tellsMost_207 : decode cX10_tellsMost 207 = .ok (.iload 5, 2) := by decide +kernel
theorem dX10_tellsMost_209 : decode cX10_tellsMost 209 = .ok (.if_icmp .le 18, 3) := by decide +kernel
theorem dX10_tellsMost_212 : decode cX10_tellsMost 212 = .ok (.aload_n 0, 1) := by decide +kernel
theorem dX10_tellsMost_213 : decode cX10_tellsMost 213 = .ok (.getfield 37, 3) := by decide +kernel
theorem dX10_tellsMost_216 : decode cX10_tellsMost 216 = .ok (.iconst 5, 1) := by decide +kernel
theorem dX10_tellsMost_217 : decode cX10_tellsMost 217 = .ok (.iload 4, 2) := by decide +kernel
theorem dX10_tellsMost_219 : decode cX10_tellsMost 219 = .ok (.imul, 1) := by decide +kernel
theorem dX10_tellsMost_220 : decode cX10_tellsMost 220 = .ok (.iload 6, 2) := by decide +kernel
theorem dX10_tellsMost_222 : decode cX10_tellsMost 222 = .ok (.iadd, 1) := by decide +kernel
theorem dX10_tellsMost_223 : decode cX10_tellsMost 223 = .ok (.iaload, 1) := by decide +kernel
theorem dX10_tellsMost_224 : decode cX10_tellsMost 224 = .ok (.goto 5, 3) := by decide +kernel
theorem dX10_tellsMost_227 : decode cX10_tellsMost 227 = .ok (.iload 5, 2) := by decide +kernel
theorem dX10_tellsMost_229 : decode cX10_tellsMost 229 = .ok (.istore 5, 2) := by decide +kernel
theorem dX10_tellsMost_231 : decode cX10_tellsMost 231 = .ok (.iinc 6 1, 3) := by decide +kernel
theorem dX10_tellsMost_234 : decode cX10_tellsMost 234 = .ok (.goto (-45), 3) := by decide +kernel
theorem dX10_tellsMost_237 : decode cX10_tellsMost 237 = .ok (.iload 5, 2) := by decide +kernel
theorem dX10_tellsMost_239 : decode cX10_tellsMost 239 = .ok (.iload_n 3, 1) := by decide +kernel
theorem dX10_tellsMost_240 : decode cX10_tellsMost 240 = .ok (.if_icmp .ge 8, 3) := by decide +kernel
theorem dX10_tellsMost_243 : decode cX10_tellsMost 243 = .ok (.iload 4, 2) := by decide +kernel
theorem dX10_tellsMost_245 : decode cX10_tellsMost 245 = .ok (.goto 4, 3) := by decide +kernel
theorem dX10_tellsMost_248 : decode cX10_tellsMost 248 = .ok (.iload_n 2, 1) := by decide +kernel
theorem dX10_tellsMost_249 : decode cX10_tellsMost 249 = .ok (.istore_n 2, 1) := by decide +kernel
theorem dX10_tellsMost_250 : decode cX10_tellsMost 250 = .ok (.iload 5, 2) := by decide +kernel
theorem dX10_tellsMost_252 : decode cX10_tellsMost 252 = .ok (.iload_n 3, 1) := by decide +kernel
theorem dX10_tellsMost_253 : decode cX10_tellsMost 253 = .ok (.if_icmp .ge 8, 3) := by decide +kernel
theorem dX10_tellsMost_256 : decode cX10_tellsMost 256 = .ok (.iload 5, 2) := by decide +kernel
theorem dX10_tellsMost_258 : decode cX10_tellsMost 258 = .ok (.goto 4, 3) := by decide +kernel
theorem dX10_tellsMost_261 : decode cX10_tellsMost 261 = .ok (.iload_n 3, 1) := by decide +kernel
theorem dX10_tellsMost_262 : decode cX10_tellsMost 262 = .ok (.istore_n 3, 1) := by decide +kernel
theorem dX10_tellsMost_263 : decode cX10_tellsMost 263 = .ok (.iinc 4 1, 3) := by decide +kernel
theorem dX10_tellsMost_266 : decode cX10_tellsMost 266 = .ok (.goto (-94), 3) := by decide +kernel
theorem dX10_tellsMost_269 : decode cX10_tellsMost 269 = .ok (.iload_n 2, 1) := by decide +kernel
theorem dX10_tellsMost_270 : decode cX10_tellsMost 270 = .ok (.ireturn, 1) := by decide +kernel
theorem dX10_knobWas_0 : decode cX10_knobWas 0 = .ok (.aload_n 0, 1) := by decide +kernel
theorem dX10_knobWas_1 : decode cX10_knobWas 1 = .ok (.iload_n 1, 1) := by decide +kernel
theorem dX10_knobWas_2 : decode cX10_knobWas 2 = .ok (.invokevirtual 62, 3) := by decide +kernel
theorem dX10_knobWas_5 : decode cX10_knobWas 5 = .ok (.ifCond .eq 34, 3) := by decide +kernel
theorem dX10_knobWas_8 : decode cX10_knobWas 8 = .ok (.aload_n 0, 1) := by decide +kernel
theorem dX10_knobWas_9 : decode cX10_knobWas 9 = .ok (.iload_n 2, 1) := by decide +kernel
theorem dX10_knobWas_10 : decode cX10_knobWas 10 = .ok (.invokevirtual 62, 3) := by decide +kernel
theorem dX10_knobWas_13 : decode cX10_knobWas 13 = .ok (.ifCond .eq 26, 3) := by decide +kernel
theorem dX10_knobWas_16 : decode cX10_knobWas 16 = .ok (.iload_n 1, 1) := by decide +kernel
theorem dX10_knobWas_17 : decode cX10_knobWas 17 = .ok (.iload_n 2, 1) := by decide +kernel
theorem dX10_knobWas_18 : decode cX10_knobWas 18 = .ok (.if_icmp .eq 21, 3) := by decide +kernel
theorem dX10_knobWas_21 : decode cX10_knobWas 21 = .ok (.iload_n 3, 1) := by decide +kernel
theorem dX10_knobWas_22 : decode cX10_knobWas 22 = .ok (.iconst 0, 1) := by decide +kernel
theorem dX10_knobWas_23 : decode cX10_knobWas 23 = .ok (.bipush 44, 2) := by decide +kernel
theorem dX10_knobWas_25 : decode cX10_knobWas 25 = .ok (.invokestatic 44, 3) := by decide +kernel
theorem dX10_knobWas_28 : decode cX10_knobWas 28 = .ok (.ifCond .eq 11, 3) := by decide +kernel
theorem dX10_knobWas_31 : decode cX10_knobWas 31 = .ok (.iload_n 3, 1) := by decide +kernel
theorem dX10_knobWas_32 : decode cX10_knobWas 32 = .ok (.bipush 10, 2) := by decide +kernel
theorem dX10_knobWas_34 : decode cX10_knobWas 34 = .ok (.irem, 1) := by decide +kernel
theorem dX10_knobWas_35 : decode cX10_knobWas 35 = .ok (.iconst 4, 1) := by decide +kernel
theorem dX10_knobWas_36 : decode cX10_knobWas 36 = .ok (.if_icmp .le 10, 3) := by decide +kernel
theorem dX10_knobWas_39 : decode cX10_knobWas 39 = .ok (.aload_n 0, 1) := by decide +kernel
theorem dX10_knobWas_40 : decode cX10_knobWas 40 = .ok (.ldc 48, 2) := by decide +kernel
theorem dX10_knobWas_42 : decode cX10_knobWas 42 = .ok (.invokevirtual 49, 3) := by decide +kernel
theorem dX10_knobWas_45 : decode cX10_knobWas 45 = .ok (.ireturn, 1) := by decide +kernel
theorem dX10_knobWas_46 : decode cX10_knobWas 46 = .ok (.aload_n 0, 1) := by decide +kernel
theorem dX10_knobWas_47 : decode cX10_knobWas 47 = .ok (.getfield 7, 3) := by decide +kernel
theorem dX10_knobWas_50 : decode cX10_knobWas 50 = .ok (.bipush 8, 2) := by decide +kernel
theorem dX10_knobWas_52 : decode cX10_knobWas 52 = .ok (.iaload, 1) := by decide +kernel
theorem dX10_knobWas_53 : decode cX10_knobWas 53 = .ok (.istore 4, 2) := by decide +kernel
theorem dX10_knobWas_55 : decode cX10_knobWas 55 = .ok (.iconst 0, 1) := by decide +kernel
theorem dX10_knobWas_56 : decode cX10_knobWas 56 = .ok (.istore 5, 2) := by decide +kernel
theorem dX10_knobWas_58 : decode cX10_knobWas 58 = .ok (.iconst 0, 1) := by decide +kernel
theorem dX10_knobWas_59 : decode cX10_knobWas 59 = .ok (.istore 6, 2) := by decide +kernel
theorem dX10_knobWas_61 : decode cX10_knobWas 61 = .ok (.iload 6, 2) := by decide +kernel
theorem dX10_knobWas_63 : decode cX10_knobWas 63 = .ok (.bipush 9, 2) := by decide +kernel
theorem dX10_knobWas_65 : decode cX10_knobWas 65 = .ok (.if_icmp .gt 55, 3) := by decide +kernel
theorem dX10_knobWas_68 : decode cX10_knobWas 68 = .ok (.aload_n 0, 1) := by decide +kernel
theorem dX10_knobWas_69 : decode cX10_knobWas 69 = .ok (.getfield 7, 3) := by decide +kernel
theorem dX10_knobWas_72 : decode cX10_knobWas 72 = .ok (.bipush 8, 2) := by decide +kernel
theorem dX10_knobWas_74 : decode cX10_knobWas 74 = .ok (.iload 6, 2) := by decide +kernel
theorem dX10_knobWas_76 : decode cX10_knobWas 76 = .ok (.iastore, 1) := by decide +kernel
theorem dX10_knobWas_77 : decode cX10_knobWas 77 = .ok (.iload 5, 2) := by decide +kernel
theorem dX10_knobWas_79 : decode cX10_knobWas 79 = .ok (.aload_n 0, 1) := by decide +kernel
theorem dX10_knobWas_80 : decode cX10_knobWas 80 = .ok (.iload_n 1, 1) := by decide +kernel
theorem dX10_knobWas_81 : decode cX10_knobWas 81 = .ok (.invokevirtual 75, 3) := by decide +kernel
theorem dX10_knobWas_84 : decode cX10_knobWas 84 = .ok (.iload_n 3, 1) := by decide +kernel
theorem dX10_knobWas_85 : decode cX10_knobWas 85 = .ok (.bipush 10, 2) := by decide +kernel
theorem dX10_knobWas_87 : decode cX10_knobWas 87 = .ok (.idiv, 1) := by decide +kernel
theorem dX10_knobWas_88 : decode cX10_knobWas 88 = .ok (.if_icmp .ne 22, 3) := by decide +kernel
theorem dX10_knobWas_91 : decode cX10_knobWas 91 = .ok (.aload_n 0, 1) := by decide +kernel
theorem dX10_knobWas_92 : decode cX10_knobWas 92 = .ok (.iload_n 2, 1) := by decide +kernel
theorem dX10_knobWas_93 : decode cX10_knobWas 93 = .ok (.invokevirtual 75, 3) := by decide +kernel
theorem dX10_knobWas_96 : decode cX10_knobWas 96 = .ok (.iload_n 3, 1) := by decide +kernel
theorem dX10_knobWas_97 : decode cX10_knobWas 97 = .ok (.bipush 10, 2) := by decide +kernel
theorem dX10_knobWas_99 : decode cX10_knobWas 99 = .ok (.irem, 1) := by decide +kernel
theorem dX10_knobWas_100 : decode cX10_knobWas 100 = .ok (.if_icmp .ne 10, 3) := by decide +kernel
theorem dX10_knobWas_103 : decode cX10_knobWas 103 = .ok (.iconst 1, 1) := by decide +kernel
theorem dX10_knobWas_104 : decode cX10_knobWas 104 = .ok (.iload 6, 2) := by decide +kernel
theorem dX10_knobWas_106 : decode cX10_knobWas 106 = .ok (.ishl, 1) := by decide +kernel
theorem dX10_knobWas_107 : decode cX10_knobWas 107 = .ok (.goto 4, 3) := by decide +kernel
theorem dX10_knobWas_110 : decode cX10_knobWas 110 = .ok (.iconst 0, 1) := by decide +kernel
theorem dX10_knobWas_111 : decode cX10_knobWas 111 = .ok (.ior, 1) := by decide +kernel
theorem dX10_knobWas_112 : decode cX10_knobWas 112 = .ok (.istore 5, 2) := by decide +kernel
theorem dX10_knobWas_114 : decode cX10_knobWas 114 = .ok (.iinc 6 1, 3) := by decide +kernel
theorem dX10_knobWas_117 : decode cX10_knobWas 117 = .ok (.goto (-56), 3) := by decide +kernel
theorem dX10_knobWas_120 : decode cX10_knobWas 120 = .ok (.aload_n 0, 1) := by decide +kernel
theorem dX10_knobWas_121 : decode cX10_knobWas 121 = .ok (.getfield 7, 3) := by decide +kernel
theorem dX10_knobWas_124 : decode cX10_knobWas 124 = .ok (.bipush 8, 2) := by decide +kernel
theorem dX10_knobWas_126 : decode cX10_knobWas 126 = .ok (.iload 4, 2) := by decide +kernel
theorem dX10_knobWas_128 : decode cX10_knobWas 128 = .ok (.iastore, 1) := by decide +kernel
theorem dX10_knobWas_129 : decode cX10_knobWas 129 = .ok (.iload 5, 2) := by decide +kernel
theorem dX10_knobWas_131 : decode cX10_knobWas 131 = .ok (.ireturn, 1) := by decide +kernel
theorem dX10_triesRow_0 : decode cX10_triesRow 0 = .ok (.iload_n 2, 1) := by decide +kernel
theorem dX10_triesRow_1 : decode cX10_triesRow 1 = .ok (.iconst 1, 1) := by decide +kernel
theorem dX10_triesRow_2 : decode cX10_triesRow 2 = .ok (.if_icmp .ne 7, 3) := by decide +kernel
theorem dX10_triesRow_5 : decode cX10_triesRow 5 = .ok (.iconst 1, 1) := by decide +kernel
theorem dX10_triesRow_6 : decode cX10_triesRow 6 = .ok (.goto 26, 3) := by decide +kernel
theorem dX10_triesRow_9 : decode cX10_triesRow 9 = .ok (.iload_n 2, 1) := by decide +kernel
theorem dX10_triesRow_10 : decode cX10_triesRow 10 = .ok (.iconst 2, 1) := by decide +kernel
theorem dX10_triesRow_11 : decode cX10_triesRow 11 = .ok (.if_icmp .ne 8, 3) := by decide +kernel
theorem dX10_triesRow_14 : decode cX10_triesRow 14 = .ok (.bipush 6, 2) := by decide +kernel
theorem dX10_triesRow_16 : decode cX10_triesRow 16 = .ok (.goto 16, 3) := by decide +kernel
theorem dX10_triesRow_19 : decode cX10_triesRow 19 = .ok (.iload_n 2, 1) := by decide +kernel
theorem dX10_triesRow_20 : decode cX10_triesRow 20 = .ok (.iconst 3, 1) := by decide +kernel
theorem dX10_triesRow_21 : decode cX10_triesRow 21 = .ok (.if_icmp .ne 8, 3) := by decide +kernel
theorem dX10_triesRow_24 : decode cX10_triesRow 24 = .ok (.bipush 36, 2) := by decide +kernel
theorem dX10_triesRow_26 : decode cX10_triesRow 26 = .ok (.goto 6, 3) := by decide +kernel
theorem dX10_triesRow_29 : decode cX10_triesRow 29 = .ok (.sipush 216, 3) := by decide +kernel
theorem dX10_triesRow_32 : decode cX10_triesRow 32 = .ok (.istore 4, 2) := by decide +kernel
theorem dX10_triesRow_34 : decode cX10_triesRow 34 = .ok (.iload_n 1, 1) := by decide +kernel
theorem dX10_triesRow_35 : decode cX10_triesRow 35 = .ok (.iload 4, 2) := by decide +kernel
theorem dX10_triesRow_37 : decode cX10_triesRow 37 = .ok (.idiv, 1) := by decide +kernel
theorem dX10_triesRow_38 : decode cX10_triesRow 38 = .ok (.istore 5, 2) := by decide +kernel
theorem dX10_triesRow_40 : decode cX10_triesRow 40 = .ok (.iconst 0, 1) := by decide +kernel
theorem dX10_triesRow_41 : decode cX10_triesRow 41 = .ok (.istore 6, 2) := by decide +kernel
theorem dX10_triesRow_43 : decode cX10_triesRow 43 = .ok (.iconst 0, 1) := by decide +kernel
theorem dX10_triesRow_44 : decode cX10_triesRow 44 = .ok (.istore 7, 2) := by decide +kernel
theorem dX10_triesRow_46 : decode cX10_triesRow 46 = .ok (.iconst 1, 1) := by decide +kernel
theorem dX10_triesRow_47 : decode cX10_triesRow 47 = .ok (.istore 8, 2) := by decide +kernel
theorem dX10_triesRow_49 : decode cX10_triesRow 49 = .ok (.aload_n 0, 1) := by decide +kernel
theorem dX10_triesRow_50 : decode cX10_triesRow 50 = .ok (.aload_n 0, 1) := by decide +kernel
theorem dX10_triesRow_51 : decode cX10_triesRow 51 = .ok (.getfield 7, 3) := by decide +kernel
theorem dX10_triesRow_54 : decode cX10_triesRow 54 = .ok (.aload_n 0, 1) := by decide +kernel
theorem dX10_triesRow_55 : decode cX10_triesRow 55 = .ok (.getfield 16, 3) := by decide +kernel
theorem dX10_triesRow_58 : decode cX10_triesRow 58 = .ok (.invokevirtual 158, 3) := by decide +kernel
theorem dX10_triesRow_61 : decode cX10_triesRow 61 = .ok (.iload 4, 2) := by decide +kernel
theorem dX10_triesRow_63 : decode cX10_triesRow 63 = .ok (.istore 9, 2) := by decide +kernel
theorem dX10_triesRow_65 : decode cX10_triesRow 65 = .ok (.iload 9, 2) := by decide +kernel
theorem dX10_triesRow_67 : decode cX10_triesRow 67 = .ok (.ifCond .le 83, 3) := by decide +kernel
theorem dX10_triesRow_70 : decode cX10_triesRow 70 = .ok (.iload 8, 2) := by decide +kernel
theorem dX10_triesRow_72 : decode cX10_triesRow 72 = .ok (.ifCond .eq 78, 3) := by decide +kernel
theorem dX10_triesRow_75 : decode cX10_triesRow 75 = .ok (.iload_n 1, 1) := by decide +kernel
theorem dX10_triesRow_76 : decode cX10_triesRow 76 = .ok (.iload 9, 2) := by decide +kernel
theorem dX10_triesRow_78 : decode cX10_triesRow 78 = .ok (.idiv, 1) := by decide +kernel
theorem dX10_triesRow_79 : decode cX10_triesRow 79 = .ok (.bipush 6, 2) := by decide +kernel
theorem dX10_triesRow_81 : decode cX10_triesRow 81 = .ok (.irem, 1) := by decide +kernel
theorem dX10_triesRow_82 : decode cX10_triesRow 82 = .ok (.istore 10, 2) := by decide +kernel
theorem dX10_triesRow_84 : decode cX10_triesRow 84 = .ok (.aload_n 0, 1) := by decide +kernel
theorem dX10_triesRow_85 : decode cX10_triesRow 85 = .ok (.iload 10, 2) := by decide +kernel
theorem dX10_triesRow_87 : decode cX10_triesRow 87 = .ok (.invokevirtual 62, 3) := by decide +kernel
theorem dX10_triesRow_90 : decode cX10_triesRow 90 = .ok (.ifCond .eq 17, 3) := by decide +kernel
theorem dX10_triesRow_93 : decode cX10_triesRow 93 = .ok (.iload 6, 2) := by decide +kernel
theorem dX10_triesRow_95 : decode cX10_triesRow 95 = .ok (.iload 10, 2) := by decide +kernel
theorem dX10_triesRow_97 : decode cX10_triesRow 97 = .ok (.ishr, 1) := by decide +kernel
theorem dX10_triesRow_98 : decode cX10_triesRow 98 = .ok (.iconst 1, 1) := by decide +kernel
theorem dX10_triesRow_99 : decode cX10_triesRow 99 = .ok (.iand, 1) := by decide +kernel
theorem dX10_triesRow_100 : decode cX10_triesRow 100 = .ok (.ifCond .ne 7, 3) := by decide +kernel
theorem dX10_triesRow_103 : decode cX10_triesRow 103 = .ok (.iconst 1, 1) := by decide +kernel
theorem dX10_triesRow_104 : decode cX10_triesRow 104 = .ok (.goto 4, 3) := by decide +kernel
theorem dX10_triesRow_107 : decode cX10_triesRow 107 = .ok (.iconst 0, 1) := by decide +kernel
theorem dX10_triesRow_108 : decode cX10_triesRow 108 = .ok (.istore 8, 2) := by decide +kernel
theorem dX10_triesRow_110 : decode cX10_triesRow 110 = .ok (.iload 6, 2) := by decide +kernel
theorem dX10_triesRow_112 : decode cX10_triesRow 112 = .ok (.iconst 1, 1) := by decide +kernel
theorem dX10_triesRow_113 : decode cX10_triesRow 113 = .ok (.iload 10, 2) := by decide +kernel
theorem dX10_triesRow_115 : decode cX10_triesRow 115 = .ok (.ishl, 1) := by decide +kernel
theorem dX10_triesRow_116 : decode cX10_triesRow 116 = .ok (.ior, 1) := by decide +kernel
theorem dX10_triesRow_117 : decode cX10_triesRow 117 = .ok (.istore 6, 2) := by decide +kernel
theorem dX10_triesRow_119 : decode cX10_triesRow 119 = .ok (.iload 7, 2) := by decide +kernel
theorem dX10_triesRow_121 : decode cX10_triesRow 121 = .ok (.iload 8, 2) := by decide +kernel
theorem dX10_triesRow_123 : decode cX10_triesRow 123 = .ok (.ifCond .eq 13, 3) := by decide +kernel
theorem dX10_triesRow_126 : decode cX10_triesRow 126 = .ok (.aload_n 0, 1) := by decide +kernel
theorem dX10_triesRow_127 : decode cX10_triesRow 127 = .ok (.iload 10, 2) := by decide +kernel
theorem dX10_triesRow_129 : decode cX10_triesRow 129 = .ok (.iload_n 3, 1) := by decide +kernel
theorem dX10_triesRow_130 : decode cX10_triesRow 130 = .ok (.invokevirtual 170, 3) := by decide +kernel
theorem dX10_triesRow_133 : decode cX10_triesRow 133 = .ok (.goto 4, 3) := by decide +kernel
theorem dX10_triesRow_136 : decode cX10_triesRow 136 = .ok (.iconst 0, 1) := by decide +kernel
theorem dX10_triesRow_137 : decode cX10_triesRow 137 = .ok (.iadd, 1) := by decide +kernel
theorem dX10_triesRow_138 : decode cX10_triesRow 138 = .ok (.istore 7, 2) := by decide +kernel
theorem dX10_triesRow_140 : decode cX10_triesRow 140 = .ok (.iload 9, 2) := by decide +kernel
theorem dX10_triesRow_142 : decode cX10_triesRow 142 = .ok (.bipush 6, 2) := by decide +kernel
theorem dX10_triesRow_144 : decode cX10_triesRow 144 = .ok (.idiv, 1) := by decide +kernel
theorem dX10_triesRow_145 : decode cX10_triesRow 145 = .ok (.istore 9, 2) := by decide +kernel
theorem dX10_triesRow_147 : decode cX10_triesRow 147 = .ok (.goto (-82), 3) := by decide +kernel
theorem dX10_triesRow_150 : decode cX10_triesRow 150 = .ok (.aload_n 0, 1) := by decide +kernel
theorem dX10_triesRow_151 : decode cX10_triesRow 151 = .ok (.aload_n 0, 1) := by decide +kernel
theorem dX10_triesRow_152 : decode cX10_triesRow 152 = .ok (.getfield 16, 3) := by decide +kernel
theorem dX10_triesRow_155 : decode cX10_triesRow 155 = .ok (.aload_n 0, 1) := by decide +kernel
theorem dX10_triesRow_156 : decode cX10_triesRow 156 = .ok (.getfield 7, 3) := by decide +kernel
theorem dX10_triesRow_159 : decode cX10_triesRow 159 = .ok (.invokevirtual 158, 3) := by decide +kernel
theorem dX10_triesRow_162 : decode cX10_triesRow 162 = .ok (.iload 8, 2) := by decide +kernel
theorem dX10_triesRow_164 : decode cX10_triesRow 164 = .ok (.ifCond .eq 31, 3) := by decide +kernel
theorem dX10_triesRow_167 : decode cX10_triesRow 167 = .ok (.aload_n 0, 1) := by decide +kernel
theorem dX10_triesRow_168 : decode cX10_triesRow 168 = .ok (.getfield 200, 3) := by decide +kernel
theorem dX10_triesRow_171 : decode cX10_triesRow 171 = .ok (.ifCond .lt 12, 3) := by decide +kernel
theorem dX10_triesRow_174 : decode cX10_triesRow 174 = .ok (.iload 7, 2) := by decide +kernel
theorem dX10_triesRow_176 : decode cX10_triesRow 176 = .ok (.aload_n 0, 1) := by decide +kernel
theorem dX10_triesRow_177 : decode cX10_triesRow 177 = .ok (.getfield 200, 3) := by decide +kernel
theorem dX10_triesRow_180 : decode cX10_triesRow 180 = .ok (.if_icmp .ge 15, 3) := by decide +kernel
theorem dX10_triesRow_183 : decode cX10_triesRow 183 = .ok (.aload_n 0, 1) := by decide +kernel
theorem dX10_triesRow_184 : decode cX10_triesRow 184 = .ok (.iload 7, 2) := by decide +kernel
theorem dX10_triesRow_186 : decode cX10_triesRow 186 = .ok (.putfield 200, 3) := by decide +kernel
theorem dX10_triesRow_189 : decode cX10_triesRow 189 = .ok (.aload_n 0, 1) := by decide +kernel
theorem dX10_triesRow_190 : decode cX10_triesRow 190 = .ok (.iload 5, 2) := by decide +kernel
theorem dX10_triesRow_192 : decode cX10_triesRow 192 = .ok (.putfield 203, 3) := by decide +kernel
theorem dX10_triesRow_195 : decode cX10_triesRow 195 = .ok (.return_, 1) := by decide +kernel
theorem dX10_row_0 : decode cX10_row 0 = .ok (.iload_n 1, 1) := by decide +kernel
theorem dX10_row_1 : decode cX10_row 1 = .ok (.iconst 1, 1) := by decide +kernel
theorem dX10_row_2 : decode cX10_row 2 = .ok (.iconst 4, 1) := by decide +kernel
theorem dX10_row_3 : decode cX10_row 3 = .ok (.invokestatic 44, 3) := by decide +kernel
theorem dX10_row_6 : decode cX10_row 6 = .ok (.ifCond .eq 32, 3) := by decide +kernel
theorem dX10_row_9 : decode cX10_row 9 = .ok (.iload_n 1, 1) := by decide +kernel
theorem dX10_row_10 : decode cX10_row 10 = .ok (.aload_n 0, 1) := by decide +kernel
theorem dX10_row_11 : decode cX10_row 11 = .ok (.getfield 7, 3) := by decide +kernel
theorem dX10_row_14 : decode cX10_row 14 = .ok (.iconst 2, 1) := by decide +kernel
theorem dX10_row_15 : decode cX10_row 15 = .ok (.iaload, 1) := by decide +kernel
theorem dX10_row_16 : decode cX10_row 16 = .ok (.if_icmp .gt 22, 3) := by decide +kernel
theorem dX10_row_19 : decode cX10_row 19 = .ok (.iload_n 2, 1) := by decide +kernel
theorem dX10_row_20 : decode cX10_row 20 = .ok (.iconst 1, 1) := by decide +kernel
theorem dX10_row_21 : decode cX10_row 21 = .ok (.bipush 20, 2) := by decide +kernel
theorem dX10_row_23 : decode cX10_row 23 = .ok (.invokestatic 44, 3) := by decide +kernel
theorem dX10_row_26 : decode cX10_row 26 = .ok (.ifCond .eq 12, 3) := by decide +kernel
theorem dX10_row_29 : decode cX10_row 29 = .ok (.iload_n 3, 1) := by decide +kernel
theorem dX10_row_30 : decode cX10_row 30 = .ok (.iconst 0, 1) := by decide +kernel
theorem dX10_row_31 : decode cX10_row 31 = .ok (.iconst 1, 1) := by decide +kernel
theorem dX10_row_32 : decode cX10_row 32 = .ok (.invokestatic 44, 3) := by decide +kernel
theorem dX10_row_35 : decode cX10_row 35 = .ok (.ifCond .ne 10, 3) := by decide +kernel
theorem dX10_row_38 : decode cX10_row 38 = .ok (.aload_n 0, 1) := by decide +kernel
theorem dX10_row_39 : decode cX10_row 39 = .ok (.ldc 48, 2) := by decide +kernel
theorem dX10_row_41 : decode cX10_row 41 = .ok (.invokevirtual 49, 3) := by decide +kernel
theorem dX10_row_44 : decode cX10_row 44 = .ok (.ireturn, 1) := by decide +kernel
theorem dX10_row_45 : decode cX10_row 45 = .ok (.iload_n 1, 1) := by decide +kernel
theorem dX10_row_46 : decode cX10_row 46 = .ok (.iconst 1, 1) := by decide +kernel
theorem dX10_row_47 : decode cX10_row 47 = .ok (.if_icmp .ne 8, 3) := by decide +kernel
theorem dX10_row_50 : decode cX10_row 50 = .ok (.bipush 6, 2) := by decide +kernel
theorem dX10_row_52 : decode cX10_row 52 = .ok (.goto 27, 3) := by decide +kernel
theorem dX10_row_55 : decode cX10_row 55 = .ok (.iload_n 1, 1) := by decide +kernel
theorem dX10_row_56 : decode cX10_row 56 = .ok (.iconst 2, 1) := by decide +kernel
theorem dX10_row_57 : decode cX10_row 57 = .ok (.if_icmp .ne 8, 3) := by decide +kernel
theorem dX10_row_60 : decode cX10_row 60 = .ok (.bipush 36, 2) := by decide +kernel
theorem dX10_row_62 : decode cX10_row 62 = .ok (.goto 17, 3) := by decide +kernel
theorem dX10_row_65 : decode cX10_row 65 = .ok (.iload_n 1, 1) := by decide +kernel
theorem dX10_row_66 : decode cX10_row 66 = .ok (.iconst 3, 1) := by decide +kernel
theorem dX10_row_67 : decode cX10_row 67 = .ok (.if_icmp .ne 9, 3) := by decide +kernel
theorem dX10_row_70 : decode cX10_row 70 = .ok (.sipush 216, 3) := by decide +kernel
theorem dX10_row_73 : decode cX10_row 73 = .ok (.goto 6, 3) := by decide +kernel
theorem dX10_row_76 : decode cX10_row 76 = .ok (.sipush 1296, 3) := by decide +kernel
theorem dX10_row_79 : decode cX10_row 79 = .ok (.istore 4, 2) := by decide +kernel
theorem dX10_row_81 : decode cX10_row 81 = .ok (.aload_n 0, 1) := by decide +kernel
theorem dX10_row_82 : decode cX10_row 82 = .ok (.iconst (-1), 1) := by decide +kernel
theorem dX10_row_83 : decode cX10_row 83 = .ok (.putfield 200, 3) := by decide +kernel
theorem dX10_row_86 : decode cX10_row 86 = .ok (.iconst 0, 1) := by decide +kernel
theorem dX10_row_87 : decode cX10_row 87 = .ok (.istore 5, 2) := by decide +kernel
theorem dX10_row_89 : decode cX10_row 89 = .ok (.iload 5, 2) := by decide +kernel
theorem dX10_row_91 : decode cX10_row 91 = .ok (.iload 4, 2) := by decide +kernel
theorem dX10_row_93 : decode cX10_row 93 = .ok (.if_icmp .ge 17, 3) := by decide +kernel
theorem dX10_row_96 : decode cX10_row 96 = .ok (.aload_n 0, 1) := by decide +kernel
theorem dX10_row_97 : decode cX10_row 97 = .ok (.iload 5, 2) := by decide +kernel
theorem dX10_row_99 : decode cX10_row 99 = .ok (.iload_n 1, 1) := by decide +kernel
theorem dX10_row_100 : decode cX10_row 100 = .ok (.iload_n 2, 1) := by decide +kernel
theorem dX10_row_101 : decode cX10_row 101 = .ok (.invokevirtual 206, 3) := by decide +kernel
theorem dX10_row_104 : decode cX10_row 104 = .ok (.iinc 5 1, 3) := by decide +kernel
theorem dX10_row_107 : decode cX10_row 107 = .ok (.goto (-18), 3) := by decide +kernel
theorem dX10_row_110 : decode cX10_row 110 = .ok (.iload_n 3, 1) := by decide +kernel
theorem dX10_row_111 : decode cX10_row 111 = .ok (.ifCond .ne 10, 3) := by decide +kernel
theorem dX10_row_114 : decode cX10_row 114 = .ok (.aload_n 0, 1) := by decide +kernel
theorem dX10_row_115 : decode cX10_row 115 = .ok (.getfield 200, 3) := by decide +kernel
theorem dX10_row_118 : decode cX10_row 118 = .ok (.goto 7, 3) := by decide +kernel
theorem dX10_row_121 : decode cX10_row 121 = .ok (.aload_n 0, 1) := by decide +kernel
theorem dX10_row_122 : decode cX10_row 122 = .ok (.getfield 203, 3) := by decide +kernel
theorem dX10_row_125 : decode cX10_row 125 = .ok (.ireturn, 1) := by decide +kernel
theorem dX10_divisor_0 : decode cX10_divisor 0 = .ok (.iload_n 0, 1) := by decide +kernel
theorem dX10_divisor_1 : decode cX10_divisor 1 = .ok (.istore_n 2, 1) := by decide +kernel
theorem dX10_divisor_2 : decode cX10_divisor 2 = .ok (.iload_n 1, 1) := by decide +kernel
theorem dX10_divisor_3 : decode cX10_divisor 3 = .ok (.istore_n 3, 1) := by decide +kernel
theorem dX10_divisor_4 : decode cX10_divisor 4 = .ok (.iload_n 3, 1) := by decide +kernel
theorem dX10_divisor_5 : decode cX10_divisor 5 = .ok (.ifCond .eq 16, 3) := by decide +kernel
theorem dX10_divisor_8 : decode cX10_divisor 8 = .ok (.iload_n 2, 1) := by decide +kernel
theorem dX10_divisor_9 : decode cX10_divisor 9 = .ok (.iload_n 3, 1) := by decide +kernel
theorem dX10_divisor_10 : decode cX10_divisor 10 = .ok (.irem, 1) := by decide +kernel
theorem dX10_divisor_11 : decode cX10_divisor 11 = .ok (.istore 4, 2) := by decide +kernel
theorem dX10_divisor_13 : decode cX10_divisor 13 = .ok (.iload_n 3, 1) := by decide +kernel
theorem dX10_divisor_14 : decode cX10_divisor 14 = .ok (.istore_n 2, 1) := by decide +kernel
theorem dX10_divisor_15 : decode cX10_divisor 15 = .ok (.iload 4, 2) := by decide +kernel
theorem dX10_divisor_17 : decode cX10_divisor 17 = .ok (.istore_n 3, 1) := by decide +kernel
theorem dX10_divisor_18 : decode cX10_divisor 18 = .ok (.goto (-14), 3) := by decide +kernel
theorem dX10_divisor_21 : decode cX10_divisor 21 = .ok (.iload_n 2, 1) := by decide +kernel
theorem dX10_divisor_22 : decode cX10_divisor 22 = .ok (.ireturn, 1) := by decide +kernel
theorem dX10_odds_0 : decode cX10_odds 0 = .ok (.aload_n 0, 1) := by decide +kernel
theorem dX10_odds_1 : decode cX10_odds 1 = .ok (.iload_n 1, 1) := by decide +kernel
theorem dX10_odds_2 : decode cX10_odds 2 = .ok (.invokevirtual 62, 3) := by decide +kernel
theorem dX10_odds_5 : decode cX10_odds 5 = .ok (.ifCond .eq 12, 3) := by decide +kernel
theorem dX10_odds_8 : decode cX10_odds 8 = .ok (.iload_n 2, 1) := by decide +kernel
theorem dX10_odds_9 : decode cX10_odds 9 = .ok (.iconst 0, 1) := by decide +kernel
theorem dX10_odds_10 : decode cX10_odds 10 = .ok (.iconst 1, 1) := by decide +kernel
theorem dX10_odds_11 : decode cX10_odds 11 = .ok (.invokestatic 44, 3) := by decide +kernel
theorem dX10_odds_14 : decode cX10_odds 14 = .ok (.ifCond .ne 10, 3) := by decide +kernel
theorem dX10_odds_17 : decode cX10_odds 17 = .ok (.aload_n 0, 1) := by decide +kernel
theorem dX10_odds_18 : decode cX10_odds 18 = .ok (.ldc 48, 2) := by decide +kernel
theorem dX10_odds_20 : decode cX10_odds 20 = .ok (.invokevirtual 49, 3) := by decide +kernel
theorem dX10_odds_23 : decode cX10_odds 23 = .ok (.ireturn, 1) := by decide +kernel
theorem dX10_odds_24 : decode cX10_odds 24 = .ok (.aload_n 0, 1) := by decide +kernel
theorem dX10_odds_25 : decode cX10_odds 25 = .ok (.getfield 7, 3) := by decide +kernel
theorem dX10_odds_28 : decode cX10_odds 28 = .ok (.bipush 12, 2) := by decide +kernel
theorem dX10_odds_30 : decode cX10_odds 30 = .ok (.iaload, 1) := by decide +kernel
theorem dX10_odds_31 : decode cX10_odds 31 = .ok (.istore_n 3, 1) := by decide +kernel
theorem dX10_odds_32 : decode cX10_odds 32 = .ok (.iconst 0, 1) := by decide +kernel
theorem dX10_odds_33 : decode cX10_odds 33 = .ok (.istore 4, 2) := by decide +kernel
theorem dX10_odds_35 : decode cX10_odds 35 = .ok (.iconst 0, 1) := by decide +kernel
theorem dX10_odds_36 : decode cX10_odds 36 = .ok (.istore 5, 2) := by decide +kernel
theorem dX10_odds_38 : decode cX10_odds 38 = .ok (.iload 5, 2) := by decide +kernel
theorem dX10_odds_40 : decode cX10_odds 40 = .ok (.bipush 9, 2) := by decide +kernel
theorem dX10_odds_42 : decode cX10_odds 42 = .ok (.if_icmp .gt 36, 3) := by decide +kernel
theorem dX10_odds_45 : decode cX10_odds 45 = .ok (.aload_n 0, 1) := by decide +kernel
theorem dX10_odds_46 : decode cX10_odds 46 = .ok (.getfield 7, 3) := by decide +kernel
theorem dX10_odds_49 : decode cX10_odds 49 = .ok (.bipush 12, 2) := by decide +kernel
theorem dX10_odds_51 : decode cX10_odds 51 = .ok (.iload 5, 2) := by decide +kernel
theorem dX10_odds_53 : decode cX10_odds 53 = .ok (.iastore, 1) := by decide +kernel
theorem dX10_odds_54 : decode cX10_odds 54 = .ok (.iload 4, 2) := by decide +kernel
theorem dX10_odds_56 : decode cX10_odds 56 = .ok (.aload_n 0, 1) := by decide +kernel
theorem dX10_odds_57 : decode cX10_odds 57 = .ok (.iload_n 1, 1) := by decide +kernel
theorem dX10_odds_58 : decode cX10_odds 58 = .ok (.invokevirtual 75, 3) := by decide +kernel
theorem dX10_odds_61 : decode cX10_odds 61 = .ok (.ifCond .ne 7, 3) := by decide +kernel
theorem dX10_odds_64 : decode cX10_odds 64 = .ok (.iconst 1, 1) := by decide +kernel
theorem dX10_odds_65 : decode cX10_odds 65 = .ok (.goto 4, 3) := by decide +kernel
theorem dX10_odds_68 : decode cX10_odds 68 = .ok (.iconst 0, 1) := by decide +kernel
theorem dX10_odds_69 : decode cX10_odds 69 = .ok (.iadd, 1) := by decide +kernel
theorem dX10_odds_70 : decode cX10_odds 70 = .ok (.istore 4, 2) := by decide +kernel
theorem dX10_odds_72 : decode cX10_odds 72 = .ok (.iinc 5 1, 3) := by decide +kernel
theorem dX10_odds_75 : decode cX10_odds 75 = .ok (.goto (-37), 3) := by decide +kernel
theorem dX10_odds_78 : decode cX10_odds 78 = .ok (.aload_n 0, 1) := by decide +kernel
theorem dX10_odds_79 : decode cX10_odds 79 = .ok (.getfield 7, 3) := by decide +kernel
theorem dX10_odds_82 : decode cX10_odds 82 = .ok (.bipush 12, 2) := by decide +kernel
theorem dX10_odds_84 : decode cX10_odds 84 = .ok (.iload_n 3, 1) := by decide +kernel
theorem dX10_odds_85 : decode cX10_odds 85 = .ok (.iastore, 1) := by decide +kernel
theorem dX10_odds_86 : decode cX10_odds 86 = .ok (.iload 4, 2) := by decide +kernel
theorem dX10_odds_88 : decode cX10_odds 88 = .ok (.bipush 10, 2) := by decide +kernel
theorem dX10_odds_90 : decode cX10_odds 90 = .ok (.invokestatic 209, 3) := by decide +kernel
theorem dX10_odds_93 : decode cX10_odds 93 = .ok (.istore 5, 2) := by decide +kernel
theorem dX10_odds_95 : decode cX10_odds 95 = .ok (.iload_n 2, 1) := by decide +kernel
theorem dX10_odds_96 : decode cX10_odds 96 = .ok (.ifCond .ne 11, 3) := by decide +kernel
theorem dX10_odds_99 : decode cX10_odds 99 = .ok (.iload 4, 2) := by decide +kernel
theorem dX10_odds_101 : decode cX10_odds 101 = .ok (.iload 5, 2) := by decide +kernel
theorem dX10_odds_103 : decode cX10_odds 103 = .ok (.idiv, 1) := by decide +kernel
theorem dX10_odds_104 : decode cX10_odds 104 = .ok (.goto 8, 3) := by decide +kernel
theorem dX10_odds_107 : decode cX10_odds 107 = .ok (.bipush 10, 2) := by decide +kernel
theorem dX10_odds_109 : decode cX10_odds 109 = .ok (.iload 5, 2) := by decide +kernel
theorem dX10_odds_111 : decode cX10_odds 111 = .ok (.idiv, 1) := by decide +kernel
theorem dX10_odds_112 : decode cX10_odds 112 = .ok (.ireturn, 1) := by decide +kernel
theorem dX10_seed_0 : decode cX10_seed 0 = .ok (.aload_n 0, 1) := by decide +kernel
theorem dX10_seed_1 : decode cX10_seed 1 = .ok (.getfield 7, 3) := by decide +kernel
theorem dX10_seed_4 : decode cX10_seed 4 = .ok (.iconst 1, 1) := by decide +kernel
theorem dX10_seed_5 : decode cX10_seed 5 = .ok (.iaload, 1) := by decide +kernel
theorem dX10_seed_6 : decode cX10_seed 6 = .ok (.istore_n 2, 1) := by decide +kernel
theorem dX10_seed_7 : decode cX10_seed 7 = .ok (.aload_n 0, 1) := by decide +kernel
theorem dX10_seed_8 : decode cX10_seed 8 = .ok (.getfield 7, 3) := by decide +kernel
theorem dX10_seed_11 : decode cX10_seed 11 = .ok (.iconst 1, 1) := by decide +kernel
theorem dX10_seed_12 : decode cX10_seed 12 = .ok (.iload_n 1, 1) := by decide +kernel
theorem dX10_seed_13 : decode cX10_seed 13 = .ok (.iastore, 1) := by decide +kernel
theorem dX10_seed_14 : decode cX10_seed 14 = .ok (.iload_n 2, 1) := by decide +kernel
theorem dX10_seed_15 : decode cX10_seed 15 = .ok (.ireturn, 1) := by decide +kernel
theorem dX10_ran_0 : decode cX10_ran 0 = .ok (.aload_n 0, 1) := by decide +kernel
theorem dX10_ran_1 : decode cX10_ran 1 = .ok (.getfield 212, 3) := by decide +kernel
theorem dX10_ran_4 : decode cX10_ran 4 = .ok (.bipush 40, 2) := by decide +kernel
theorem dX10_ran_6 : decode cX10_ran 6 = .ok (.if_icmp .ge 23, 3) := by decide +kernel
theorem dX10_ran_9 : decode cX10_ran 9 = .ok (.aload_n 0, 1) := by decide +kernel
theorem dX10_ran_10 : decode cX10_ran 10 = .ok (.getfield 40, 3) := by decide +kernel
theorem dX10_ran_13 : decode cX10_ran 13 = .ok (.aload_n 0, 1) := by decide +kernel
theorem dX10_ran_14 : decode cX10_ran 14 = .ok (.getfield 212, 3) := by decide +kernel
theorem dX10_ran_17 : decode cX10_ran 17 = .ok (.iload_n 1, 1) := by decide +kernel
theorem dX10_ran_18 : decode cX10_ran 18 = .ok (.iastore, 1) := by decide +kernel
theorem dX10_ran_19 : decode cX10_ran 19 = .ok (.aload_n 0, 1) := by decide +kernel
theorem dX10_ran_20 : decode cX10_ran 20 = .ok (.dup, 1) := by decide +kernel
theorem dX10_ran_21 : decode cX10_ran 21 = .ok (.getfield 212, 3) := by decide +kernel
theorem dX10_ran_24 : decode cX10_ran 24 = .ok (.iconst 1, 1) := by decide +kernel
theorem dX10_ran_25 : decode cX10_ran 25 = .ok (.iadd, 1) := by decide +kernel
theorem dX10_ran_26 : decode cX10_ran 26 = .ok (.putfield 212, 3) := by decide +kernel
theorem dX10_ran_29 : decode cX10_ran 29 = .ok (.return_, 1) := by decide +kernel
theorem dX10_threadsIn_0 : decode cX10_threadsIn 0 = .ok (.iload_n 1, 1) := by decide +kernel
theorem dX10_threadsIn_1 : decode cX10_threadsIn 1 = .ok (.ifCond .ne 16, 3) := by decide +kernel
theorem dX10_threadsIn_4 : decode cX10_threadsIn 4 = .ok (.aload_n 0, 1) := by decide +kernel
theorem dX10_threadsIn_5 : decode cX10_threadsIn 5 = .ok (.bipush 10, 2) := by decide +kernel
theorem dX10_threadsIn_7 : decode cX10_threadsIn 7 = .ok (.invokevirtual 215, 3) := by decide +kernel
theorem dX10_threadsIn_10 : decode cX10_threadsIn 10 = .ok (.iload_n 2, 1) := by decide +kernel
theorem dX10_threadsIn_11 : decode cX10_threadsIn 11 = .ok (.aload_n 0, 1) := by decide +kernel
theorem dX10_threadsIn_12 : decode cX10_threadsIn 12 = .ok (.getfield 218, 3) := by decide +kernel
theorem dX10_threadsIn_15 : decode cX10_threadsIn 15 = .ok (.iadd, 1) := by decide +kernel
theorem dX10_threadsIn_16 : decode cX10_threadsIn 16 = .ok (.ireturn, 1) := by decide +kernel
theorem dX10_threadsIn_17 : decode cX10_threadsIn 17 = .ok (.iload_n 1, 1) := by decide +kernel
theorem dX10_threadsIn_18 : decode cX10_threadsIn 18 = .ok (.iconst 1, 1) := by decide +kernel
theorem dX10_threadsIn_19 : decode cX10_threadsIn 19 = .ok (.if_icmp .ne 18, 3) := by decide +kernel
theorem dX10_threadsIn_22 : decode cX10_threadsIn 22 = .ok (.aload_n 0, 1) := by decide +kernel
theorem dX10_threadsIn_23 : decode cX10_threadsIn 23 = .ok (.bipush 20, 2) := by decide +kernel
theorem dX10_threadsIn_25 : decode cX10_threadsIn 25 = .ok (.invokevirtual 215, 3) := by decide +kernel
theorem dX10_threadsIn_28 : decode cX10_threadsIn 28 = .ok (.aload_n 0, 1) := by decide +kernel
theorem dX10_threadsIn_29 : decode cX10_threadsIn 29 = .ok (.iconst 0, 1) := by decide +kernel
theorem dX10_threadsIn_30 : decode cX10_threadsIn 30 = .ok (.iload_n 2, 1) := by decide +kernel
theorem dX10_threadsIn_31 : decode cX10_threadsIn 31 = .ok (.invokevirtual 221, 3) := by decide +kernel
theorem dX10_threadsIn_34 : decode cX10_threadsIn 34 = .ok (.iconst 3, 1) := by decide +kernel
theorem dX10_threadsIn_35 : decode cX10_threadsIn 35 = .ok (.imul, 1) := by decide +kernel
theorem dX10_threadsIn_36 : decode cX10_threadsIn 36 = .ok (.ireturn, 1) := by decide +kernel
theorem dX10_threadsIn_37 : decode cX10_threadsIn 37 = .ok (.aload_n 0, 1) := by decide +kernel
theorem dX10_threadsIn_38 : decode cX10_threadsIn 38 = .ok (.iload_n 1, 1) := by decide +kernel
theorem dX10_threadsIn_39 : decode cX10_threadsIn 39 = .ok (.invokestatic 81, 3) := by decide +kernel
theorem dX10_threadsIn_42 : decode cX10_threadsIn 42 = .ok (.iload_n 2, 1) := by decide +kernel
theorem dX10_threadsIn_43 : decode cX10_threadsIn 43 = .ok (.invokevirtual 221, 3) := by decide +kernel
theorem dX10_threadsIn_46 : decode cX10_threadsIn 46 = .ok (.ireturn, 1) := by decide +kernel
theorem dX10_showsIn_0 : decode cX10_showsIn 0 = .ok (.iload_n 1, 1) := by decide +kernel
theorem dX10_showsIn_1 : decode cX10_showsIn 1 = .ok (.ifCond .ne 16, 3) := by decide +kernel
theorem dX10_showsIn_4 : decode cX10_showsIn 4 = .ok (.aload_n 0, 1) := by decide +kernel
theorem dX10_showsIn_5 : decode cX10_showsIn 5 = .ok (.bipush 12, 2) := by decide +kernel
theorem dX10_showsIn_7 : decode cX10_showsIn 7 = .ok (.invokevirtual 215, 3) := by decide +kernel
theorem dX10_showsIn_10 : decode cX10_showsIn 10 = .ok (.iload_n 2, 1) := by decide +kernel
theorem dX10_showsIn_11 : decode cX10_showsIn 11 = .ok (.aload_n 0, 1) := by decide +kernel
theorem dX10_showsIn_12 : decode cX10_showsIn 12 = .ok (.getfield 224, 3) := by decide +kernel
theorem dX10_showsIn_15 : decode cX10_showsIn 15 = .ok (.isub, 1) := by decide +kernel
theorem dX10_showsIn_16 : decode cX10_showsIn 16 = .ok (.ireturn, 1) := by decide +kernel
theorem dX10_showsIn_17 : decode cX10_showsIn 17 = .ok (.iload_n 1, 1) := by decide +kernel
theorem dX10_showsIn_18 : decode cX10_showsIn 18 = .ok (.iconst 3, 1) := by decide +kernel
theorem dX10_showsIn_19 : decode cX10_showsIn 19 = .ok (.if_icmp .ne 17, 3) := by decide +kernel
theorem dX10_showsIn_22 : decode cX10_showsIn 22 = .ok (.aload_n 0, 1) := by decide +kernel
theorem dX10_showsIn_23 : decode cX10_showsIn 23 = .ok (.bipush 40, 2) := by decide +kernel
theorem dX10_showsIn_25 : decode cX10_showsIn 25 = .ok (.invokevirtual 215, 3) := by decide +kernel
theorem dX10_showsIn_28 : decode cX10_showsIn 28 = .ok (.aload_n 0, 1) := by decide +kernel
theorem dX10_showsIn_29 : decode cX10_showsIn 29 = .ok (.iconst 0, 1) := by decide +kernel
theorem dX10_showsIn_30 : decode cX10_showsIn 30 = .ok (.iload_n 2, 1) := by decide +kernel
theorem dX10_showsIn_31 : decode cX10_showsIn 31 = .ok (.invokevirtual 227, 3) := by decide +kernel
theorem dX10_showsIn_34 : decode cX10_showsIn 34 = .ok (.ineg, 1) := by decide +kernel
theorem dX10_showsIn_35 : decode cX10_showsIn 35 = .ok (.ireturn, 1) := by decide +kernel
theorem dX10_showsIn_36 : decode cX10_showsIn 36 = .ok (.iload_n 1, 1) := by decide +kernel
theorem dX10_showsIn_37 : decode cX10_showsIn 37 = .ok (.bipush 6, 2) := by decide +kernel
theorem dX10_showsIn_39 : decode cX10_showsIn 39 = .ok (.if_icmp .ne 21, 3) := by decide +kernel
theorem dX10_showsIn_42 : decode cX10_showsIn 42 = .ok (.aload_n 0, 1) := by decide +kernel
theorem dX10_showsIn_43 : decode cX10_showsIn 43 = .ok (.bipush 70, 2) := by decide +kernel
theorem dX10_showsIn_45 : decode cX10_showsIn 45 = .ok (.invokevirtual 215, 3) := by decide +kernel
theorem dX10_showsIn_48 : decode cX10_showsIn 48 = .ok (.aload_n 0, 1) := by decide +kernel
theorem dX10_showsIn_49 : decode cX10_showsIn 49 = .ok (.iconst 3, 1) := by decide +kernel
theorem dX10_showsIn_50 : decode cX10_showsIn 50 = .ok (.iload_n 2, 1) := by decide +kernel
theorem dX10_showsIn_51 : decode cX10_showsIn 51 = .ok (.invokevirtual 227, 3) := by decide +kernel
theorem dX10_showsIn_54 : decode cX10_showsIn 54 = .ok (.aload_n 0, 1) := by decide +kernel
theorem dX10_showsIn_55 : decode cX10_showsIn 55 = .ok (.getfield 218, 3) := by decide +kernel
theorem dX10_showsIn_58 : decode cX10_showsIn 58 = .ok (.ixor, 1) := by decide +kernel
theorem dX10_showsIn_59 : decode cX10_showsIn 59 = .ok (.ireturn, 1) := by decide +kernel
theorem dX10_showsIn_60 : decode cX10_showsIn 60 = .ok (.aload_n 0, 1) := by decide +kernel
theorem dX10_showsIn_61 : decode cX10_showsIn 61 = .ok (.iload_n 1, 1) := by decide +kernel
theorem dX10_showsIn_62 : decode cX10_showsIn 62 = .ok (.invokestatic 81, 3) := by decide +kernel
theorem dX10_showsIn_65 : decode cX10_showsIn 65 = .ok (.iload_n 2, 1) := by decide +kernel
theorem dX10_showsIn_66 : decode cX10_showsIn 66 = .ok (.invokevirtual 227, 3) := by decide +kernel
theorem dX10_showsIn_69 : decode cX10_showsIn 69 = .ok (.ireturn, 1) := by decide +kernel
theorem dX10_sewsIn_0 : decode cX10_sewsIn 0 = .ok (.iload_n 1, 1) := by decide +kernel
theorem dX10_sewsIn_1 : decode cX10_sewsIn 1 = .ok (.ifCond .ne 21, 3) := by decide +kernel
theorem dX10_sewsIn_4 : decode cX10_sewsIn 4 = .ok (.aload_n 0, 1) := by decide +kernel
theorem dX10_sewsIn_5 : decode cX10_sewsIn 5 = .ok (.bipush 11, 2) := by decide +kernel
theorem dX10_sewsIn_7 : decode cX10_sewsIn 7 = .ok (.invokevirtual 215, 3) := by decide +kernel
theorem dX10_sewsIn_10 : decode cX10_sewsIn 10 = .ok (.aload_n 0, 1) := by decide +kernel
theorem dX10_sewsIn_11 : decode cX10_sewsIn 11 = .ok (.aload_n 0, 1) := by decide +kernel
theorem dX10_sewsIn_12 : decode cX10_sewsIn 12 = .ok (.getfield 230, 3) := by decide +kernel
theorem dX10_sewsIn_15 : decode cX10_sewsIn 15 = .ok (.iload_n 2, 1) := by decide +kernel
theorem dX10_sewsIn_16 : decode cX10_sewsIn 16 = .ok (.invokevirtual 221, 3) := by decide +kernel
theorem dX10_sewsIn_19 : decode cX10_sewsIn 19 = .ok (.iconst 2, 1) := by decide +kernel
theorem dX10_sewsIn_20 : decode cX10_sewsIn 20 = .ok (.imul, 1) := by decide +kernel
theorem dX10_sewsIn_21 : decode cX10_sewsIn 21 = .ok (.ireturn, 1) := by decide +kernel
theorem dX10_sewsIn_22 : decode cX10_sewsIn 22 = .ok (.iload_n 1, 1) := by decide +kernel
theorem dX10_sewsIn_23 : decode cX10_sewsIn 23 = .ok (.iconst 2, 1) := by decide +kernel
theorem dX10_sewsIn_24 : decode cX10_sewsIn 24 = .ok (.if_icmp .ne 28, 3) := by decide +kernel
theorem dX10_sewsIn_27 : decode cX10_sewsIn 27 = .ok (.aload_n 0, 1) := by decide +kernel
theorem dX10_sewsIn_28 : decode cX10_sewsIn 28 = .ok (.bipush 30, 2) := by decide +kernel
theorem dX10_sewsIn_30 : decode cX10_sewsIn 30 = .ok (.invokevirtual 215, 3) := by decide +kernel
theorem dX10_sewsIn_33 : decode cX10_sewsIn 33 = .ok (.aload_n 0, 1) := by decide +kernel
theorem dX10_sewsIn_34 : decode cX10_sewsIn 34 = .ok (.iconst 0, 1) := by decide +kernel
theorem dX10_sewsIn_35 : decode cX10_sewsIn 35 = .ok (.iload_n 2, 1) := by decide +kernel
theorem dX10_sewsIn_36 : decode cX10_sewsIn 36 = .ok (.invokevirtual 233, 3) := by decide +kernel
theorem dX10_sewsIn_39 : decode cX10_sewsIn 39 = .ok (.istore_n 3, 1) := by decide +kernel
theorem dX10_sewsIn_40 : decode cX10_sewsIn 40 = .ok (.iload_n 3, 1) := by decide +kernel
theorem dX10_sewsIn_41 : decode cX10_sewsIn 41 = .ok (.aload_n 0, 1) := by decide +kernel
theorem dX10_sewsIn_42 : decode cX10_sewsIn 42 = .ok (.aload_n 0, 1) := by decide +kernel
theorem dX10_sewsIn_43 : decode cX10_sewsIn 43 = .ok (.getfield 230, 3) := by decide +kernel
theorem dX10_sewsIn_46 : decode cX10_sewsIn 46 = .ok (.iconst 1, 1) := by decide +kernel
theorem dX10_sewsIn_47 : decode cX10_sewsIn 47 = .ok (.invokevirtual 227, 3) := by decide +kernel
theorem dX10_sewsIn_50 : decode cX10_sewsIn 50 = .ok (.isub, 1) := by decide +kernel
theorem dX10_sewsIn_51 : decode cX10_sewsIn 51 = .ok (.ireturn, 1) := by decide +kernel
theorem dX10_sewsIn_52 : decode cX10_sewsIn 52 = .ok (.iload_n 1, 1) := by decide +kernel
theorem dX10_sewsIn_53 : decode cX10_sewsIn 53 = .ok (.iconst 5, 1) := by decide +kernel
theorem dX10_sewsIn_54 : decode cX10_sewsIn 54 = .ok (.if_icmp .ne 18, 3) := by decide +kernel
theorem dX10_sewsIn_57 : decode cX10_sewsIn 57 = .ok (.aload_n 0, 1) := by decide +kernel
theorem dX10_sewsIn_58 : decode cX10_sewsIn 58 = .ok (.bipush 60, 2) := by decide +kernel
theorem dX10_sewsIn_60 : decode cX10_sewsIn 60 = .ok (.invokevirtual 215, 3) := by decide +kernel
theorem dX10_sewsIn_63 : decode cX10_sewsIn 63 = .ok (.aload_n 0, 1) := by decide +kernel
theorem dX10_sewsIn_64 : decode cX10_sewsIn 64 = .ok (.iconst 2, 1) := by decide +kernel
theorem dX10_sewsIn_65 : decode cX10_sewsIn 65 = .ok (.iload_n 2, 1) := by decide +kernel
theorem dX10_sewsIn_66 : decode cX10_sewsIn 66 = .ok (.iconst 1, 1) := by decide +kernel
theorem dX10_sewsIn_67 : decode cX10_sewsIn 67 = .ok (.iadd, 1) := by decide +kernel
theorem dX10_sewsIn_68 : decode cX10_sewsIn 68 = .ok (.invokevirtual 233, 3) := by decide +kernel
theorem dX10_sewsIn_71 : decode cX10_sewsIn 71 = .ok (.ireturn, 1) := by decide +kernel
theorem dX10_sewsIn_72 : decode cX10_sewsIn 72 = .ok (.aload_n 0, 1) := by decide +kernel
theorem dX10_sewsIn_73 : decode cX10_sewsIn 73 = .ok (.iload_n 1, 1) := by decide +kernel
theorem dX10_sewsIn_74 : decode cX10_sewsIn 74 = .ok (.invokestatic 81, 3) := by decide +kernel
theorem dX10_sewsIn_77 : decode cX10_sewsIn 77 = .ok (.iload_n 2, 1) := by decide +kernel
theorem dX10_sewsIn_78 : decode cX10_sewsIn 78 = .ok (.invokevirtual 233, 3) := by decide +kernel
theorem dX10_sewsIn_81 : decode cX10_sewsIn 81 = .ok (.ireturn, 1) := by decide +kernel
theorem dX10_foldsIn_0 : decode cX10_foldsIn 0 = .ok (.iload_n 1, 1) := by decide +kernel
theorem dX10_foldsIn_1 : decode cX10_foldsIn 1 = .ok (.ifCond .ne 31, 3) := by decide +kernel
theorem dX10_foldsIn_4 : decode cX10_foldsIn 4 = .ok (.aload_n 0, 1) := by decide +kernel
theorem dX10_foldsIn_5 : decode cX10_foldsIn 5 = .ok (.bipush 13, 2) := by decide +kernel
theorem dX10_foldsIn_7 : decode cX10_foldsIn 7 = .ok (.invokevirtual 215, 3) := by decide +kernel
theorem dX10_foldsIn_10 : decode cX10_foldsIn 10 = .ok (.aload_n 0, 1) := by decide +kernel
theorem dX10_foldsIn_11 : decode cX10_foldsIn 11 = .ok (.aload_n 0, 1) := by decide +kernel
theorem dX10_foldsIn_12 : decode cX10_foldsIn 12 = .ok (.getfield 230, 3) := by decide +kernel
theorem dX10_foldsIn_15 : decode cX10_foldsIn 15 = .ok (.iload_n 2, 1) := by decide +kernel
theorem dX10_foldsIn_16 : decode cX10_foldsIn 16 = .ok (.invokevirtual 233, 3) := by decide +kernel
theorem dX10_foldsIn_19 : decode cX10_foldsIn 19 = .ok (.istore_n 3, 1) := by decide +kernel
theorem dX10_foldsIn_20 : decode cX10_foldsIn 20 = .ok (.iload_n 3, 1) := by decide +kernel
theorem dX10_foldsIn_21 : decode cX10_foldsIn 21 = .ok (.aload_n 0, 1) := by decide +kernel
theorem dX10_foldsIn_22 : decode cX10_foldsIn 22 = .ok (.aload_n 0, 1) := by decide +kernel
theorem dX10_foldsIn_23 : decode cX10_foldsIn 23 = .ok (.getfield 230, 3) := by decide +kernel
theorem dX10_foldsIn_26 : decode cX10_foldsIn 26 = .ok (.iload_n 2, 1) := by decide +kernel
theorem dX10_foldsIn_27 : decode cX10_foldsIn 27 = .ok (.invokevirtual 227, 3) := by decide +kernel
theorem dX10_foldsIn_30 : decode cX10_foldsIn 30 = .ok (.ixor, 1) := by decide +kernel
theorem dX10_foldsIn_31 : decode cX10_foldsIn 31 = .ok (.ireturn, 1) := by decide +kernel
theorem dX10_foldsIn_32 : decode cX10_foldsIn 32 = .ok (.iload_n 1, 1) := by decide +kernel
theorem dX10_foldsIn_33 : decode cX10_foldsIn 33 = .ok (.iconst 4, 1) := by decide +kernel
theorem dX10_foldsIn_34 : decode cX10_foldsIn 34 = .ok (.if_icmp .ne 28, 3) := by decide +kernel
theorem dX10_foldsIn_37 : decode cX10_foldsIn 37 = .ok (.aload_n 0, 1) := by decide +kernel
theorem dX10_foldsIn_38 : decode cX10_foldsIn 38 = .ok (.bipush 50, 2) := by decide +kernel
theorem dX10_foldsIn_40 : decode cX10_foldsIn 40 = .ok (.invokevirtual 215, 3) := by decide +kernel
theorem dX10_foldsIn_43 : decode cX10_foldsIn 43 = .ok (.aload_n 0, 1) := by decide +kernel
theorem dX10_foldsIn_44 : decode cX10_foldsIn 44 = .ok (.iconst 1, 1) := by decide +kernel
theorem dX10_foldsIn_45 : decode cX10_foldsIn 45 = .ok (.iload_n 2, 1) := by decide +kernel
theorem dX10_foldsIn_46 : decode cX10_foldsIn 46 = .ok (.invokevirtual 236, 3) := by decide +kernel
theorem dX10_foldsIn_49 : decode cX10_foldsIn 49 = .ok (.istore_n 3, 1) := by decide +kernel
theorem dX10_foldsIn_50 : decode cX10_foldsIn 50 = .ok (.iload_n 3, 1) := by decide +kernel
theorem dX10_foldsIn_51 : decode cX10_foldsIn 51 = .ok (.aload_n 0, 1) := by decide +kernel
theorem dX10_foldsIn_52 : decode cX10_foldsIn 52 = .ok (.aload_n 0, 1) := by decide +kernel
theorem dX10_foldsIn_53 : decode cX10_foldsIn 53 = .ok (.getfield 230, 3) := by decide +kernel
theorem dX10_foldsIn_56 : decode cX10_foldsIn 56 = .ok (.iconst 2, 1) := by decide +kernel
theorem dX10_foldsIn_57 : decode cX10_foldsIn 57 = .ok (.invokevirtual 221, 3) := by decide +kernel
theorem dX10_foldsIn_60 : decode cX10_foldsIn 60 = .ok (.isub, 1) := by decide +kernel
theorem dX10_foldsIn_61 : decode cX10_foldsIn 61 = .ok (.ireturn, 1) := by decide +kernel
theorem dX10_foldsIn_62 : decode cX10_foldsIn 62 = .ok (.iload_n 1, 1) := by decide +kernel
theorem dX10_foldsIn_63 : decode cX10_foldsIn 63 = .ok (.bipush 6, 2) := by decide +kernel
theorem dX10_foldsIn_65 : decode cX10_foldsIn 65 = .ok (.if_icmp .ne 28, 3) := by decide +kernel
theorem dX10_foldsIn_68 : decode cX10_foldsIn 68 = .ok (.aload_n 0, 1) := by decide +kernel
theorem dX10_foldsIn_69 : decode cX10_foldsIn 69 = .ok (.bipush 71, 2) := by decide +kernel
theorem dX10_foldsIn_71 : decode cX10_foldsIn 71 = .ok (.invokevirtual 215, 3) := by decide +kernel
theorem dX10_foldsIn_74 : decode cX10_foldsIn 74 = .ok (.aload_n 0, 1) := by decide +kernel
theorem dX10_foldsIn_75 : decode cX10_foldsIn 75 = .ok (.aload_n 0, 1) := by decide +kernel
theorem dX10_foldsIn_76 : decode cX10_foldsIn 76 = .ok (.getfield 230, 3) := by decide +kernel
theorem dX10_foldsIn_79 : decode cX10_foldsIn 79 = .ok (.iload_n 2, 1) := by decide +kernel
theorem dX10_foldsIn_80 : decode cX10_foldsIn 80 = .ok (.invokevirtual 233, 3) := by decide +kernel
theorem dX10_foldsIn_83 : decode cX10_foldsIn 83 = .ok (.istore_n 3, 1) := by decide +kernel
theorem dX10_foldsIn_84 : decode cX10_foldsIn 84 = .ok (.iload_n 3, 1) := by decide +kernel
theorem dX10_foldsIn_85 : decode cX10_foldsIn 85 = .ok (.aload_n 0, 1) := by decide +kernel
theorem dX10_foldsIn_86 : decode cX10_foldsIn 86 = .ok (.iconst 3, 1) := by decide +kernel
theorem dX10_foldsIn_87 : decode cX10_foldsIn 87 = .ok (.iload_n 2, 1) := by decide +kernel
theorem dX10_foldsIn_88 : decode cX10_foldsIn 88 = .ok (.invokevirtual 236, 3) := by decide +kernel
theorem dX10_foldsIn_91 : decode cX10_foldsIn 91 = .ok (.isub, 1) := by decide +kernel
theorem dX10_foldsIn_92 : decode cX10_foldsIn 92 = .ok (.ireturn, 1) := by decide +kernel
theorem dX10_foldsIn_93 : decode cX10_foldsIn 93 = .ok (.aload_n 0, 1) := by decide +kernel
theorem dX10_foldsIn_94 : decode cX10_foldsIn 94 = .ok (.iload_n 1, 1) := by decide +kernel
theorem dX10_foldsIn_95 : decode cX10_foldsIn 95 = .ok (.invokestatic 81, 3) := by decide +kernel
theorem dX10_foldsIn_98 : decode cX10_foldsIn 98 = .ok (.iload_n 2, 1) := by decide +kernel
theorem dX10_foldsIn_99 : decode cX10_foldsIn 99 = .ok (.invokevirtual 236, 3) := by decide +kernel
theorem dX10_foldsIn_102 : decode cX10_foldsIn 102 = .ok (.ireturn, 1) := by decide +kernel
theorem dX10_voice_0 : decode cX10_voice 0 = .ok (.aload_n 0, 1) := by decide +kernel
theorem dX10_voice_1 : decode cX10_voice 1 = .ok (.iload_n 1, 1) := by decide +kernel
theorem dX10_voice_2 : decode cX10_voice 2 = .ok (.invokevirtual 62, 3) := by decide +kernel
theorem dX10_voice_5 : decode cX10_voice 5 = .ok (.ifCond .eq 12, 3) := by decide +kernel
theorem dX10_voice_8 : decode cX10_voice 8 = .ok (.iload_n 2, 1) := by decide +kernel
theorem dX10_voice_9 : decode cX10_voice 9 = .ok (.iconst 0, 1) := by decide +kernel
theorem dX10_voice_10 : decode cX10_voice 10 = .ok (.iconst 3, 1) := by decide +kernel
theorem dX10_voice_11 : decode cX10_voice 11 = .ok (.invokestatic 44, 3) := by decide +kernel
theorem dX10_voice_14 : decode cX10_voice 14 = .ok (.ifCond .ne 10, 3) := by decide +kernel
theorem dX10_voice_17 : decode cX10_voice 17 = .ok (.aload_n 0, 1) := by decide +kernel
theorem dX10_voice_18 : decode cX10_voice 18 = .ok (.ldc 48, 2) := by decide +kernel
theorem dX10_voice_20 : decode cX10_voice 20 = .ok (.invokevirtual 49, 3) := by decide +kernel
theorem dX10_voice_23 : decode cX10_voice 23 = .ok (.ireturn, 1) := by decide +kernel
theorem dX10_voice_24 : decode cX10_voice 24 = .ok (.aload_n 0, 1) := by decide +kernel
theorem dX10_voice_25 : decode cX10_voice 25 = .ok (.iconst 0, 1) := by decide +kernel
theorem dX10_voice_26 : decode cX10_voice 26 = .ok (.putfield 212, 3) := by decide +kernel
theorem dX10_voice_29 : decode cX10_voice 29 = .ok (.aload_n 0, 1) := by decide +kernel
theorem dX10_voice_30 : decode cX10_voice 30 = .ok (.aload_n 0, 1) := by decide +kernel
theorem dX10_voice_31 : decode cX10_voice 31 = .ok (.iload_n 1, 1) := by decide +kernel
theorem dX10_voice_32 : decode cX10_voice 32 = .ok (.iconst 0, 1) := by decide +kernel
theorem dX10_voice_33 : decode cX10_voice 33 = .ok (.invokevirtual 78, 3) := by decide +kernel
theorem dX10_voice_36 : decode cX10_voice 36 = .ok (.putfield 230, 3) := by decide +kernel
theorem dX10_voice_39 : decode cX10_voice 39 = .ok (.aload_n 0, 1) := by decide +kernel
theorem dX10_voice_40 : decode cX10_voice 40 = .ok (.iload_n 1, 1) := by decide +kernel
theorem dX10_voice_41 : decode cX10_voice 41 = .ok (.putfield 218, 3) := by decide +kernel
theorem dX10_voice_44 : decode cX10_voice 44 = .ok (.aload_n 0, 1) := by decide +kernel
theorem dX10_voice_45 : decode cX10_voice 45 = .ok (.aload_n 0, 1) := by decide +kernel
theorem dX10_voice_46 : decode cX10_voice 46 = .ok (.iload_n 1, 1) := by decide +kernel
theorem dX10_voice_47 : decode cX10_voice 47 = .ok (.iconst 1, 1) := by decide +kernel
theorem dX10_voice_48 : decode cX10_voice 48 = .ok (.invokevirtual 78, 3) := by decide +kernel
theorem dX10_voice_51 : decode cX10_voice 51 = .ok (.putfield 224, 3) := by decide +kernel
theorem dX10_voice_54 : decode cX10_voice 54 = .ok (.iload_n 2, 1) := by decide +kernel
theorem dX10_voice_55 : decode cX10_voice 55 = .ok (.tableswitch 55 0 2 #[25, 35, 45], 25) := by decide +kernel
theorem dX10_voice_80 : decode cX10_voice 80 = .ok (.aload_n 0, 1) := by decide +kernel
theorem dX10_voice_81 : decode cX10_voice 81 = .ok (.aload_n 0, 1) := by decide +kernel
theorem dX10_voice_82 : decode cX10_voice 82 = .ok (.getfield 230, 3) := by decide +kernel
theorem dX10_voice_85 : decode cX10_voice 85 = .ok (.iload_n 3, 1) := by decide +kernel
theorem dX10_voice_86 : decode cX10_voice 86 = .ok (.invokevirtual 221, 3) := by decide +kernel
theorem dX10_voice_89 : decode cX10_voice 89 = .ok (.ireturn, 1) := by decide +kernel
theorem dX10_voice_90 : decode cX10_voice 90 = .ok (.aload_n 0, 1) := by decide +kernel
theorem dX10_voice_91 : decode cX10_voice 91 = .ok (.aload_n 0, 1) := by decide +kernel
theorem dX10_voice_92 : decode cX10_voice 92 = .ok (.getfield 230, 3) := by decide +kernel
theorem dX10_voice_95 : decode cX10_voice 95 = .ok (.iload_n 3, 1) := by decide +kernel
theorem dX10_voice_96 : decode cX10_voice 96 = .ok (.invokevirtual 233, 3) := by decide +kernel
theorem dX10_voice_99 : decode cX10_voice 99 = .ok (.ireturn, 1) := by decide +kernel
theorem dX10_voice_100 : decode cX10_voice 100 = .ok (.aload_n 0, 1) := by decide +kernel
theorem dX10_voice_101 : decode cX10_voice 101 = .ok (.aload_n 0, 1) := by decide +kernel
theorem dX10_voice_102 : decode cX10_voice 102 = .ok (.getfield 230, 3) := by decide +kernel
theorem dX10_voice_105 : decode cX10_voice 105 = .ok (.iload_n 3, 1) := by decide +kernel
theorem dX10_voice_106 : decode cX10_voice 106 = .ok (.invokevirtual 227, 3) := by decide +kernel
theorem dX10_voice_109 : decode cX10_voice 109 = .ok (.ireturn, 1) := by decide +kernel
theorem dX10_voice_110 : decode cX10_voice 110 = .ok (.aload_n 0, 1) := by decide +kernel
theorem dX10_voice_111 : decode cX10_voice 111 = .ok (.aload_n 0, 1) := by decide +kernel
theorem dX10_voice_112 : decode cX10_voice 112 = .ok (.getfield 230, 3) := by decide +kernel
theorem dX10_voice_115 : decode cX10_voice 115 = .ok (.iload_n 3, 1) := by decide +kernel
theorem dX10_voice_116 : decode cX10_voice 116 = .ok (.invokevirtual 236, 3) := by decide +kernel
theorem dX10_voice_119 : decode cX10_voice 119 = .ok (.ireturn, 1) := by decide +kernel
theorem dX10_trace_0 : decode cX10_trace 0 = .ok (.iload_n 1, 1) := by decide +kernel
theorem dX10_trace_1 : decode cX10_trace 1 = .ok (.iconst 0, 1) := by decide +kernel
theorem dX10_trace_2 : decode cX10_trace 2 = .ok (.aload_n 0, 1) := by decide +kernel
theorem dX10_trace_3 : decode cX10_trace 3 = .ok (.getfield 212, 3) := by decide +kernel
theorem dX10_trace_6 : decode cX10_trace 6 = .ok (.iconst 1, 1) := by decide +kernel
theorem dX10_trace_7 : decode cX10_trace 7 = .ok (.isub, 1) := by decide +kernel
theorem dX10_trace_8 : decode cX10_trace 8 = .ok (.invokestatic 44, 3) := by decide +kernel
theorem dX10_trace_11 : decode cX10_trace 11 = .ok (.ifCond .eq 12, 3) := by decide +kernel
theorem dX10_trace_14 : decode cX10_trace 14 = .ok (.aload_n 0, 1) := by decide +kernel
theorem dX10_trace_15 : decode cX10_trace 15 = .ok (.getfield 40, 3) := by decide +kernel
theorem dX10_trace_18 : decode cX10_trace 18 = .ok (.iload_n 1, 1) := by decide +kernel
theorem dX10_trace_19 : decode cX10_trace 19 = .ok (.iaload, 1) := by decide +kernel
theorem dX10_trace_20 : decode cX10_trace 20 = .ok (.goto 9, 3) := by decide +kernel
theorem dX10_trace_23 : decode cX10_trace 23 = .ok (.aload_n 0, 1) := by decide +kernel
theorem dX10_trace_24 : decode cX10_trace 24 = .ok (.ldc 187, 2) := by decide +kernel
theorem dX10_trace_26 : decode cX10_trace 26 = .ok (.invokevirtual 49, 3) := by decide +kernel
theorem dX10_trace_29 : decode cX10_trace 29 = .ok (.ireturn, 1) := by decide +kernel
theorem dX10_narrow_0 : decode cX10_narrow 0 = .ok (.iload_n 0, 1) := by decide +kernel
theorem dX10_narrow_1 : decode cX10_narrow 1 = .ok (.bipush 8, 2) := by decide +kernel
theorem dX10_narrow_3 : decode cX10_narrow 3 = .ok (.if_icmp .ne 8, 3) := by decide +kernel
theorem dX10_narrow_6 : decode cX10_narrow 6 = .ok (.iload_n 1, 1) := by decide +kernel
theorem dX10_narrow_7 : decode cX10_narrow 7 = .ok (.i2b, 1) := by decide +kernel
theorem dX10_narrow_8 : decode cX10_narrow 8 = .ok (.goto 15, 3) := by decide +kernel
theorem dX10_narrow_11 : decode cX10_narrow 11 = .ok (.iload_n 0, 1) := by decide +kernel
theorem dX10_narrow_12 : decode cX10_narrow 12 = .ok (.bipush 16, 2) := by decide +kernel
theorem dX10_narrow_14 : decode cX10_narrow 14 = .ok (.if_icmp .ne 8, 3) := by decide +kernel
theorem dX10_narrow_17 : decode cX10_narrow 17 = .ok (.iload_n 1, 1) := by decide +kernel
theorem dX10_narrow_18 : decode cX10_narrow 18 = .ok (.i2s, 1) := by decide +kernel
theorem dX10_narrow_19 : decode cX10_narrow 19 = .ok (.goto 4, 3) := by decide +kernel
theorem dX10_narrow_22 : decode cX10_narrow 22 = .ok (.iload_n 1, 1) := by decide +kernel
theorem dX10_narrow_23 : decode cX10_narrow 23 = .ok (.ireturn, 1) := by decide +kernel
theorem dX10_sheet_0 : decode cX10_sheet 0 = .ok (.iload_n 1, 1) := by decide +kernel
theorem dX10_sheet_1 : decode cX10_sheet 1 = .ok (.invokestatic 191, 3) := by decide +kernel
theorem dX10_sheet_4 : decode cX10_sheet 4 = .ok (.ifCond .eq 25, 3) := by decide +kernel
theorem dX10_sheet_7 : decode cX10_sheet 7 = .ok (.iload_n 2, 1) := by decide +kernel
theorem dX10_sheet_8 : decode cX10_sheet 8 = .ok (.ifCond .eq 28, 3) := by decide +kernel
theorem dX10_sheet_11 : decode cX10_sheet 11 = .ok (.iload_n 2, 1) := by decide +kernel
theorem dX10_sheet_12 : decode cX10_sheet 12 = .ok (.bipush 8, 2) := by decide +kernel
theorem dX10_sheet_14 : decode cX10_sheet 14 = .ok (.if_icmp .eq 22, 3) := by decide +kernel
theorem dX10_sheet_17 : decode cX10_sheet 17 = .ok (.iload_n 2, 1) := by decide +kernel
theorem dX10_sheet_18 : decode cX10_sheet 18 = .ok (.bipush 16, 2) := by decide +kernel
theorem dX10_sheet_20 : decode cX10_sheet 20 = .ok (.if_icmp .eq 16, 3) := by decide +kernel
theorem dX10_sheet_23 : decode cX10_sheet 23 = .ok (.iload_n 2, 1) := by decide +kernel
theorem dX10_sheet_24 : decode cX10_sheet 24 = .ok (.bipush 32, 2) := by decide +kernel
theorem dX10_sheet_26 : decode cX10_sheet 26 = .ok (.if_icmp .eq 10, 3) := by decide +kernel
theorem dX10_sheet_29 : decode cX10_sheet 29 = .ok (.aload_n 0, 1) := by decide +kernel
theorem dX10_sheet_30 : decode cX10_sheet 30 = .ok (.ldc 48, 2) := by decide +kernel
theorem dX10_sheet_32 : decode cX10_sheet 32 = .ok (.invokevirtual 49, 3) := by decide +kernel
theorem dX10_sheet_35 : decode cX10_sheet 35 = .ok (.ireturn, 1) := by decide +kernel
theorem dX10_sheet_36 : decode cX10_sheet 36 = .ok (.iload_n 2, 1) := by decide +kernel
theorem dX10_sheet_37 : decode cX10_sheet 37 = .ok (.ifCond .eq 14, 3) := by decide +kernel
theorem dX10_sheet_40 : decode cX10_sheet 40 = .ok (.iload_n 3, 1) := by decide +kernel
theorem dX10_sheet_41 : decode cX10_sheet 41 = .ok (.ifCond .ge 10, 3) := by decide +kernel
theorem dX10_sheet_44 : decode cX10_sheet 44 = .ok (.aload_n 0, 1) := by decide +kernel
theorem dX10_sheet_45 : decode cX10_sheet 45 = .ok (.ldc 169, 2) := by decide +kernel
theorem dX10_sheet_47 : decode cX10_sheet 47 = .ok (.invokevirtual 49, 3) := by decide +kernel
theorem dX10_sheet_50 : decode cX10_sheet 50 = .ok (.ireturn, 1) := by decide +kernel
theorem dX10_sheet_51 : decode cX10_sheet 51 = .ok (.iload_n 2, 1) := by decide +kernel
theorem dX10_sheet_52 : decode cX10_sheet 52 = .ok (.ifCond .eq 16, 3) := by decide +kernel
theorem dX10_sheet_55 : decode cX10_sheet 55 = .ok (.iload_n 3, 1) := by decide +kernel
theorem dX10_sheet_56 : decode cX10_sheet 56 = .ok (.bipush 40, 2) := by decide +kernel
theorem dX10_sheet_58 : decode cX10_sheet 58 = .ok (.if_icmp .le 10, 3) := by decide +kernel
theorem dX10_sheet_61 : decode cX10_sheet 61 = .ok (.aload_n 0, 1) := by decide +kernel
theorem dX10_sheet_62 : decode cX10_sheet 62 = .ok (.ldc 48, 2) := by decide +kernel
theorem dX10_sheet_64 : decode cX10_sheet 64 = .ok (.invokevirtual 49, 3) := by decide +kernel
theorem dX10_sheet_67 : decode cX10_sheet 67 = .ok (.ireturn, 1) := by decide +kernel
theorem dX10_sheet_68 : decode cX10_sheet 68 = .ok (.aload_n 0, 1) := by decide +kernel
theorem dX10_sheet_69 : decode cX10_sheet 69 = .ok (.getfield 25, 3) := by decide +kernel
theorem dX10_sheet_72 : decode cX10_sheet 72 = .ok (.iload_n 1, 1) := by decide +kernel
theorem dX10_sheet_73 : decode cX10_sheet 73 = .ok (.iload_n 2, 1) := by decide +kernel
theorem dX10_sheet_74 : decode cX10_sheet 74 = .ok (.iastore, 1) := by decide +kernel
theorem dX10_sheet_75 : decode cX10_sheet 75 = .ok (.aload_n 0, 1) := by decide +kernel
theorem dX10_sheet_76 : decode cX10_sheet 76 = .ok (.getfield 28, 3) := by decide +kernel
theorem dX10_sheet_79 : decode cX10_sheet 79 = .ok (.iload_n 1, 1) := by decide +kernel
theorem dX10_sheet_80 : decode cX10_sheet 80 = .ok (.iload_n 2, 1) := by decide +kernel
theorem dX10_sheet_81 : decode cX10_sheet 81 = .ok (.ifCond .ne 7, 3) := by decide +kernel
theorem dX10_sheet_84 : decode cX10_sheet 84 = .ok (.iconst 0, 1) := by decide +kernel
theorem dX10_sheet_85 : decode cX10_sheet 85 = .ok (.goto 4, 3) := by decide +kernel
theorem dX10_sheet_88 : decode cX10_sheet 88 = .ok (.iload_n 3, 1) := by decide +kernel
theorem dX10_sheet_89 : decode cX10_sheet 89 = .ok (.iastore, 1) := by decide +kernel
theorem dX10_sheet_90 : decode cX10_sheet 90 = .ok (.iconst 0, 1) := by decide +kernel
theorem dX10_sheet_91 : decode cX10_sheet 91 = .ok (.istore 4, 2) := by decide +kernel
theorem dX10_sheet_93 : decode cX10_sheet 93 = .ok (.iload 4, 2) := by decide +kernel
theorem dX10_sheet_95 : decode cX10_sheet 95 = .ok (.bipush 40, 2) := by decide +kernel
theorem dX10_sheet_97 : decode cX10_sheet 97 = .ok (.if_icmp .ge 22, 3) := by decide +kernel
theorem dX10_sheet_100 : decode cX10_sheet 100 = .ok (.aload_n 0, 1) := by decide +kernel
theorem dX10_sheet_101 : decode cX10_sheet 101 = .ok (.getfield 31, 3) := by decide +kernel
theorem dX10_sheet_104 : decode cX10_sheet 104 = .ok (.bipush 40, 2) := by decide +kernel
theorem dX10_sheet_106 : decode cX10_sheet 106 = .ok (.iload_n 1, 1) := by decide +kernel
theorem dX10_sheet_107 : decode cX10_sheet 107 = .ok (.imul, 1) := by decide +kernel
theorem dX10_sheet_108 : decode cX10_sheet 108 = .ok (.iload 4, 2) := by decide +kernel
theorem dX10_sheet_110 : decode cX10_sheet 110 = .ok (.iadd, 1) := by decide +kernel
theorem dX10_sheet_111 : decode cX10_sheet 111 = .ok (.iconst 0, 1) := by decide +kernel
theorem dX10_sheet_112 : decode cX10_sheet 112 = .ok (.iastore, 1) := by decide +kernel
theorem dX10_sheet_113 : decode cX10_sheet 113 = .ok (.iinc 4 1, 3) := by decide +kernel
theorem dX10_sheet_116 : decode cX10_sheet 116 = .ok (.goto (-23), 3) := by decide +kernel
theorem dX10_sheet_119 : decode cX10_sheet 119 = .ok (.iconst 1, 1) := by decide +kernel
theorem dX10_sheet_120 : decode cX10_sheet 120 = .ok (.ireturn, 1) := by decide +kernel
theorem dX10_put_0 : decode cX10_put 0 = .ok (.iload_n 1, 1) := by decide +kernel
theorem dX10_put_1 : decode cX10_put 1 = .ok (.invokestatic 191, 3) := by decide +kernel
theorem dX10_put_4 : decode cX10_put 4 = .ok (.ifCond .ne 10, 3) := by decide +kernel
theorem dX10_put_7 : decode cX10_put 7 = .ok (.aload_n 0, 1) := by decide +kernel
theorem dX10_put_8 : decode cX10_put 8 = .ok (.ldc 48, 2) := by decide +kernel
theorem dX10_put_10 : decode cX10_put 10 = .ok (.invokevirtual 49, 3) := by decide +kernel
theorem dX10_put_13 : decode cX10_put 13 = .ok (.ireturn, 1) := by decide +kernel
theorem dX10_put_14 : decode cX10_put 14 = .ok (.aload_n 0, 1) := by decide +kernel
theorem dX10_put_15 : decode cX10_put 15 = .ok (.getfield 25, 3) := by decide +kernel
theorem dX10_put_18 : decode cX10_put 18 = .ok (.iload_n 1, 1) := by decide +kernel
theorem dX10_put_19 : decode cX10_put 19 = .ok (.iaload, 1) := by decide +kernel
theorem dX10_put_20 : decode cX10_put 20 = .ok (.ifCond .ne 10, 3) := by decide +kernel
theorem dX10_put_23 : decode cX10_put 23 = .ok (.aload_n 0, 1) := by decide +kernel
theorem dX10_put_24 : decode cX10_put 24 = .ok (.ldc 187, 2) := by decide +kernel
theorem dX10_put_26 : decode cX10_put 26 = .ok (.invokevirtual 49, 3) := by decide +kernel
theorem dX10_put_29 : decode cX10_put 29 = .ok (.ireturn, 1) := by decide +kernel
theorem dX10_put_30 : decode cX10_put 30 = .ok (.iload_n 2, 1) := by decide +kernel
theorem dX10_put_31 : decode cX10_put 31 = .ok (.iconst 0, 1) := by decide +kernel
theorem dX10_put_32 : decode cX10_put 32 = .ok (.aload_n 0, 1) := by decide +kernel
theorem dX10_put_33 : decode cX10_put 33 = .ok (.getfield 28, 3) := by decide +kernel
theorem dX10_put_36 : decode cX10_put 36 = .ok (.iload_n 1, 1) := by decide +kernel
theorem dX10_put_37 : decode cX10_put 37 = .ok (.iaload, 1) := by decide +kernel
theorem dX10_put_38 : decode cX10_put 38 = .ok (.iconst 1, 1) := by decide +kernel
theorem dX10_put_39 : decode cX10_put 39 = .ok (.isub, 1) := by decide +kernel
theorem dX10_put_40 : decode cX10_put 40 = .ok (.invokestatic 44, 3) := by decide +kernel
theorem dX10_put_43 : decode cX10_put 43 = .ok (.ifCond .ne 10, 3) := by decide +kernel
theorem dX10_put_46 : decode cX10_put 46 = .ok (.aload_n 0, 1) := by decide +kernel
theorem dX10_put_47 : decode cX10_put 47 = .ok (.ldc 48, 2) := by decide +kernel
theorem dX10_put_49 : decode cX10_put 49 = .ok (.invokevirtual 49, 3) := by decide +kernel
theorem dX10_put_52 : decode cX10_put 52 = .ok (.ireturn, 1) := by decide +kernel
theorem dX10_put_53 : decode cX10_put 53 = .ok (.aload_n 0, 1) := by decide +kernel
theorem dX10_put_54 : decode cX10_put 54 = .ok (.getfield 31, 3) := by decide +kernel
theorem dX10_put_57 : decode cX10_put 57 = .ok (.bipush 40, 2) := by decide +kernel
theorem dX10_put_59 : decode cX10_put 59 = .ok (.iload_n 1, 1) := by decide +kernel
theorem dX10_put_60 : decode cX10_put 60 = .ok (.imul, 1) := by decide +kernel
theorem dX10_put_61 : decode cX10_put 61 = .ok (.iload_n 2, 1) := by decide +kernel
theorem dX10_put_62 : decode cX10_put 62 = .ok (.iadd, 1) := by decide +kernel
theorem dX10_put_63 : decode cX10_put 63 = .ok (.aload_n 0, 1) := by decide +kernel
theorem dX10_put_64 : decode cX10_put 64 = .ok (.getfield 25, 3) := by decide +kernel
theorem dX10_put_67 : decode cX10_put 67 = .ok (.iload_n 1, 1) := by decide +kernel
theorem dX10_put_68 : decode cX10_put 68 = .ok (.iaload, 1) := by decide +kernel
theorem dX10_put_69 : decode cX10_put 69 = .ok (.iload_n 3, 1) := by decide +kernel
theorem dX10_put_70 : decode cX10_put 70 = .ok (.invokestatic 239, 3) := by decide +kernel
theorem dX10_put_73 : decode cX10_put 73 = .ok (.iastore, 1) := by decide +kernel
theorem dX10_put_74 : decode cX10_put 74 = .ok (.iconst 1, 1) := by decide +kernel
theorem dX10_put_75 : decode cX10_put 75 = .ok (.ireturn, 1) := by decide +kernel
theorem dX10_move_0 : decode cX10_move 0 = .ok (.iload_n 1, 1) := by decide +kernel
theorem dX10_move_1 : decode cX10_move 1 = .ok (.invokestatic 191, 3) := by decide +kernel
theorem dX10_move_4 : decode cX10_move 4 = .ok (.ifCond .eq 10, 3) := by decide +kernel
theorem dX10_move_7 : decode cX10_move 7 = .ok (.iload_n 3, 1) := by decide +kernel
theorem dX10_move_8 : decode cX10_move 8 = .ok (.invokestatic 191, 3) := by decide +kernel
theorem dX10_move_11 : decode cX10_move 11 = .ok (.ifCond .ne 10, 3) := by decide +kernel
theorem dX10_move_14 : decode cX10_move 14 = .ok (.aload_n 0, 1) := by decide +kernel
theorem dX10_move_15 : decode cX10_move 15 = .ok (.ldc 48, 2) := by decide +kernel
theorem dX10_move_17 : decode cX10_move 17 = .ok (.invokevirtual 49, 3) := by decide +kernel
theorem dX10_move_20 : decode cX10_move 20 = .ok (.ireturn, 1) := by decide +kernel
theorem dX10_move_21 : decode cX10_move 21 = .ok (.aload_n 0, 1) := by decide +kernel
theorem dX10_move_22 : decode cX10_move 22 = .ok (.getfield 25, 3) := by decide +kernel
theorem dX10_move_25 : decode cX10_move 25 = .ok (.iload_n 1, 1) := by decide +kernel
theorem dX10_move_26 : decode cX10_move 26 = .ok (.iaload, 1) := by decide +kernel
theorem dX10_move_27 : decode cX10_move 27 = .ok (.ifCond .eq 12, 3) := by decide +kernel
theorem dX10_move_30 : decode cX10_move 30 = .ok (.aload_n 0, 1) := by decide +kernel
theorem dX10_move_31 : decode cX10_move 31 = .ok (.getfield 25, 3) := by decide +kernel
theorem dX10_move_34 : decode cX10_move 34 = .ok (.iload_n 3, 1) := by decide +kernel
theorem dX10_move_35 : decode cX10_move 35 = .ok (.iaload, 1) := by decide +kernel
theorem dX10_move_36 : decode cX10_move 36 = .ok (.ifCond .ne 10, 3) := by decide +kernel
theorem dX10_move_39 : decode cX10_move 39 = .ok (.aload_n 0, 1) := by decide +kernel
theorem dX10_move_40 : decode cX10_move 40 = .ok (.ldc 187, 2) := by decide +kernel
theorem dX10_move_42 : decode cX10_move 42 = .ok (.invokevirtual 49, 3) := by decide +kernel
theorem dX10_move_45 : decode cX10_move 45 = .ok (.ireturn, 1) := by decide +kernel
theorem dX10_move_46 : decode cX10_move 46 = .ok (.aload_n 0, 1) := by decide +kernel
theorem dX10_move_47 : decode cX10_move 47 = .ok (.getfield 25, 3) := by decide +kernel
theorem dX10_move_50 : decode cX10_move 50 = .ok (.iload_n 1, 1) := by decide +kernel
theorem dX10_move_51 : decode cX10_move 51 = .ok (.iaload, 1) := by decide +kernel
theorem dX10_move_52 : decode cX10_move 52 = .ok (.aload_n 0, 1) := by decide +kernel
theorem dX10_move_53 : decode cX10_move 53 = .ok (.getfield 25, 3) := by decide +kernel
theorem dX10_move_56 : decode cX10_move 56 = .ok (.iload_n 3, 1) := by decide +kernel
theorem dX10_move_57 : decode cX10_move 57 = .ok (.iaload, 1) := by decide +kernel
theorem dX10_move_58 : decode cX10_move 58 = .ok (.if_icmp .eq 10, 3) := by decide +kernel
theorem dX10_move_61 : decode cX10_move 61 = .ok (.aload_n 0, 1) := by decide +kernel
theorem dX10_move_62 : decode cX10_move 62 = .ok (.ldc 84, 2) := by decide +kernel
theorem dX10_move_64 : decode cX10_move 64 = .ok (.invokevirtual 49, 3) := by decide +kernel
theorem dX10_move_67 : decode cX10_move 67 = .ok (.ireturn, 1) := by decide +kernel
theorem dX10_move_68 : decode cX10_move 68 = .ok (.iload 5, 2) := by decide +kernel
theorem dX10_move_70 : decode cX10_move 70 = .ok (.ifCond .lt 39, 3) := by decide +kernel
theorem dX10_move_73 : decode cX10_move 73 = .ok (.iload_n 2, 1) := by decide +kernel
theorem dX10_move_74 : decode cX10_move 74 = .ok (.ifCond .lt 35, 3) := by decide +kernel
theorem dX10_move_77 : decode cX10_move 77 = .ok (.iload 4, 2) := by decide +kernel
theorem dX10_move_79 : decode cX10_move 79 = .ok (.ifCond .lt 30, 3) := by decide +kernel
theorem dX10_move_82 : decode cX10_move 82 = .ok (.iload_n 2, 1) := by decide +kernel
theorem dX10_move_83 : decode cX10_move 83 = .ok (.aload_n 0, 1) := by decide +kernel
theorem dX10_move_84 : decode cX10_move 84 = .ok (.getfield 28, 3) := by decide +kernel
theorem dX10_move_87 : decode cX10_move 87 = .ok (.iload_n 1, 1) := by decide +kernel
theorem dX10_move_88 : decode cX10_move 88 = .ok (.iaload, 1) := by decide +kernel
theorem dX10_move_89 : decode cX10_move 89 = .ok (.iload 5, 2) := by decide +kernel
theorem dX10_move_91 : decode cX10_move 91 = .ok (.isub, 1) := by decide +kernel
theorem dX10_move_92 : decode cX10_move 92 = .ok (.if_icmp .gt 17, 3) := by decide +kernel
theorem dX10_move_95 : decode cX10_move 95 = .ok (.iload 4, 2) := by decide +kernel
theorem dX10_move_97 : decode cX10_move 97 = .ok (.aload_n 0, 1) := by decide +kernel
theorem dX10_move_98 : decode cX10_move 98 = .ok (.getfield 28, 3) := by decide +kernel
theorem dX10_move_101 : decode cX10_move 101 = .ok (.iload_n 3, 1) := by decide +kernel
theorem dX10_move_102 : decode cX10_move 102 = .ok (.iaload, 1) := by decide +kernel
theorem dX10_move_103 : decode cX10_move 103 = .ok (.iload 5, 2) := by decide +kernel
theorem dX10_move_105 : decode cX10_move 105 = .ok (.isub, 1) := by decide +kernel
theorem dX10_move_106 : decode cX10_move 106 = .ok (.if_icmp .le 10, 3) := by decide +kernel
theorem dX10_move_109 : decode cX10_move 109 = .ok (.aload_n 0, 1) := by decide +kernel
theorem dX10_move_110 : decode cX10_move 110 = .ok (.ldc 48, 2) := by decide +kernel
theorem dX10_move_112 : decode cX10_move 112 = .ok (.invokevirtual 49, 3) := by decide +kernel
theorem dX10_move_115 : decode cX10_move 115 = .ok (.ireturn, 1) := by decide +kernel
theorem dX10_move_116 : decode cX10_move 116 = .ok (.iconst 0, 1) := by decide +kernel
theorem dX10_move_117 : decode cX10_move 117 = .ok (.istore 6, 2) := by decide +kernel
theorem dX10_move_119 : decode cX10_move 119 = .ok (.iload 6, 2) := by decide +kernel
theorem dX10_move_121 : decode cX10_move 121 = .ok (.iload 5, 2) := by decide +kernel
theorem dX10_move_123 : decode cX10_move 123 = .ok (.if_icmp .ge 30, 3) := by decide +kernel
theorem dX10_move_126 : decode cX10_move 126 = .ok (.aload_n 0, 1) := by decide +kernel
theorem dX10_move_127 : decode cX10_move 127 = .ok (.getfield 34, 3) := by decide +kernel
theorem dX10_move_130 : decode cX10_move 130 = .ok (.iload 6, 2) := by decide +kernel
theorem dX10_move_132 : decode cX10_move 132 = .ok (.aload_n 0, 1) := by decide +kernel
theorem dX10_move_133 : decode cX10_move 133 = .ok (.getfield 31, 3) := by decide +kernel
theorem dX10_move_136 : decode cX10_move 136 = .ok (.bipush 40, 2) := by decide +kernel
theorem dX10_move_138 : decode cX10_move 138 = .ok (.iload_n 1, 1) := by decide +kernel
theorem dX10_move_139 : decode cX10_move 139 = .ok (.imul, 1) := by decide +kernel
theorem dX10_move_140 : decode cX10_move 140 = .ok (.iload_n 2, 1) := by decide +kernel
theorem dX10_move_141 : decode cX10_move 141 = .ok (.iadd, 1) := by decide +kernel
theorem dX10_move_142 : decode cX10_move 142 = .ok (.iload 6, 2) := by decide +kernel
theorem dX10_move_144 : decode cX10_move 144 = .ok (.iadd, 1) := by decide +kernel
theorem dX10_move_145 : decode cX10_move 145 = .ok (.iaload, 1) := by decide +kernel
theorem dX10_move_146 : decode cX10_move 146 = .ok (.iastore, 1) := by decide +kernel
theorem dX10_move_147 : decode cX10_move 147 = .ok (.iinc 6 1, 3) := by decide +kernel
theorem dX10_move_150 : decode cX10_move 150 = .ok (.goto (-31), 3) := by decide +kernel
theorem dX10_move_153 : decode cX10_move 153 = .ok (.iconst 0, 1) := by decide +kernel
theorem dX10_move_154 : decode cX10_move 154 = .ok (.istore 6, 2) := by decide +kernel
theorem dX10_move_156 : decode cX10_move 156 = .ok (.iload 6, 2) := by decide +kernel
theorem dX10_move_158 : decode cX10_move 158 = .ok (.iload 5, 2) := by decide +kernel
theorem dX10_move_160 : decode cX10_move 160 = .ok (.if_icmp .ge 31, 3) := by decide +kernel
theorem dX10_move_163 : decode cX10_move 163 = .ok (.aload_n 0, 1) := by decide +kernel
theorem dX10_move_164 : decode cX10_move 164 = .ok (.getfield 31, 3) := by decide +kernel
theorem dX10_move_167 : decode cX10_move 167 = .ok (.bipush 40, 2) := by decide +kernel
theorem dX10_move_169 : decode cX10_move 169 = .ok (.iload_n 3, 1) := by decide +kernel
theorem dX10_move_170 : decode cX10_move 170 = .ok (.imul, 1) := by decide +kernel
theorem dX10_move_171 : decode cX10_move 171 = .ok (.iload 4, 2) := by decide +kernel
theorem dX10_move_173 : decode cX10_move 173 = .ok (.iadd, 1) := by decide +kernel
theorem dX10_move_174 : decode cX10_move 174 = .ok (.iload 6, 2) := by decide +kernel
theorem dX10_move_176 : decode cX10_move 176 = .ok (.iadd, 1) := by decide +kernel
theorem dX10_move_177 : decode cX10_move 177 = .ok (.aload_n 0, 1) := by decide +kernel
theorem dX10_move_178 : decode cX10_move 178 = .ok (.getfield 34, 3) := by decide +kernel
theorem dX10_move_181 : decode cX10_move 181 = .ok (.iload 6, 2) := by decide +kernel
theorem dX10_move_183 : decode cX10_move 183 = .ok (.iaload, 1) := by decide +kernel
theorem dX10_move_184 : decode cX10_move 184 = .ok (.iastore, 1) := by decide +kernel
theorem dX10_move_185 : decode cX10_move 185 = .ok (.iinc 6 1, 3) := by decide +kernel
theorem dX10_move_188 : decode cX10_move 188 = .ok (.goto (-32), 3) := by decide +kernel
theorem dX10_move_191 : decode cX10_move 191 = .ok (.iload 5, 2) := by decide +kernel
theorem dX10_move_193 : decode cX10_move 193 = .ok (.ireturn, 1) := by decide +kernel
theorem dX10_thicks_0 : decode cX10_thicks 0 = .ok (.iload_n 1, 1) := by decide +kernel
theorem dX10_thicks_1 : decode cX10_thicks 1 = .ok (.invokestatic 191, 3) := by decide +kernel
theorem dX10_thicks_4 : decode cX10_thicks 4 = .ok (.ifCond .ne 10, 3) := by decide +kernel
theorem dX10_thicks_7 : decode cX10_thicks 7 = .ok (.aload_n 0, 1) := by decide +kernel
theorem dX10_thicks_8 : decode cX10_thicks 8 = .ok (.ldc 48, 2) := by decide +kernel
theorem dX10_thicks_10 : decode cX10_thicks 10 = .ok (.invokevirtual 49, 3) := by decide +kernel
theorem dX10_thicks_13 : decode cX10_thicks 13 = .ok (.ireturn, 1) := by decide +kernel
theorem dX10_thicks_14 : decode cX10_thicks 14 = .ok (.aload_n 0, 1) := by decide +kernel
theorem dX10_thicks_15 : decode cX10_thicks 15 = .ok (.getfield 25, 3) := by decide +kernel
theorem dX10_thicks_18 : decode cX10_thicks 18 = .ok (.iload_n 1, 1) := by decide +kernel
theorem dX10_thicks_19 : decode cX10_thicks 19 = .ok (.iaload, 1) := by decide +kernel
theorem dX10_thicks_20 : decode cX10_thicks 20 = .ok (.ifCond .ne 10, 3) := by decide +kernel
theorem dX10_thicks_23 : decode cX10_thicks 23 = .ok (.aload_n 0, 1) := by decide +kernel
theorem dX10_thicks_24 : decode cX10_thicks 24 = .ok (.ldc 187, 2) := by decide +kernel
theorem dX10_thicks_26 : decode cX10_thicks 26 = .ok (.invokevirtual 49, 3) := by decide +kernel
theorem dX10_thicks_29 : decode cX10_thicks 29 = .ok (.ireturn, 1) := by decide +kernel
theorem dX10_thicks_30 : decode cX10_thicks 30 = .ok (.iconst 0, 1) := by decide +kernel
theorem dX10_thicks_31 : decode cX10_thicks 31 = .ok (.istore_n 2, 1) := by decide +kernel
theorem dX10_thicks_32 : decode cX10_thicks 32 = .ok (.iload_n 2, 1) := by decide +kernel
theorem dX10_thicks_33 : decode cX10_thicks 33 = .ok (.aload_n 0, 1) := by decide +kernel
theorem dX10_thicks_34 : decode cX10_thicks 34 = .ok (.getfield 28, 3) := by decide +kernel
theorem dX10_thicks_37 : decode cX10_thicks 37 = .ok (.iload_n 1, 1) := by decide +kernel
theorem dX10_thicks_38 : decode cX10_thicks 38 = .ok (.iaload, 1) := by decide +kernel
theorem dX10_thicks_39 : decode cX10_thicks 39 = .ok (.if_icmp .ge 54, 3) := by decide +kernel
theorem dX10_thicks_42 : decode cX10_thicks 42 = .ok (.aload_n 0, 1) := by decide +kernel
theorem dX10_thicks_43 : decode cX10_thicks 43 = .ok (.iload_n 2, 1) := by decide +kernel
theorem dX10_thicks_44 : decode cX10_thicks 44 = .ok (.invokevirtual 62, 3) := by decide +kernel
theorem dX10_thicks_47 : decode cX10_thicks 47 = .ok (.ifCond .eq 46, 3) := by decide +kernel
theorem dX10_thicks_50 : decode cX10_thicks 50 = .ok (.aload_n 0, 1) := by decide +kernel
theorem dX10_thicks_51 : decode cX10_thicks 51 = .ok (.getfield 31, 3) := by decide +kernel
theorem dX10_thicks_54 : decode cX10_thicks 54 = .ok (.bipush 40, 2) := by decide +kernel
theorem dX10_thicks_56 : decode cX10_thicks 56 = .ok (.iload_n 1, 1) := by decide +kernel
theorem dX10_thicks_57 : decode cX10_thicks 57 = .ok (.imul, 1) := by decide +kernel
theorem dX10_thicks_58 : decode cX10_thicks 58 = .ok (.iload_n 2, 1) := by decide +kernel
theorem dX10_thicks_59 : decode cX10_thicks 59 = .ok (.iadd, 1) := by decide +kernel
theorem dX10_thicks_60 : decode cX10_thicks 60 = .ok (.iaload, 1) := by decide +kernel
theorem dX10_thicks_61 : decode cX10_thicks 61 = .ok (.iconst 0, 1) := by decide +kernel
theorem dX10_thicks_62 : decode cX10_thicks 62 = .ok (.bipush 9, 2) := by decide +kernel
theorem dX10_thicks_64 : decode cX10_thicks 64 = .ok (.invokestatic 44, 3) := by decide +kernel
theorem dX10_thicks_67 : decode cX10_thicks 67 = .ok (.ifCond .eq 26, 3) := by decide +kernel
theorem dX10_thicks_70 : decode cX10_thicks 70 = .ok (.aload_n 0, 1) := by decide +kernel
theorem dX10_thicks_71 : decode cX10_thicks 71 = .ok (.iload_n 2, 1) := by decide +kernel
theorem dX10_thicks_72 : decode cX10_thicks 72 = .ok (.iconst 2, 1) := by decide +kernel
theorem dX10_thicks_73 : decode cX10_thicks 73 = .ok (.aload_n 0, 1) := by decide +kernel
theorem dX10_thicks_74 : decode cX10_thicks 74 = .ok (.getfield 31, 3) := by decide +kernel
theorem dX10_thicks_77 : decode cX10_thicks 77 = .ok (.bipush 40, 2) := by decide +kernel
theorem dX10_thicks_79 : decode cX10_thicks 79 = .ok (.iload_n 1, 1) := by decide +kernel
theorem dX10_thicks_80 : decode cX10_thicks 80 = .ok (.imul, 1) := by decide +kernel
theorem dX10_thicks_81 : decode cX10_thicks 81 = .ok (.iload_n 2, 1) := by decide +kernel
theorem dX10_thicks_82 : decode cX10_thicks 82 = .ok (.iadd, 1) := by decide +kernel
theorem dX10_thicks_83 : decode cX10_thicks 83 = .ok (.iaload, 1) := by decide +kernel
theorem dX10_thicks_84 : decode cX10_thicks 84 = .ok (.invokevirtual 58, 3) := by decide +kernel
theorem dX10_thicks_87 : decode cX10_thicks 87 = .ok (.iinc 2 1, 3) := by decide +kernel
theorem dX10_thicks_90 : decode cX10_thicks 90 = .ok (.goto (-58), 3) := by decide +kernel
theorem dX10_thicks_93 : decode cX10_thicks 93 = .ok (.iload_n 2, 1) := by decide +kernel
theorem dX10_thicks_94 : decode cX10_thicks 94 = .ok (.ireturn, 1) := by decide +kernel
theorem dX10_judge_0 : decode cX10_judge 0 = .ok (.iload_n 1, 1) := by decide +kernel
theorem dX10_judge_1 : decode cX10_judge 1 = .ok (.invokestatic 191, 3) := by decide +kernel
theorem dX10_judge_4 : decode cX10_judge 4 = .ok (.ifCond .ne 10, 3) := by decide +kernel
theorem dX10_judge_7 : decode cX10_judge 7 = .ok (.aload_n 0, 1) := by decide +kernel
theorem dX10_judge_8 : decode cX10_judge 8 = .ok (.ldc 48, 2) := by decide +kernel
theorem dX10_judge_10 : decode cX10_judge 10 = .ok (.invokevirtual 49, 3) := by decide +kernel
theorem dX10_judge_13 : decode cX10_judge 13 = .ok (.ireturn, 1) := by decide +kernel
theorem dX10_judge_14 : decode cX10_judge 14 = .ok (.aload_n 0, 1) := by decide +kernel
theorem dX10_judge_15 : decode cX10_judge 15 = .ok (.getfield 25, 3) := by decide +kernel
theorem dX10_judge_18 : decode cX10_judge 18 = .ok (.iload_n 1, 1) := by decide +kernel
theorem dX10_judge_19 : decode cX10_judge 19 = .ok (.iaload, 1) := by decide +kernel
theorem dX10_judge_20 : decode cX10_judge 20 = .ok (.ifCond .ne 10, 3) := by decide +kernel
theorem dX10_judge_23 : decode cX10_judge 23 = .ok (.aload_n 0, 1) := by decide +kernel
theorem dX10_judge_24 : decode cX10_judge 24 = .ok (.ldc 187, 2) := by decide +kernel
theorem dX10_judge_26 : decode cX10_judge 26 = .ok (.invokevirtual 49, 3) := by decide +kernel
theorem dX10_judge_29 : decode cX10_judge 29 = .ok (.ireturn, 1) := by decide +kernel
theorem dX10_judge_30 : decode cX10_judge 30 = .ok (.iconst 0, 1) := by decide +kernel
theorem dX10_judge_31 : decode cX10_judge 31 = .ok (.istore_n 2, 1) := by decide +kernel
theorem dX10_judge_32 : decode cX10_judge 32 = .ok (.iload_n 2, 1) := by decide +kernel
theorem dX10_judge_33 : decode cX10_judge 33 = .ok (.aload_n 0, 1) := by decide +kernel
theorem dX10_judge_34 : decode cX10_judge 34 = .ok (.getfield 7, 3) := by decide +kernel
theorem dX10_judge_37 : decode cX10_judge 37 = .ok (.iconst 2, 1) := by decide +kernel
theorem dX10_judge_38 : decode cX10_judge 38 = .ok (.iaload, 1) := by decide +kernel
theorem dX10_judge_39 : decode cX10_judge 39 = .ok (.if_icmp .ge 38, 3) := by decide +kernel
theorem dX10_judge_42 : decode cX10_judge 42 = .ok (.iload_n 2, 1) := by decide +kernel
theorem dX10_judge_43 : decode cX10_judge 43 = .ok (.aload_n 0, 1) := by decide +kernel
theorem dX10_judge_44 : decode cX10_judge 44 = .ok (.getfield 28, 3) := by decide +kernel
theorem dX10_judge_47 : decode cX10_judge 47 = .ok (.iload_n 1, 1) := by decide +kernel
theorem dX10_judge_48 : decode cX10_judge 48 = .ok (.iaload, 1) := by decide +kernel
theorem dX10_judge_49 : decode cX10_judge 49 = .ok (.if_icmp .ge 28, 3) := by decide +kernel
theorem dX10_judge_52 : decode cX10_judge 52 = .ok (.aload_n 0, 1) := by decide +kernel
theorem dX10_judge_53 : decode cX10_judge 53 = .ok (.getfield 31, 3) := by decide +kernel
theorem dX10_judge_56 : decode cX10_judge 56 = .ok (.bipush 40, 2) := by decide +kernel
theorem dX10_judge_58 : decode cX10_judge 58 = .ok (.iload_n 1, 1) := by decide +kernel
theorem dX10_judge_59 : decode cX10_judge 59 = .ok (.imul, 1) := by decide +kernel
theorem dX10_judge_60 : decode cX10_judge 60 = .ok (.iload_n 2, 1) := by decide +kernel
theorem dX10_judge_61 : decode cX10_judge 61 = .ok (.iadd, 1) := by decide +kernel
theorem dX10_judge_62 : decode cX10_judge 62 = .ok (.iaload, 1) := by decide +kernel
theorem dX10_judge_63 : decode cX10_judge 63 = .ok (.aload_n 0, 1) := by decide +kernel
theorem dX10_judge_64 : decode cX10_judge 64 = .ok (.iload_n 2, 1) := by decide +kernel
theorem dX10_judge_65 : decode cX10_judge 65 = .ok (.invokevirtual 75, 3) := by decide +kernel
theorem dX10_judge_68 : decode cX10_judge 68 = .ok (.if_icmp .ne 9, 3) := by decide +kernel
theorem dX10_judge_71 : decode cX10_judge 71 = .ok (.iinc 2 1, 3) := by decide +kernel
theorem dX10_judge_74 : decode cX10_judge 74 = .ok (.goto (-42), 3) := by decide +kernel
theorem dX10_judge_77 : decode cX10_judge 77 = .ok (.iload_n 2, 1) := by decide +kernel
theorem dX10_judge_78 : decode cX10_judge 78 = .ok (.aload_n 0, 1) := by decide +kernel
theorem dX10_judge_79 : decode cX10_judge 79 = .ok (.getfield 7, 3) := by decide +kernel
theorem dX10_judge_82 : decode cX10_judge 82 = .ok (.iconst 2, 1) := by decide +kernel
theorem dX10_judge_83 : decode cX10_judge 83 = .ok (.iaload, 1) := by decide +kernel
theorem dX10_judge_84 : decode cX10_judge 84 = .ok (.if_icmp .ne 17, 3) := by decide +kernel
theorem dX10_judge_87 : decode cX10_judge 87 = .ok (.iload_n 2, 1) := by decide +kernel
theorem dX10_judge_88 : decode cX10_judge 88 = .ok (.aload_n 0, 1) := by decide +kernel
theorem dX10_judge_89 : decode cX10_judge 89 = .ok (.getfield 28, 3) := by decide +kernel
theorem dX10_judge_92 : decode cX10_judge 92 = .ok (.iload_n 1, 1) := by decide +kernel
theorem dX10_judge_93 : decode cX10_judge 93 = .ok (.iaload, 1) := by decide +kernel
theorem dX10_judge_94 : decode cX10_judge 94 = .ok (.if_icmp .ne 7, 3) := by decide +kernel
theorem dX10_judge_97 : decode cX10_judge 97 = .ok (.iconst (-1), 1) := by decide +kernel
theorem dX10_judge_98 : decode cX10_judge 98 = .ok (.goto 4, 3) := by decide +kernel
theorem dX10_judge_101 : decode cX10_judge 101 = .ok (.iload_n 2, 1) := by decide +kernel
theorem dX10_judge_102 : decode cX10_judge 102 = .ok (.ireturn, 1) := by decide +kernel
theorem dX10_image_0 : decode cX10_image 0 = .ok (.aload_n 0, 1) := by decide +kernel
theorem dX10_image_1 : decode cX10_image 1 = .ok (.aload_n 0, 1) := by decide +kernel
theorem dX10_image_2 : decode cX10_image 2 = .ok (.getfield 7, 3) := by decide +kernel
theorem dX10_image_5 : decode cX10_image 5 = .ok (.aload_n 0, 1) := by decide +kernel
theorem dX10_image_6 : decode cX10_image 6 = .ok (.getfield 13, 3) := by decide +kernel
theorem dX10_image_9 : decode cX10_image 9 = .ok (.invokevirtual 158, 3) := by decide +kernel
theorem dX10_image_12 : decode cX10_image 12 = .ok (.aload_n 0, 1) := by decide +kernel
theorem dX10_image_13 : decode cX10_image 13 = .ok (.iconst 1, 1) := by decide +kernel
theorem dX10_image_14 : decode cX10_image 14 = .ok (.putfield 242, 3) := by decide +kernel
theorem dX10_image_17 : decode cX10_image 17 = .ok (.aload_n 0, 1) := by decide +kernel
theorem dX10_image_18 : decode cX10_image 18 = .ok (.dup, 1) := by decide +kernel
theorem dX10_image_19 : decode cX10_image 19 = .ok (.getfield 245, 3) := by decide +kernel
theorem dX10_image_22 : decode cX10_image 22 = .ok (.iconst 1, 1) := by decide +kernel
theorem dX10_image_23 : decode cX10_image 23 = .ok (.iadd, 1) := by decide +kernel
theorem dX10_image_24 : decode cX10_image 24 = .ok (.putfield 245, 3) := by decide +kernel
theorem dX10_image_27 : decode cX10_image 27 = .ok (.aload_n 0, 1) := by decide +kernel
theorem dX10_image_28 : decode cX10_image 28 = .ok (.getfield 245, 3) := by decide +kernel
theorem dX10_image_31 : decode cX10_image 31 = .ok (.ireturn, 1) := by decide +kernel
theorem dX10_restore_0 : decode cX10_restore 0 = .ok (.aload_n 0, 1) := by decide +kernel
theorem dX10_restore_1 : decode cX10_restore 1 = .ok (.getfield 242, 3) := by decide +kernel
theorem dX10_restore_4 : decode cX10_restore 4 = .ok (.ifCond .ne 10, 3) := by decide +kernel
theorem dX10_restore_7 : decode cX10_restore 7 = .ok (.aload_n 0, 1) := by decide +kernel
theorem dX10_restore_8 : decode cX10_restore 8 = .ok (.ldc 187, 2) := by decide +kernel
theorem dX10_restore_10 : decode cX10_restore 10 = .ok (.invokevirtual 49, 3) := by decide +kernel
theorem dX10_restore_13 : decode cX10_restore 13 = .ok (.ireturn, 1) := by decide +kernel
theorem dX10_restore_14 : decode cX10_restore 14 = .ok (.aload_n 0, 1) := by decide +kernel
theorem dX10_restore_15 : decode cX10_restore 15 = .ok (.aload_n 0, 1) := by decide +kernel
theorem dX10_restore_16 : decode cX10_restore 16 = .ok (.getfield 13, 3) := by decide +kernel
theorem dX10_restore_19 : decode cX10_restore 19 = .ok (.aload_n 0, 1) := by decide +kernel
theorem dX10_restore_20 : decode cX10_restore 20 = .ok (.getfield 7, 3) := by decide +kernel
theorem dX10_restore_23 : decode cX10_restore 23 = .ok (.invokevirtual 158, 3) := by decide +kernel
theorem dX10_restore_26 : decode cX10_restore 26 = .ok (.aload_n 0, 1) := by decide +kernel
theorem dX10_restore_27 : decode cX10_restore 27 = .ok (.getfield 7, 3) := by decide +kernel
theorem dX10_restore_30 : decode cX10_restore 30 = .ok (.iconst 0, 1) := by decide +kernel
theorem dX10_restore_31 : decode cX10_restore 31 = .ok (.iaload, 1) := by decide +kernel
theorem dX10_restore_32 : decode cX10_restore 32 = .ok (.ireturn, 1) := by decide +kernel
theorem dX10_tell_0 : decode cX10_tell 0 = .ok (.aload_n 0, 1) := by decide +kernel
theorem dX10_tell_1 : decode cX10_tell 1 = .ok (.getfield 7, 3) := by decide +kernel
theorem dX10_tell_4 : decode cX10_tell 4 = .ok (.iconst 4, 1) := by decide +kernel
theorem dX10_tell_5 : decode cX10_tell 5 = .ok (.iaload, 1) := by decide +kernel
theorem dX10_tell_6 : decode cX10_tell 6 = .ok (.bipush 20, 2) := by decide +kernel
theorem dX10_tell_8 : decode cX10_tell 8 = .ok (.if_icmp .ne 10, 3) := by decide +kernel
theorem dX10_tell_11 : decode cX10_tell 11 = .ok (.aload_n 0, 1) := by decide +kernel
theorem dX10_tell_12 : decode cX10_tell 12 = .ok (.ldc 57, 2) := by decide +kernel
theorem dX10_tell_14 : decode cX10_tell 14 = .ok (.invokevirtual 49, 3) := by decide +kernel
theorem dX10_tell_17 : decode cX10_tell 17 = .ok (.ireturn, 1) := by decide +kernel
theorem dX10_tell_18 : decode cX10_tell 18 = .ok (.aload_n 0, 1) := by decide +kernel
theorem dX10_tell_19 : decode cX10_tell 19 = .ok (.getfield 7, 3) := by decide +kernel
theorem dX10_tell_22 : decode cX10_tell 22 = .ok (.bipush 93, 2) := by decide +kernel
theorem dX10_tell_24 : decode cX10_tell 24 = .ok (.aload_n 0, 1) := by decide +kernel
theorem dX10_tell_25 : decode cX10_tell 25 = .ok (.getfield 7, 3) := by decide +kernel
theorem dX10_tell_28 : decode cX10_tell 28 = .ok (.iconst 4, 1) := by decide +kernel
theorem dX10_tell_29 : decode cX10_tell 29 = .ok (.iaload, 1) := by decide +kernel
theorem dX10_tell_30 : decode cX10_tell 30 = .ok (.iadd, 1) := by decide +kernel
theorem dX10_tell_31 : decode cX10_tell 31 = .ok (.iload_n 1, 1) := by decide +kernel
theorem dX10_tell_32 : decode cX10_tell 32 = .ok (.iastore, 1) := by decide +kernel
theorem dX10_tell_33 : decode cX10_tell 33 = .ok (.aload_n 0, 1) := by decide +kernel
theorem dX10_tell_34 : decode cX10_tell 34 = .ok (.getfield 7, 3) := by decide +kernel
theorem dX10_tell_37 : decode cX10_tell 37 = .ok (.iconst 4, 1) := by decide +kernel
theorem dX10_tell_38 : decode cX10_tell 38 = .ok (.dup2, 1) := by decide +kernel
theorem dX10_tell_39 : decode cX10_tell 39 = .ok (.iaload, 1) := by decide +kernel
theorem dX10_tell_40 : decode cX10_tell 40 = .ok (.iconst 1, 1) := by decide +kernel
theorem dX10_tell_41 : decode cX10_tell 41 = .ok (.iadd, 1) := by decide +kernel
theorem dX10_tell_42 : decode cX10_tell 42 = .ok (.iastore, 1) := by decide +kernel
theorem dX10_tell_43 : decode cX10_tell 43 = .ok (.aload_n 0, 1) := by decide +kernel
theorem dX10_tell_44 : decode cX10_tell 44 = .ok (.getfield 7, 3) := by decide +kernel
theorem dX10_tell_47 : decode cX10_tell 47 = .ok (.iconst 4, 1) := by decide +kernel
theorem dX10_tell_48 : decode cX10_tell 48 = .ok (.iaload, 1) := by decide +kernel
theorem dX10_tell_49 : decode cX10_tell 49 = .ok (.ireturn, 1) := by decide +kernel
theorem dX10_check_0 : decode cX10_check 0 = .ok (.aload_n 0, 1) := by decide +kernel
theorem dX10_check_1 : decode cX10_check 1 = .ok (.getfield 7, 3) := by decide +kernel
theorem dX10_check_4 : decode cX10_check 4 = .ok (.iconst 4, 1) := by decide +kernel
theorem dX10_check_5 : decode cX10_check 5 = .ok (.iaload, 1) := by decide +kernel
theorem dX10_check_6 : decode cX10_check 6 = .ok (.istore_n 1, 1) := by decide +kernel
theorem dX10_check_7 : decode cX10_check 7 = .ok (.aload_n 0, 1) := by decide +kernel
theorem dX10_check_8 : decode cX10_check 8 = .ok (.getfield 7, 3) := by decide +kernel
theorem dX10_check_11 : decode cX10_check 11 = .ok (.iconst 4, 1) := by decide +kernel
theorem dX10_check_12 : decode cX10_check 12 = .ok (.iconst 0, 1) := by decide +kernel
theorem dX10_check_13 : decode cX10_check 13 = .ok (.iastore, 1) := by decide +kernel
theorem dX10_check_14 : decode cX10_check 14 = .ok (.aload_n 0, 1) := by decide +kernel
theorem dX10_check_15 : decode cX10_check 15 = .ok (.aload_n 0, 1) := by decide +kernel
theorem dX10_check_16 : decode cX10_check 16 = .ok (.getfield 7, 3) := by decide +kernel
theorem dX10_check_19 : decode cX10_check 19 = .ok (.aload_n 0, 1) := by decide +kernel
theorem dX10_check_20 : decode cX10_check 20 = .ok (.getfield 16, 3) := by decide +kernel
theorem dX10_check_23 : decode cX10_check 23 = .ok (.invokevirtual 158, 3) := by decide +kernel
theorem dX10_check_26 : decode cX10_check 26 = .ok (.iconst 0, 1) := by decide +kernel
theorem dX10_check_27 : decode cX10_check 27 = .ok (.istore_n 2, 1) := by decide +kernel
theorem dX10_check_28 : decode cX10_check 28 = .ok (.iconst 1, 1) := by decide +kernel
theorem dX10_check_29 : decode cX10_check 29 = .ok (.istore_n 3, 1) := by decide +kernel
theorem dX10_check_30 : decode cX10_check 30 = .ok (.iload_n 2, 1) := by decide +kernel
theorem dX10_check_31 : decode cX10_check 31 = .ok (.iload_n 1, 1) := by decide +kernel
theorem dX10_check_32 : decode cX10_check 32 = .ok (.if_icmp .ge 72, 3) := by decide +kernel
theorem dX10_check_35 : decode cX10_check 35 = .ok (.iload_n 3, 1) := by decide +kernel
theorem dX10_check_36 : decode cX10_check 36 = .ok (.ifCond .eq 68, 3) := by decide +kernel
theorem dX10_check_39 : decode cX10_check 39 = .ok (.aload_n 0, 1) := by decide +kernel
theorem dX10_check_40 : decode cX10_check 40 = .ok (.getfield 7, 3) := by decide +kernel
theorem dX10_check_43 : decode cX10_check 43 = .ok (.iconst 2, 1) := by decide +kernel
theorem dX10_check_44 : decode cX10_check 44 = .ok (.iaload, 1) := by decide +kernel
theorem dX10_check_45 : decode cX10_check 45 = .ok (.ifCond .le 7, 3) := by decide +kernel
theorem dX10_check_48 : decode cX10_check 48 = .ok (.iconst 1, 1) := by decide +kernel
theorem dX10_check_49 : decode cX10_check 49 = .ok (.goto 4, 3) := by decide +kernel
theorem dX10_check_52 : decode cX10_check 52 = .ok (.iconst 0, 1) := by decide +kernel
theorem dX10_check_53 : decode cX10_check 53 = .ok (.istore_n 3, 1) := by decide +kernel
theorem dX10_check_54 : decode cX10_check 54 = .ok (.iload_n 3, 1) := by decide +kernel
theorem dX10_check_55 : decode cX10_check 55 = .ok (.ifCond .eq 34, 3) := by decide +kernel
theorem dX10_check_58 : decode cX10_check 58 = .ok (.aload_n 0, 1) := by decide +kernel
theorem dX10_check_59 : decode cX10_check 59 = .ok (.iconst 0, 1) := by decide +kernel
theorem dX10_check_60 : decode cX10_check 60 = .ok (.invokevirtual 165, 3) := by decide +kernel
theorem dX10_check_63 : decode cX10_check 63 = .ok (.ifCond .lt 24, 3) := by decide +kernel
theorem dX10_check_66 : decode cX10_check 66 = .ok (.aload_n 0, 1) := by decide +kernel
theorem dX10_check_67 : decode cX10_check 67 = .ok (.iconst 0, 1) := by decide +kernel
theorem dX10_check_68 : decode cX10_check 68 = .ok (.invokevirtual 75, 3) := by decide +kernel
theorem dX10_check_71 : decode cX10_check 71 = .ok (.aload_n 0, 1) := by decide +kernel
theorem dX10_check_72 : decode cX10_check 72 = .ok (.getfield 7, 3) := by decide +kernel
theorem dX10_check_75 : decode cX10_check 75 = .ok (.bipush 93, 2) := by decide +kernel
theorem dX10_check_77 : decode cX10_check 77 = .ok (.iload_n 2, 1) := by decide +kernel
theorem dX10_check_78 : decode cX10_check 78 = .ok (.iadd, 1) := by decide +kernel
theorem dX10_check_79 : decode cX10_check 79 = .ok (.iaload, 1) := by decide +kernel
theorem dX10_check_80 : decode cX10_check 80 = .ok (.if_icmp .ne 7, 3) := by decide +kernel
theorem dX10_check_83 : decode cX10_check 83 = .ok (.iconst 1, 1) := by decide +kernel
theorem dX10_check_84 : decode cX10_check 84 = .ok (.goto 4, 3) := by decide +kernel
theorem dX10_check_87 : decode cX10_check 87 = .ok (.iconst 0, 1) := by decide +kernel
theorem dX10_check_88 : decode cX10_check 88 = .ok (.istore_n 3, 1) := by decide +kernel
theorem dX10_check_89 : decode cX10_check 89 = .ok (.iload_n 2, 1) := by decide +kernel
theorem dX10_check_90 : decode cX10_check 90 = .ok (.iload_n 3, 1) := by decide +kernel
theorem dX10_check_91 : decode cX10_check 91 = .ok (.ifCond .eq 7, 3) := by decide +kernel
theorem dX10_check_94 : decode cX10_check 94 = .ok (.iconst 1, 1) := by decide +kernel
theorem dX10_check_95 : decode cX10_check 95 = .ok (.goto 4, 3) := by decide +kernel
theorem dX10_check_98 : decode cX10_check 98 = .ok (.iconst 0, 1) := by decide +kernel
theorem dX10_check_99 : decode cX10_check 99 = .ok (.iadd, 1) := by decide +kernel
theorem dX10_check_100 : decode cX10_check 100 = .ok (.istore_n 2, 1) := by decide +kernel
theorem dX10_check_101 : decode cX10_check 101 = .ok (.goto (-71), 3) := by decide +kernel
theorem dX10_check_104 : decode cX10_check 104 = .ok (.aload_n 0, 1) := by decide +kernel
theorem dX10_check_105 : decode cX10_check 105 = .ok (.aload_n 0, 1) := by decide +kernel
theorem dX10_check_106 : decode cX10_check 106 = .ok (.getfield 16, 3) := by decide +kernel
theorem dX10_check_109 : decode cX10_check 109 = .ok (.aload_n 0, 1) := by decide +kernel
theorem dX10_check_110 : decode cX10_check 110 = .ok (.getfield 7, 3) := by decide +kernel
theorem dX10_check_113 : decode cX10_check 113 = .ok (.invokevirtual 158, 3) := by decide +kernel
theorem dX10_check_116 : decode cX10_check 116 = .ok (.iload_n 3, 1) := by decide +kernel
theorem dX10_check_117 : decode cX10_check 117 = .ok (.ifCond .eq 7, 3) := by decide +kernel
theorem dX10_check_120 : decode cX10_check 120 = .ok (.iconst 0, 1) := by decide +kernel
theorem dX10_check_121 : decode cX10_check 121 = .ok (.goto 6, 3) := by decide +kernel
theorem dX10_check_124 : decode cX10_check 124 = .ok (.iconst 1, 1) := by decide +kernel
theorem dX10_check_125 : decode cX10_check 125 = .ok (.iload_n 2, 1) := by decide +kernel
theorem dX10_check_126 : decode cX10_check 126 = .ok (.iadd, 1) := by decide +kernel
theorem dX10_check_127 : decode cX10_check 127 = .ok (.ireturn, 1) := by decide +kernel
theorem dX10_sumOf_0 : decode cX10_sumOf 0 = .ok (.iconst 0, 1) := by decide +kernel
theorem dX10_sumOf_1 : decode cX10_sumOf 1 = .ok (.istore_n 2, 1) := by decide +kernel
theorem dX10_sumOf_2 : decode cX10_sumOf 2 = .ok (.iconst 0, 1) := by decide +kernel
theorem dX10_sumOf_3 : decode cX10_sumOf 3 = .ok (.istore_n 3, 1) := by decide +kernel
theorem dX10_sumOf_4 : decode cX10_sumOf 4 = .ok (.iload_n 3, 1) := by decide +kernel
theorem dX10_sumOf_5 : decode cX10_sumOf 5 = .ok (.aload_n 0, 1) := by decide +kernel
theorem dX10_sumOf_6 : decode cX10_sumOf 6 = .ok (.getfield 7, 3) := by decide +kernel
theorem dX10_sumOf_9 : decode cX10_sumOf 9 = .ok (.iconst 2, 1) := by decide +kernel
theorem dX10_sumOf_10 : decode cX10_sumOf 10 = .ok (.iaload, 1) := by decide +kernel
theorem dX10_sumOf_11 : decode cX10_sumOf 11 = .ok (.if_icmp .ge 18, 3) := by decide +kernel
theorem dX10_sumOf_14 : decode cX10_sumOf 14 = .ok (.iload_n 2, 1) := by decide +kernel
theorem dX10_sumOf_15 : decode cX10_sumOf 15 = .ok (.aload_n 0, 1) := by decide +kernel
theorem dX10_sumOf_16 : decode cX10_sumOf 16 = .ok (.iload_n 3, 1) := by decide +kernel
theorem dX10_sumOf_17 : decode cX10_sumOf 17 = .ok (.iload_n 1, 1) := by decide +kernel
theorem dX10_sumOf_18 : decode cX10_sumOf 18 = .ok (.invokevirtual 78, 3) := by decide +kernel
theorem dX10_sumOf_21 : decode cX10_sumOf 21 = .ok (.iadd, 1) := by decide +kernel
theorem dX10_sumOf_22 : decode cX10_sumOf 22 = .ok (.istore_n 2, 1) := by decide +kernel
theorem dX10_sumOf_23 : decode cX10_sumOf 23 = .ok (.iinc 3 1, 3) := by decide +kernel
theorem dX10_sumOf_26 : decode cX10_sumOf 26 = .ok (.goto (-22), 3) := by decide +kernel
theorem dX10_sumOf_29 : decode cX10_sumOf 29 = .ok (.iload_n 2, 1) := by decide +kernel
theorem dX10_sumOf_30 : decode cX10_sumOf 30 = .ok (.ireturn, 1) := by decide +kernel
theorem dX10_count_0 : decode cX10_count 0 = .ok (.iload_n 1, 1) := by decide +kernel
theorem dX10_count_1 : decode cX10_count 1 = .ok (.tableswitch 99 0 7 #[47, 54, 61, 67, 73, 80, 87, 92], 47) := by decide +kernel
theorem dX10_count_48 : decode cX10_count 48 = .ok (.aload_n 0, 1) := by decide +kernel
theorem dX10_count_49 : decode cX10_count 49 = .ok (.getfield 7, 3) := by decide +kernel
theorem dX10_count_52 : decode cX10_count 52 = .ok (.iconst 2, 1) := by decide +kernel
theorem dX10_count_53 : decode cX10_count 53 = .ok (.iaload, 1) := by decide +kernel
theorem dX10_count_54 : decode cX10_count 54 = .ok (.ireturn, 1) := by decide +kernel
theorem dX10_count_55 : decode cX10_count 55 = .ok (.aload_n 0, 1) := by decide +kernel
theorem dX10_count_56 : decode cX10_count 56 = .ok (.getfield 7, 3) := by decide +kernel
theorem dX10_count_59 : decode cX10_count 59 = .ok (.iconst 0, 1) := by decide +kernel
theorem dX10_count_60 : decode cX10_count 60 = .ok (.iaload, 1) := by decide +kernel
theorem dX10_count_61 : decode cX10_count 61 = .ok (.ireturn, 1) := by decide +kernel
theorem dX10_count_62 : decode cX10_count 62 = .ok (.aload_n 0, 1) := by decide +kernel
theorem dX10_count_63 : decode cX10_count 63 = .ok (.iconst 3, 1) := by decide +kernel
theorem dX10_count_64 : decode cX10_count 64 = .ok (.invokevirtual 248, 3) := by decide +kernel
theorem dX10_count_67 : decode cX10_count 67 = .ok (.ireturn, 1) := by decide +kernel
theorem dX10_count_68 : decode cX10_count 68 = .ok (.aload_n 0, 1) := by decide +kernel
theorem dX10_count_69 : decode cX10_count 69 = .ok (.iconst 4, 1) := by decide +kernel
theorem dX10_count_70 : decode cX10_count 70 = .ok (.invokevirtual 248, 3) := by decide +kernel
theorem dX10_count_73 : decode cX10_count 73 = .ok (.ireturn, 1) := by decide +kernel
theorem dX10_count_74 : decode cX10_count 74 = .ok (.aload_n 0, 1) := by decide +kernel
theorem dX10_count_75 : decode cX10_count 75 = .ok (.getfield 7, 3) := by decide +kernel
theorem dX10_count_78 : decode cX10_count 78 = .ok (.iconst 3, 1) := by decide +kernel
theorem dX10_count_79 : decode cX10_count 79 = .ok (.iaload, 1) := by decide +kernel
theorem dX10_count_80 : decode cX10_count 80 = .ok (.ireturn, 1) := by decide +kernel
theorem dX10_count_81 : decode cX10_count 81 = .ok (.aload_n 0, 1) := by decide +kernel
theorem dX10_count_82 : decode cX10_count 82 = .ok (.getfield 7, 3) := by decide +kernel
theorem dX10_count_85 : decode cX10_count 85 = .ok (.iconst 4, 1) := by decide +kernel
theorem dX10_count_86 : decode cX10_count 86 = .ok (.iaload, 1) := by decide +kernel
theorem dX10_count_87 : decode cX10_count 87 = .ok (.ireturn, 1) := by decide +kernel
theorem dX10_count_88 : decode cX10_count 88 = .ok (.aload_n 0, 1) := by decide +kernel
theorem dX10_count_89 : decode cX10_count 89 = .ok (.getfield 212, 3) := by decide +kernel
theorem dX10_count_92 : decode cX10_count 92 = .ok (.ireturn, 1) := by decide +kernel
theorem dX10_count_93 : decode cX10_count 93 = .ok (.aload_n 0, 1) := by decide +kernel
theorem dX10_count_94 : decode cX10_count 94 = .ok (.getfield 7, 3) := by decide +kernel
theorem dX10_count_97 : decode cX10_count 97 = .ok (.iconst 1, 1) := by decide +kernel
theorem dX10_count_98 : decode cX10_count 98 = .ok (.iaload, 1) := by decide +kernel
theorem dX10_count_99 : decode cX10_count 99 = .ok (.ireturn, 1) := by decide +kernel
theorem dX10_count_100 : decode cX10_count 100 = .ok (.aload_n 0, 1) := by decide +kernel
theorem dX10_count_101 : decode cX10_count 101 = .ok (.ldc 48, 2) := by decide +kernel
theorem dX10_count_103 : decode cX10_count 103 = .ok (.invokevirtual 49, 3) := by decide +kernel
theorem dX10_count_106 : decode cX10_count 106 = .ok (.ireturn, 1) := by decide +kernel
theorem dX10_told_0 : decode cX10_told 0 = .ok (.iload_n 1, 1) := by decide +kernel
theorem dX10_told_1 : decode cX10_told 1 = .ok (.iconst 1, 1) := by decide +kernel
theorem dX10_told_2 : decode cX10_told 2 = .ok (.iconst 5, 1) := by decide +kernel
theorem dX10_told_3 : decode cX10_told 3 = .ok (.invokestatic 44, 3) := by decide +kernel
theorem dX10_told_6 : decode cX10_told 6 = .ok (.ifCond .eq 12, 3) := by decide +kernel
theorem dX10_told_9 : decode cX10_told 9 = .ok (.aload_n 0, 1) := by decide +kernel
theorem dX10_told_10 : decode cX10_told 10 = .ok (.getfield 22, 3) := by decide +kernel
theorem dX10_told_13 : decode cX10_told 13 = .ok (.iload_n 1, 1) := by decide +kernel
theorem dX10_told_14 : decode cX10_told 14 = .ok (.iaload, 1) := by decide +kernel
theorem dX10_told_15 : decode cX10_told 15 = .ok (.goto 9, 3) := by decide +kernel
theorem dX10_told_18 : decode cX10_told 18 = .ok (.aload_n 0, 1) := by decide +kernel
theorem dX10_told_19 : decode cX10_told 19 = .ok (.ldc 48, 2) := by decide +kernel
theorem dX10_told_21 : decode cX10_told 21 = .ok (.invokevirtual 49, 3) := by decide +kernel
theorem dX10_told_24 : decode cX10_told 24 = .ok (.ireturn, 1) := by decide +kernel
