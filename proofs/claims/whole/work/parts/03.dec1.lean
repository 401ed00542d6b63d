theorem dX9_init_0 : decode cX9_init 0 = .ok (.aload_n 0, 1) := by decide +kernel
theorem dX9_init_1 : decode cX9_init 1 = .ok (.invokespecial 1, 3) := by decide +kernel
theorem dX9_init_4 : decode cX9_init 4 = .ok (.aload_n 0, 1) := by decide +kernel
theorem dX9_init_5 : decode cX9_init 5 = .ok (.new 7, 3) := by decide +kernel
theorem dX9_init_8 : decode cX9_init 8 = .ok (.dup, 1) := by decide +kernel
theorem dX9_init_9 : decode cX9_init 9 = .ok (.invokespecial 9, 3) := by decide +kernel
theorem dX9_init_12 : decode cX9_init 12 = .ok (.putfield 10, 3) := by decide +kernel
theorem dX9_init_15 : decode cX9_init 15 = .ok (.aload_n 0, 1) := by decide +kernel
theorem dX9_init_16 : decode cX9_init 16 = .ok (.new 7, 3) := by decide +kernel
theorem dX9_init_19 : decode cX9_init 19 = .ok (.dup, 1) := by decide +kernel
theorem dX9_init_20 : decode cX9_init 20 = .ok (.invokespecial 9, 3) := by decide +kernel
theorem dX9_init_23 : decode cX9_init 23 = .ok (.putfield 16, 3) := by decide +kernel
theorem dX9_init_26 : decode cX9_init 26 = .ok (.aload_n 0, 1) := by decide +kernel
theorem dX9_init_27 : decode cX9_init 27 = .ok (.iconst 0, 1) := by decide +kernel
theorem dX9_init_28 : decode cX9_init 28 = .ok (.putfield 19, 3) := by decide +kernel
theorem dX9_init_31 : decode cX9_init 31 = .ok (.aload_n 0, 1) := by decide +kernel
theorem dX9_init_32 : decode cX9_init 32 = .ok (.new 23, 3) := by decide +kernel
theorem dX9_init_35 : decode cX9_init 35 = .ok (.dup, 1) := by decide +kernel
theorem dX9_init_36 : decode cX9_init 36 = .ok (.invokespecial 25, 3) := by decide +kernel
theorem dX9_init_39 : decode cX9_init 39 = .ok (.putfield 26, 3) := by decide +kernel
theorem dX9_init_42 : decode cX9_init 42 = .ok (.aload_n 0, 1) := by decide +kernel
theorem dX9_init_43 : decode cX9_init 43 = .ok (.bipush 6, 2) := by decide +kernel
theorem dX9_init_45 : decode cX9_init 45 = .ok (.anewarray 30, 3) := by decide +kernel
theorem dX9_init_48 : decode cX9_init 48 = .ok (.putfield 32, 3) := by decide +kernel
theorem dX9_init_51 : decode cX9_init 51 = .ok (.iconst 0, 1) := by decide +kernel
theorem dX9_init_52 : decode cX9_init 52 = .ok (.istore_n 1, 1) := by decide +kernel
theorem dX9_init_53 : decode cX9_init 53 = .ok (.iload_n 1, 1) := by decide +kernel
theorem dX9_init_54 : decode cX9_init 54 = .ok (.bipush 6, 2) := by decide +kernel
theorem dX9_init_56 : decode cX9_init 56 = .ok (.if_icmp .ge 35, 3) := by decide +kernel
theorem dX9_init_59 : decode cX9_init 59 = .ok (.aload_n 0, 1) := by decide +kernel
theorem dX9_init_60 : decode cX9_init 60 = .ok (.getfield 32, 3) := by decide +kernel
theorem dX9_init_63 : decode cX9_init 63 = .ok (.iload_n 1, 1) := by decide +kernel
theorem dX9_init_64 : decode cX9_init 64 = .ok (.new 30, 3) := by decide +kernel
theorem dX9_init_67 : decode cX9_init 67 = .ok (.dup, 1) := by decide +kernel
theorem dX9_init_68 : decode cX9_init 68 = .ok (.aload_n 0, 1) := by decide +kernel
theorem dX9_init_69 : decode cX9_init 69 = .ok (.getfield 10, 3) := by decide +kernel
theorem dX9_init_72 : decode cX9_init 72 = .ok (.aload_n 0, 1) := by decide +kernel
theorem dX9_init_73 : decode cX9_init 73 = .ok (.getfield 10, 3) := by decide +kernel
theorem dX9_init_76 : decode cX9_init 76 = .ok (.getfield 36, 3) := by decide +kernel
theorem dX9_init_79 : decode cX9_init 79 = .ok (.iload_n 1, 1) := by decide +kernel
theorem dX9_init_80 : decode cX9_init 80 = .ok (.aaload, 1) := by decide +kernel
theorem dX9_init_81 : decode cX9_init 81 = .ok (.invokespecial 40, 3) := by decide +kernel
theorem dX9_init_84 : decode cX9_init 84 = .ok (.aastore, 1) := by decide +kernel
theorem dX9_init_85 : decode cX9_init 85 = .ok (.iinc 1 1, 3) := by decide +kernel
theorem dX9_init_88 : decode cX9_init 88 = .ok (.goto (-35), 3) := by decide +kernel
theorem dX9_init_91 : decode cX9_init 91 = .ok (.aload_n 0, 1) := by decide +kernel
theorem dX9_init_92 : decode cX9_init 92 = .ok (.bipush 30, 2) := by decide +kernel
theorem dX9_init_94 : decode cX9_init 94 = .ok (.newarray .int, 2) := by decide +kernel
theorem dX9_init_96 : decode cX9_init 96 = .ok (.putfield 43, 3) := by decide +kernel
theorem dX9_init_99 : decode cX9_init 99 = .ok (.aload_n 0, 1) := by decide +kernel
theorem dX9_init_100 : decode cX9_init 100 = .ok (.new 47, 3) := by decide +kernel
theorem dX9_init_103 : decode cX9_init 103 = .ok (.dup, 1) := by decide +kernel
theorem dX9_init_104 : decode cX9_init 104 = .ok (.aload_n 0, 1) := by decide +kernel
theorem dX9_init_105 : decode cX9_init 105 = .ok (.getfield 32, 3) := by decide +kernel
theorem dX9_init_108 : decode cX9_init 108 = .ok (.aload_n 0, 1) := by decide +kernel
theorem dX9_init_109 : decode cX9_init 109 = .ok (.getfield 26, 3) := by decide +kernel
theorem dX9_init_112 : decode cX9_init 112 = .ok (.invokespecial 49, 3) := by decide +kernel
theorem dX9_init_115 : decode cX9_init 115 = .ok (.putfield 52, 3) := by decide +kernel
theorem dX9_init_118 : decode cX9_init 118 = .ok (.aload_n 0, 1) := by decide +kernel
theorem dX9_init_119 : decode cX9_init 119 = .ok (.new 56, 3) := by decide +kernel
theorem dX9_init_122 : decode cX9_init 122 = .ok (.dup, 1) := by decide +kernel
theorem dX9_init_123 : decode cX9_init 123 = .ok (.invokespecial 58, 3) := by decide +kernel
theorem dX9_init_126 : decode cX9_init 126 = .ok (.putfield 59, 3) := by decide +kernel
theorem dX9_init_129 : decode cX9_init 129 = .ok (.aload_n 0, 1) := by decide +kernel
theorem dX9_init_130 : decode cX9_init 130 = .ok (.new 63, 3) := by decide +kernel
theorem dX9_init_133 : decode cX9_init 133 = .ok (.dup, 1) := by decide +kernel
theorem dX9_init_134 : decode cX9_init 134 = .ok (.invokespecial 65, 3) := by decide +kernel
theorem dX9_init_137 : decode cX9_init 137 = .ok (.putfield 66, 3) := by decide +kernel
theorem dX9_init_140 : decode cX9_init 140 = .ok (.aload_n 0, 1) := by decide +kernel
theorem dX9_init_141 : decode cX9_init 141 = .ok (.iconst 4, 1) := by decide +kernel
theorem dX9_init_142 : decode cX9_init 142 = .ok (.anewarray 70, 3) := by decide +kernel
theorem dX9_init_145 : decode cX9_init 145 = .ok (.putfield 72, 3) := by decide +kernel
theorem dX9_init_148 : decode cX9_init 148 = .ok (.iconst 0, 1) := by decide +kernel
theorem dX9_init_149 : decode cX9_init 149 = .ok (.istore_n 1, 1) := by decide +kernel
theorem dX9_init_150 : decode cX9_init 150 = .ok (.iload_n 1, 1) := by decide +kernel
theorem dX9_init_151 : decode cX9_init 151 = .ok (.iconst 4, 1) := by decide +kernel
theorem dX9_init_152 : decode cX9_init 152 = .ok (.if_icmp .ge 22, 3) := by decide +kernel
theorem dX9_init_155 : decode cX9_init 155 = .ok (.aload_n 0, 1) := by decide +kernel
theorem dX9_init_156 : decode cX9_init 156 = .ok (.getfield 72, 3) := by decide +kernel
theorem dX9_init_159 : decode cX9_init 159 = .ok (.iload_n 1, 1) := by decide +kernel
theorem dX9_init_160 : decode cX9_init 160 = .ok (.new 70, 3) := by decide +kernel
theorem dX9_init_163 : decode cX9_init 163 = .ok (.dup, 1) := by decide +kernel
theorem dX9_init_164 : decode cX9_init 164 = .ok (.invokespecial 76, 3) := by decide +kernel
theorem dX9_init_167 : decode cX9_init 167 = .ok (.aastore, 1) := by decide +kernel
theorem dX9_init_168 : decode cX9_init 168 = .ok (.iinc 1 1, 3) := by decide +kernel
theorem dX9_init_171 : decode cX9_init 171 = .ok (.goto (-21), 3) := by decide +kernel
theorem dX9_init_174 : decode cX9_init 174 = .ok (.aload_n 0, 1) := by decide +kernel
theorem dX9_init_175 : decode cX9_init 175 = .ok (.bipush 6, 2) := by decide +kernel
theorem dX9_init_177 : decode cX9_init 177 = .ok (.newarray .int, 2) := by decide +kernel
theorem dX9_init_179 : decode cX9_init 179 = .ok (.putfield 77, 3) := by decide +kernel
theorem dX9_init_182 : decode cX9_init 182 = .ok (.return_, 1) := by decide +kernel
theorem dX9_set_0 : decode cX9_set 0 = .ok (.iload_n 2, 1) := by decide +kernel
theorem dX9_set_1 : decode cX9_set 1 = .ok (.ifCond .lt 11, 3) := by decide +kernel
theorem dX9_set_4 : decode cX9_set 4 = .ok (.iload_n 2, 1) := by decide +kernel
theorem dX9_set_5 : decode cX9_set 5 = .ok (.iload_n 1, 1) := by decide +kernel
theorem dX9_set_6 : decode cX9_set 6 = .ok (.invokestatic 80, 3) := by decide +kernel
theorem dX9_set_9 : decode cX9_set 9 = .ok (.if_icmp .le 9, 3) := by decide +kernel
theorem dX9_set_12 : decode cX9_set 12 = .ok (.aload_n 0, 1) := by decide +kernel
theorem dX9_set_13 : decode cX9_set 13 = .ok (.iconst 1, 1) := by decide +kernel
theorem dX9_set_14 : decode cX9_set 14 = .ok (.invokevirtual 84, 3) := by decide +kernel
theorem dX9_set_17 : decode cX9_set 17 = .ok (.ireturn, 1) := by decide +kernel
theorem dX9_set_18 : decode cX9_set 18 = .ok (.aload_n 0, 1) := by decide +kernel
theorem dX9_set_19 : decode cX9_set 19 = .ok (.getfield 10, 3) := by decide +kernel
theorem dX9_set_22 : decode cX9_set 22 = .ok (.getfield 87, 3) := by decide +kernel
theorem dX9_set_25 : decode cX9_set 25 = .ok (.iload_n 1, 1) := by decide +kernel
theorem dX9_set_26 : decode cX9_set 26 = .ok (.invokevirtual 90, 3) := by decide +kernel
theorem dX9_set_29 : decode cX9_set 29 = .ok (.istore_n 3, 1) := by decide +kernel
theorem dX9_set_30 : decode cX9_set 30 = .ok (.aload_n 0, 1) := by decide +kernel
theorem dX9_set_31 : decode cX9_set 31 = .ok (.getfield 10, 3) := by decide +kernel
theorem dX9_set_34 : decode cX9_set 34 = .ok (.getfield 87, 3) := by decide +kernel
theorem dX9_set_37 : decode cX9_set 37 = .ok (.iload_n 1, 1) := by decide +kernel
theorem dX9_set_38 : decode cX9_set 38 = .ok (.iload_n 2, 1) := by decide +kernel
theorem dX9_set_39 : decode cX9_set 39 = .ok (.invokevirtual 93, 3) := by decide +kernel
theorem dX9_set_42 : decode cX9_set 42 = .ok (.iload_n 3, 1) := by decide +kernel
theorem dX9_set_43 : decode cX9_set 43 = .ok (.ireturn, 1) := by decide +kernel
theorem dX9_machine_0 : decode cX9_machine 0 = .ok (.iload_n 1, 1) := by decide +kernel
theorem dX9_machine_1 : decode cX9_machine 1 = .ok (.ifCond .lt 8, 3) := by decide +kernel
theorem dX9_machine_4 : decode cX9_machine 4 = .ok (.iload_n 1, 1) := by decide +kernel
theorem dX9_machine_5 : decode cX9_machine 5 = .ok (.iconst 5, 1) := by decide +kernel
theorem dX9_machine_6 : decode cX9_machine 6 = .ok (.if_icmp .le 9, 3) := by decide +kernel
theorem dX9_machine_9 : decode cX9_machine 9 = .ok (.aload_n 0, 1) := by decide +kernel
theorem dX9_machine_10 : decode cX9_machine 10 = .ok (.iconst 1, 1) := by decide +kernel
theorem dX9_machine_11 : decode cX9_machine 11 = .ok (.invokevirtual 84, 3) := by decide +kernel
theorem dX9_machine_14 : decode cX9_machine 14 = .ok (.ireturn, 1) := by decide +kernel
theorem dX9_machine_15 : decode cX9_machine 15 = .ok (.aload_n 0, 1) := by decide +kernel
theorem dX9_machine_16 : decode cX9_machine 16 = .ok (.getfield 10, 3) := by decide +kernel
theorem dX9_machine_19 : decode cX9_machine 19 = .ok (.getfield 87, 3) := by decide +kernel
theorem dX9_machine_22 : decode cX9_machine 22 = .ok (.iload_n 1, 1) := by decide +kernel
theorem dX9_machine_23 : decode cX9_machine 23 = .ok (.invokevirtual 90, 3) := by decide +kernel
theorem dX9_machine_26 : decode cX9_machine 26 = .ok (.ireturn, 1) := by decide +kernel
theorem dX9_cloth_0 : decode cX9_cloth 0 = .ok (.iload_n 1, 1) := by decide +kernel
theorem dX9_cloth_1 : decode cX9_cloth 1 = .ok (.invokestatic 97, 3) := by decide +kernel
theorem dX9_cloth_4 : decode cX9_cloth 4 = .ok (.ifCond .eq 10, 3) := by decide +kernel
theorem dX9_cloth_7 : decode cX9_cloth 7 = .ok (.iload_n 2, 1) := by decide +kernel
theorem dX9_cloth_8 : decode cX9_cloth 8 = .ok (.invokestatic 101, 3) := by decide +kernel
theorem dX9_cloth_11 : decode cX9_cloth 11 = .ok (.ifCond .ne 9, 3) := by decide +kernel
theorem dX9_cloth_14 : decode cX9_cloth 14 = .ok (.aload_n 0, 1) := by decide +kernel
theorem dX9_cloth_15 : decode cX9_cloth 15 = .ok (.iconst 1, 1) := by decide +kernel
theorem dX9_cloth_16 : decode cX9_cloth 16 = .ok (.invokevirtual 84, 3) := by decide +kernel
theorem dX9_cloth_19 : decode cX9_cloth 19 = .ok (.ireturn, 1) := by decide +kernel
theorem dX9_cloth_20 : decode cX9_cloth 20 = .ok (.aload_n 0, 1) := by decide +kernel
theorem dX9_cloth_21 : decode cX9_cloth 21 = .ok (.getfield 10, 3) := by decide +kernel
theorem dX9_cloth_24 : decode cX9_cloth 24 = .ok (.getfield 104, 3) := by decide +kernel
theorem dX9_cloth_27 : decode cX9_cloth 27 = .ok (.bipush 6, 2) := by decide +kernel
theorem dX9_cloth_29 : decode cX9_cloth 29 = .ok (.if_icmp .lt 9, 3) := by decide +kernel
theorem dX9_cloth_32 : decode cX9_cloth 32 = .ok (.aload_n 0, 1) := by decide +kernel
theorem dX9_cloth_33 : decode cX9_cloth 33 = .ok (.iconst 4, 1) := by decide +kernel
theorem dX9_cloth_34 : decode cX9_cloth 34 = .ok (.invokevirtual 84, 3) := by decide +kernel
theorem dX9_cloth_37 : decode cX9_cloth 37 = .ok (.ireturn, 1) := by decide +kernel
theorem dX9_cloth_38 : decode cX9_cloth 38 = .ok (.aload_n 0, 1) := by decide +kernel
theorem dX9_cloth_39 : decode cX9_cloth 39 = .ok (.getfield 10, 3) := by decide +kernel
theorem dX9_cloth_42 : decode cX9_cloth 42 = .ok (.getfield 104, 3) := by decide +kernel
theorem dX9_cloth_45 : decode cX9_cloth 45 = .ok (.istore_n 3, 1) := by decide +kernel
theorem dX9_cloth_46 : decode cX9_cloth 46 = .ok (.aload_n 0, 1) := by decide +kernel
theorem dX9_cloth_47 : decode cX9_cloth 47 = .ok (.getfield 10, 3) := by decide +kernel
theorem dX9_cloth_50 : decode cX9_cloth 50 = .ok (.getfield 36, 3) := by decide +kernel
theorem dX9_cloth_53 : decode cX9_cloth 53 = .ok (.iload_n 3, 1) := by decide +kernel
theorem dX9_cloth_54 : decode cX9_cloth 54 = .ok (.aaload, 1) := by decide +kernel
theorem dX9_cloth_55 : decode cX9_cloth 55 = .ok (.iload_n 1, 1) := by decide +kernel
theorem dX9_cloth_56 : decode cX9_cloth 56 = .ok (.iload_n 2, 1) := by decide +kernel
theorem dX9_cloth_57 : decode cX9_cloth 57 = .ok (.invokevirtual 107, 3) := by decide +kernel
theorem dX9_cloth_60 : decode cX9_cloth 60 = .ok (.aload_n 0, 1) := by decide +kernel
theorem dX9_cloth_61 : decode cX9_cloth 61 = .ok (.getfield 10, 3) := by decide +kernel
theorem dX9_cloth_64 : decode cX9_cloth 64 = .ok (.iload_n 3, 1) := by decide +kernel
theorem dX9_cloth_65 : decode cX9_cloth 65 = .ok (.iconst 1, 1) := by decide +kernel
theorem dX9_cloth_66 : decode cX9_cloth 66 = .ok (.iadd, 1) := by decide +kernel
theorem dX9_cloth_67 : decode cX9_cloth 67 = .ok (.putfield 104, 3) := by decide +kernel
theorem dX9_cloth_70 : decode cX9_cloth 70 = .ok (.iload_n 3, 1) := by decide +kernel
theorem dX9_cloth_71 : decode cX9_cloth 71 = .ok (.ireturn, 1) := by decide +kernel
theorem dX9_ofCloth_0 : decode cX9_ofCloth 0 = .ok (.aload_n 0, 1) := by decide +kernel
theorem dX9_ofCloth_1 : decode cX9_ofCloth 1 = .ok (.iload_n 1, 1) := by decide +kernel
theorem dX9_ofCloth_2 : decode cX9_ofCloth 2 = .ok (.invokevirtual 112, 3) := by decide +kernel
theorem dX9_ofCloth_5 : decode cX9_ofCloth 5 = .ok (.ifCond .eq 13, 3) := by decide +kernel
theorem dX9_ofCloth_8 : decode cX9_ofCloth 8 = .ok (.iload_n 2, 1) := by decide +kernel
theorem dX9_ofCloth_9 : decode cX9_ofCloth 9 = .ok (.ifCond .lt 9, 3) := by decide +kernel
theorem dX9_ofCloth_12 : decode cX9_ofCloth 12 = .ok (.iload_n 2, 1) := by decide +kernel
theorem dX9_ofCloth_13 : decode cX9_ofCloth 13 = .ok (.bipush 8, 2) := by decide +kernel
theorem dX9_ofCloth_15 : decode cX9_ofCloth 15 = .ok (.if_icmp .le 9, 3) := by decide +kernel
theorem dX9_ofCloth_18 : decode cX9_ofCloth 18 = .ok (.aload_n 0, 1) := by decide +kernel
theorem dX9_ofCloth_19 : decode cX9_ofCloth 19 = .ok (.iconst 1, 1) := by decide +kernel
theorem dX9_ofCloth_20 : decode cX9_ofCloth 20 = .ok (.invokevirtual 84, 3) := by decide +kernel
theorem dX9_ofCloth_23 : decode cX9_ofCloth 23 = .ok (.ireturn, 1) := by decide +kernel
theorem dX9_ofCloth_24 : decode cX9_ofCloth 24 = .ok (.aload_n 0, 1) := by decide +kernel
theorem dX9_ofCloth_25 : decode cX9_ofCloth 25 = .ok (.getfield 10, 3) := by decide +kernel
theorem dX9_ofCloth_28 : decode cX9_ofCloth 28 = .ok (.getfield 36, 3) := by decide +kernel
theorem dX9_ofCloth_31 : decode cX9_ofCloth 31 = .ok (.iload_n 1, 1) := by decide +kernel
theorem dX9_ofCloth_32 : decode cX9_ofCloth 32 = .ok (.aaload, 1) := by decide +kernel
theorem dX9_ofCloth_33 : decode cX9_ofCloth 33 = .ok (.astore_n 3, 1) := by decide +kernel
theorem dX9_ofCloth_34 : decode cX9_ofCloth 34 = .ok (.iload_n 2, 1) := by decide +kernel
theorem dX9_ofCloth_35 : decode cX9_ofCloth 35 = .ok (.tableswitch 104 0 7 #[45, 50, 55, 60, 65, 70, 79, 88], 45) := by decide +kernel
theorem dX9_ofCloth_80 : decode cX9_ofCloth 80 = .ok (.aload_n 3, 1) := by decide +kernel
theorem dX9_ofCloth_81 : decode cX9_ofCloth 81 = .ok (.getfield 115, 3) := by decide +kernel
theorem dX9_ofCloth_84 : decode cX9_ofCloth 84 = .ok (.ireturn, 1) := by decide +kernel
theorem dX9_ofCloth_85 : decode cX9_ofCloth 85 = .ok (.aload_n 3, 1) := by decide +kernel
theorem dX9_ofCloth_86 : decode cX9_ofCloth 86 = .ok (.getfield 118, 3) := by decide +kernel
theorem dX9_ofCloth_89 : decode cX9_ofCloth 89 = .ok (.ireturn, 1) := by decide +kernel
theorem dX9_ofCloth_90 : decode cX9_ofCloth 90 = .ok (.aload_n 3, 1) := by decide +kernel
theorem dX9_ofCloth_91 : decode cX9_ofCloth 91 = .ok (.getfield 121, 3) := by decide +kernel
theorem dX9_ofCloth_94 : decode cX9_ofCloth 94 = .ok (.ireturn, 1) := by decide +kernel
theorem dX9_ofCloth_95 : decode cX9_ofCloth 95 = .ok (.aload_n 3, 1) := by decide +kernel
theorem dX9_ofCloth_96 : decode cX9_ofCloth 96 = .ok (.getfield 124, 3) := by decide +kernel
theorem dX9_ofCloth_99 : decode cX9_ofCloth 99 = .ok (.ireturn, 1) := by decide +kernel
theorem dX9_ofCloth_100 : decode cX9_ofCloth 100 = .ok (.aload_n 3, 1) := by decide +kernel
theorem dX9_ofCloth_101 : decode cX9_ofCloth 101 = .ok (.getfield 127, 3) := by decide +kernel
theorem dX9_ofCloth_104 : decode cX9_ofCloth 104 = .ok (.ireturn, 1) := by decide +kernel
theorem dX9_ofCloth_105 : decode cX9_ofCloth 105 = .ok (.aload_n 0, 1) := by decide +kernel
theorem dX9_ofCloth_106 : decode cX9_ofCloth 106 = .ok (.iload_n 1, 1) := by decide +kernel
theorem dX9_ofCloth_107 : decode cX9_ofCloth 107 = .ok (.invokevirtual 130, 3) := by decide +kernel
theorem dX9_ofCloth_110 : decode cX9_ofCloth 110 = .ok (.getfield 134, 3) := by decide +kernel
theorem dX9_ofCloth_113 : decode cX9_ofCloth 113 = .ok (.ireturn, 1) := by decide +kernel
theorem dX9_ofCloth_114 : decode cX9_ofCloth 114 = .ok (.aload_n 0, 1) := by decide +kernel
theorem dX9_ofCloth_115 : decode cX9_ofCloth 115 = .ok (.iload_n 1, 1) := by decide +kernel
theorem dX9_ofCloth_116 : decode cX9_ofCloth 116 = .ok (.invokevirtual 130, 3) := by decide +kernel
theorem dX9_ofCloth_119 : decode cX9_ofCloth 119 = .ok (.getfield 137, 3) := by decide +kernel
theorem dX9_ofCloth_122 : decode cX9_ofCloth 122 = .ok (.ireturn, 1) := by decide +kernel
theorem dX9_ofCloth_123 : decode cX9_ofCloth 123 = .ok (.aload_n 0, 1) := by decide +kernel
theorem dX9_ofCloth_124 : decode cX9_ofCloth 124 = .ok (.iload_n 1, 1) := by decide +kernel
theorem dX9_ofCloth_125 : decode cX9_ofCloth 125 = .ok (.invokevirtual 130, 3) := by decide +kernel
theorem dX9_ofCloth_128 : decode cX9_ofCloth 128 = .ok (.aload_n 0, 1) := by decide +kernel
theorem dX9_ofCloth_129 : decode cX9_ofCloth 129 = .ok (.getfield 10, 3) := by decide +kernel
theorem dX9_ofCloth_132 : decode cX9_ofCloth 132 = .ok (.getfield 87, 3) := by decide +kernel
theorem dX9_ofCloth_135 : decode cX9_ofCloth 135 = .ok (.invokevirtual 140, 3) := by decide +kernel
theorem dX9_ofCloth_138 : decode cX9_ofCloth 138 = .ok (.ireturn, 1) := by decide +kernel
theorem dX9_ofCloth_139 : decode cX9_ofCloth 139 = .ok (.aload_n 0, 1) := by decide +kernel
theorem dX9_ofCloth_140 : decode cX9_ofCloth 140 = .ok (.iload_n 1, 1) := by decide +kernel
theorem dX9_ofCloth_141 : decode cX9_ofCloth 141 = .ok (.invokevirtual 130, 3) := by decide +kernel
theorem dX9_ofCloth_144 : decode cX9_ofCloth 144 = .ok (.aload_n 0, 1) := by decide +kernel
theorem dX9_ofCloth_145 : decode cX9_ofCloth 145 = .ok (.getfield 10, 3) := by decide +kernel
theorem dX9_ofCloth_148 : decode cX9_ofCloth 148 = .ok (.getfield 87, 3) := by decide +kernel
theorem dX9_ofCloth_151 : decode cX9_ofCloth 151 = .ok (.invokevirtual 144, 3) := by decide +kernel
theorem dX9_ofCloth_154 : decode cX9_ofCloth 154 = .ok (.ireturn, 1) := by decide +kernel
theorem dX9_change_0 : decode cX9_change 0 = .ok (.aload_n 0, 1) := by decide +kernel
theorem dX9_change_1 : decode cX9_change 1 = .ok (.iload_n 1, 1) := by decide +kernel
theorem dX9_change_2 : decode cX9_change 2 = .ok (.invokevirtual 112, 3) := by decide +kernel
theorem dX9_change_5 : decode cX9_change 5 = .ok (.ifCond .eq 32, 3) := by decide +kernel
theorem dX9_change_8 : decode cX9_change 8 = .ok (.iload_n 2, 1) := by decide +kernel
theorem dX9_change_9 : decode cX9_change 9 = .ok (.ifCond .lt 28, 3) := by decide +kernel
theorem dX9_change_12 : decode cX9_change 12 = .ok (.iload_n 2, 1) := by decide +kernel
theorem dX9_change_13 : decode cX9_change 13 = .ok (.iconst 2, 1) := by decide +kernel
theorem dX9_change_14 : decode cX9_change 14 = .ok (.if_icmp .gt 23, 3) := by decide +kernel
theorem dX9_change_17 : decode cX9_change 17 = .ok (.iload_n 3, 1) := by decide +kernel
theorem dX9_change_18 : decode cX9_change 18 = .ok (.ifCond .lt 19, 3) := by decide +kernel
theorem dX9_change_21 : decode cX9_change 21 = .ok (.iload_n 3, 1) := by decide +kernel
theorem dX9_change_22 : decode cX9_change 22 = .ok (.iload_n 2, 1) := by decide +kernel
theorem dX9_change_23 : decode cX9_change 23 = .ok (.ifCond .ne 8, 3) := by decide +kernel
theorem dX9_change_26 : decode cX9_change 26 = .ok (.bipush 9, 2) := by decide +kernel
theorem dX9_change_28 : decode cX9_change 28 = .ok (.goto 6, 3) := by decide +kernel
theorem dX9_change_31 : decode cX9_change 31 = .ok (.sipush 9999, 3) := by decide +kernel
theorem dX9_change_34 : decode cX9_change 34 = .ok (.if_icmp .le 9, 3) := by decide +kernel
theorem dX9_change_37 : decode cX9_change 37 = .ok (.aload_n 0, 1) := by decide +kernel
theorem dX9_change_38 : decode cX9_change 38 = .ok (.iconst 1, 1) := by decide +kernel
theorem dX9_change_39 : decode cX9_change 39 = .ok (.invokevirtual 84, 3) := by decide +kernel
theorem dX9_change_42 : decode cX9_change 42 = .ok (.ireturn, 1) := by decide +kernel
theorem dX9_change_43 : decode cX9_change 43 = .ok (.aload_n 0, 1) := by decide +kernel
theorem dX9_change_44 : decode cX9_change 44 = .ok (.getfield 10, 3) := by decide +kernel
theorem dX9_change_47 : decode cX9_change 47 = .ok (.getfield 36, 3) := by decide +kernel
theorem dX9_change_50 : decode cX9_change 50 = .ok (.iload_n 1, 1) := by decide +kernel
theorem dX9_change_51 : decode cX9_change 51 = .ok (.aaload, 1) := by decide +kernel
theorem dX9_change_52 : decode cX9_change 52 = .ok (.astore 4, 2) := by decide +kernel
theorem dX9_change_54 : decode cX9_change 54 = .ok (.iload_n 2, 1) := by decide +kernel
theorem dX9_change_55 : decode cX9_change 55 = .ok (.ifCond .ne 19, 3) := by decide +kernel
theorem dX9_change_58 : decode cX9_change 58 = .ok (.aload 4, 2) := by decide +kernel
theorem dX9_change_60 : decode cX9_change 60 = .ok (.getfield 121, 3) := by decide +kernel
theorem dX9_change_63 : decode cX9_change 63 = .ok (.istore 5, 2) := by decide +kernel
theorem dX9_change_65 : decode cX9_change 65 = .ok (.aload 4, 2) := by decide +kernel
theorem dX9_change_67 : decode cX9_change 67 = .ok (.iload_n 3, 1) := by decide +kernel
theorem dX9_change_68 : decode cX9_change 68 = .ok (.putfield 121, 3) := by decide +kernel
theorem dX9_change_71 : decode cX9_change 71 = .ok (.goto 37, 3) := by decide +kernel
theorem dX9_change_74 : decode cX9_change 74 = .ok (.iload_n 2, 1) := by decide +kernel
theorem dX9_change_75 : decode cX9_change 75 = .ok (.iconst 1, 1) := by decide +kernel
theorem dX9_change_76 : decode cX9_change 76 = .ok (.if_icmp .ne 19, 3) := by decide +kernel
theorem dX9_change_79 : decode cX9_change 79 = .ok (.aload 4, 2) := by decide +kernel
theorem dX9_change_81 : decode cX9_change 81 = .ok (.getfield 124, 3) := by decide +kernel
theorem dX9_change_84 : decode cX9_change 84 = .ok (.istore 5, 2) := by decide +kernel
theorem dX9_change_86 : decode cX9_change 86 = .ok (.aload 4, 2) := by decide +kernel
theorem dX9_change_88 : decode cX9_change 88 = .ok (.iload_n 3, 1) := by decide +kernel
theorem dX9_change_89 : decode cX9_change 89 = .ok (.putfield 124, 3) := by decide +kernel
theorem dX9_change_92 : decode cX9_change 92 = .ok (.goto 16, 3) := by decide +kernel
theorem dX9_change_95 : decode cX9_change 95 = .ok (.aload 4, 2) := by decide +kernel
theorem dX9_change_97 : decode cX9_change 97 = .ok (.getfield 127, 3) := by decide +kernel
theorem dX9_change_100 : decode cX9_change 100 = .ok (.istore 5, 2) := by decide +kernel
theorem dX9_change_102 : decode cX9_change 102 = .ok (.aload 4, 2) := by decide +kernel
theorem dX9_change_104 : decode cX9_change 104 = .ok (.iload_n 3, 1) := by decide +kernel
theorem dX9_change_105 : decode cX9_change 105 = .ok (.putfield 127, 3) := by decide +kernel
theorem dX9_change_108 : decode cX9_change 108 = .ok (.iload 5, 2) := by decide +kernel
theorem dX9_change_110 : decode cX9_change 110 = .ok (.ireturn, 1) := by decide +kernel
theorem dX9_become_0 : decode cX9_become 0 = .ok (.aload_n 0, 1) := by decide +kernel
theorem dX9_become_1 : decode cX9_become 1 = .ok (.iload_n 1, 1) := by decide +kernel
theorem dX9_become_2 : decode cX9_become 2 = .ok (.invokevirtual 112, 3) := by decide +kernel
theorem dX9_become_5 : decode cX9_become 5 = .ok (.ifCond .eq 10, 3) := by decide +kernel
theorem dX9_become_8 : decode cX9_become 8 = .ok (.iload_n 2, 1) := by decide +kernel
theorem dX9_become_9 : decode cX9_become 9 = .ok (.invokestatic 97, 3) := by decide +kernel
theorem dX9_become_12 : decode cX9_become 12 = .ok (.ifCond .ne 9, 3) := by decide +kernel
theorem dX9_become_15 : decode cX9_become 15 = .ok (.aload_n 0, 1) := by decide +kernel
theorem dX9_become_16 : decode cX9_become 16 = .ok (.iconst 1, 1) := by decide +kernel
theorem dX9_become_17 : decode cX9_become 17 = .ok (.invokevirtual 84, 3) := by decide +kernel
theorem dX9_become_20 : decode cX9_become 20 = .ok (.ireturn, 1) := by decide +kernel
theorem dX9_become_21 : decode cX9_become 21 = .ok (.aload_n 0, 1) := by decide +kernel
theorem dX9_become_22 : decode cX9_become 22 = .ok (.getfield 10, 3) := by decide +kernel
theorem dX9_become_25 : decode cX9_become 25 = .ok (.getfield 36, 3) := by decide +kernel
theorem dX9_become_28 : decode cX9_become 28 = .ok (.iload_n 1, 1) := by decide +kernel
theorem dX9_become_29 : decode cX9_become 29 = .ok (.aaload, 1) := by decide +kernel
theorem dX9_become_30 : decode cX9_become 30 = .ok (.getfield 115, 3) := by decide +kernel
theorem dX9_become_33 : decode cX9_become 33 = .ok (.istore_n 3, 1) := by decide +kernel
theorem dX9_become_34 : decode cX9_become 34 = .ok (.aload_n 0, 1) := by decide +kernel
theorem dX9_become_35 : decode cX9_become 35 = .ok (.getfield 10, 3) := by decide +kernel
theorem dX9_become_38 : decode cX9_become 38 = .ok (.getfield 36, 3) := by decide +kernel
theorem dX9_become_41 : decode cX9_become 41 = .ok (.iload_n 1, 1) := by decide +kernel
theorem dX9_become_42 : decode cX9_become 42 = .ok (.aaload, 1) := by decide +kernel
theorem dX9_become_43 : decode cX9_become 43 = .ok (.iload_n 2, 1) := by decide +kernel
theorem dX9_become_44 : decode cX9_become 44 = .ok (.invokevirtual 147, 3) := by decide +kernel
theorem dX9_become_47 : decode cX9_become 47 = .ok (.iload_n 3, 1) := by decide +kernel
theorem dX9_become_48 : decode cX9_become 48 = .ok (.ireturn, 1) := by decide +kernel
theorem dX9_as_0 : decode cX9_as 0 = .ok (.aload_n 0, 1) := by decide +kernel
theorem dX9_as_1 : decode cX9_as 1 = .ok (.iload_n 1, 1) := by decide +kernel
theorem dX9_as_2 : decode cX9_as 2 = .ok (.invokevirtual 112, 3) := by decide +kernel
theorem dX9_as_5 : decode cX9_as 5 = .ok (.ifCond .eq 13, 3) := by decide +kernel
theorem dX9_as_8 : decode cX9_as 8 = .ok (.iload_n 2, 1) := by decide +kernel
theorem dX9_as_9 : decode cX9_as 9 = .ok (.ifCond .lt 9, 3) := by decide +kernel
theorem dX9_as_12 : decode cX9_as 12 = .ok (.iload_n 2, 1) := by decide +kernel
theorem dX9_as_13 : decode cX9_as 13 = .ok (.bipush 7, 2) := by decide +kernel
theorem dX9_as_15 : decode cX9_as 15 = .ok (.if_icmp .lt 9, 3) := by decide +kernel
theorem dX9_as_18 : decode cX9_as 18 = .ok (.aload_n 0, 1) := by decide +kernel
theorem dX9_as_19 : decode cX9_as 19 = .ok (.iconst 1, 1) := by decide +kernel
theorem dX9_as_20 : decode cX9_as 20 = .ok (.invokevirtual 84, 3) := by decide +kernel
theorem dX9_as_23 : decode cX9_as 23 = .ok (.ireturn, 1) := by decide +kernel
theorem dX9_as_24 : decode cX9_as 24 = .ok (.aload_n 0, 1) := by decide +kernel
theorem dX9_as_25 : decode cX9_as 25 = .ok (.getfield 10, 3) := by decide +kernel
theorem dX9_as_28 : decode cX9_as 28 = .ok (.getfield 36, 3) := by decide +kernel
theorem dX9_as_31 : decode cX9_as 31 = .ok (.iload_n 1, 1) := by decide +kernel
theorem dX9_as_32 : decode cX9_as 32 = .ok (.aaload, 1) := by decide +kernel
theorem dX9_as_33 : decode cX9_as 33 = .ok (.iload_n 2, 1) := by decide +kernel
theorem dX9_as_34 : decode cX9_as 34 = .ok (.invokevirtual 151, 3) := by decide +kernel
theorem dX9_as_37 : decode cX9_as 37 = .ok (.ifCond .ne 9, 3) := by decide +kernel
theorem dX9_as_40 : decode cX9_as 40 = .ok (.aload_n 0, 1) := by decide +kernel
theorem dX9_as_41 : decode cX9_as 41 = .ok (.iconst 5, 1) := by decide +kernel
theorem dX9_as_42 : decode cX9_as 42 = .ok (.invokevirtual 84, 3) := by decide +kernel
theorem dX9_as_45 : decode cX9_as 45 = .ok (.ireturn, 1) := by decide +kernel
theorem dX9_as_46 : decode cX9_as 46 = .ok (.aload_n 0, 1) := by decide +kernel
theorem dX9_as_47 : decode cX9_as 47 = .ok (.getfield 10, 3) := by decide +kernel
theorem dX9_as_50 : decode cX9_as 50 = .ok (.getfield 36, 3) := by decide +kernel
theorem dX9_as_53 : decode cX9_as 53 = .ok (.iload_n 1, 1) := by decide +kernel
theorem dX9_as_54 : decode cX9_as 54 = .ok (.aaload, 1) := by decide +kernel
theorem dX9_as_55 : decode cX9_as 55 = .ok (.getfield 118, 3) := by decide +kernel
theorem dX9_as_58 : decode cX9_as 58 = .ok (.ireturn, 1) := by decide +kernel
theorem dX9_feed_0 : decode cX9_feed 0 = .ok (.iload_n 3, 1) := by decide +kernel
theorem dX9_feed_1 : decode cX9_feed 1 = .ok (.iconst 1, 1) := by decide +kernel
theorem dX9_feed_2 : decode cX9_feed 2 = .ok (.if_icmp .lt 9, 3) := by decide +kernel
theorem dX9_feed_5 : decode cX9_feed 5 = .ok (.iload_n 3, 1) := by decide +kernel
theorem dX9_feed_6 : decode cX9_feed 6 = .ok (.bipush 8, 2) := by decide +kernel
theorem dX9_feed_8 : decode cX9_feed 8 = .ok (.if_icmp .le 9, 3) := by decide +kernel
theorem dX9_feed_11 : decode cX9_feed 11 = .ok (.aload_n 0, 1) := by decide +kernel
theorem dX9_feed_12 : decode cX9_feed 12 = .ok (.iconst 1, 1) := by decide +kernel
theorem dX9_feed_13 : decode cX9_feed 13 = .ok (.invokevirtual 84, 3) := by decide +kernel
theorem dX9_feed_16 : decode cX9_feed 16 = .ok (.ireturn, 1) := by decide +kernel
theorem dX9_feed_17 : decode cX9_feed 17 = .ok (.aload_n 0, 1) := by decide +kernel
theorem dX9_feed_18 : decode cX9_feed 18 = .ok (.getfield 10, 3) := by decide +kernel
theorem dX9_feed_21 : decode cX9_feed 21 = .ok (.getfield 154, 3) := by decide +kernel
theorem dX9_feed_24 : decode cX9_feed 24 = .ok (.iload_n 3, 1) := by decide +kernel
theorem dX9_feed_25 : decode cX9_feed 25 = .ok (.iadd, 1) := by decide +kernel
theorem dX9_feed_26 : decode cX9_feed 26 = .ok (.bipush 50, 2) := by decide +kernel
theorem dX9_feed_28 : decode cX9_feed 28 = .ok (.if_icmp .le 9, 3) := by decide +kernel
theorem dX9_feed_31 : decode cX9_feed 31 = .ok (.aload_n 0, 1) := by decide +kernel
theorem dX9_feed_32 : decode cX9_feed 32 = .ok (.iconst 4, 1) := by decide +kernel
theorem dX9_feed_33 : decode cX9_feed 33 = .ok (.invokevirtual 84, 3) := by decide +kernel
theorem dX9_feed_36 : decode cX9_feed 36 = .ok (.ireturn, 1) := by decide +kernel
theorem dX9_feed_37 : decode cX9_feed 37 = .ok (.iconst 0, 1) := by decide +kernel
theorem dX9_feed_38 : decode cX9_feed 38 = .ok (.istore 4, 2) := by decide +kernel
theorem dX9_feed_40 : decode cX9_feed 40 = .ok (.iload 4, 2) := by decide +kernel
theorem dX9_feed_42 : decode cX9_feed 42 = .ok (.iload_n 3, 1) := by decide +kernel
theorem dX9_feed_43 : decode cX9_feed 43 = .ok (.if_icmp .ge 36, 3) := by decide +kernel
theorem dX9_feed_46 : decode cX9_feed 46 = .ok (.aload_n 0, 1) := by decide +kernel
theorem dX9_feed_47 : decode cX9_feed 47 = .ok (.getfield 10, 3) := by decide +kernel
theorem dX9_feed_50 : decode cX9_feed 50 = .ok (.getfield 157, 3) := by decide +kernel
theorem dX9_feed_53 : decode cX9_feed 53 = .ok (.aload_n 0, 1) := by decide +kernel
theorem dX9_feed_54 : decode cX9_feed 54 = .ok (.getfield 10, 3) := by decide +kernel
theorem dX9_feed_57 : decode cX9_feed 57 = .ok (.getfield 154, 3) := by decide +kernel
theorem dX9_feed_60 : decode cX9_feed 60 = .ok (.iload 4, 2) := by decide +kernel
theorem dX9_feed_62 : decode cX9_feed 62 = .ok (.iadd, 1) := by decide +kernel
theorem dX9_feed_63 : decode cX9_feed 63 = .ok (.lload_n 1, 1) := by decide +kernel
theorem dX9_feed_64 : decode cX9_feed 64 = .ok (.bipush 8, 2) := by decide +kernel
theorem dX9_feed_66 : decode cX9_feed 66 = .ok (.iload 4, 2) := by decide +kernel
theorem dX9_feed_68 : decode cX9_feed 68 = .ok (.imul, 1) := by decide +kernel
theorem dX9_feed_69 : decode cX9_feed 69 = .ok (.lushr, 1) := by decide +kernel
theorem dX9_feed_70 : decode cX9_feed 70 = .ok (.l2i, 1) := by decide +kernel
theorem dX9_feed_71 : decode cX9_feed 71 = .ok (.i2b, 1) := by decide +kernel
theorem dX9_feed_72 : decode cX9_feed 72 = .ok (.bastore, 1) := by decide +kernel
theorem dX9_feed_73 : decode cX9_feed 73 = .ok (.iinc 4 1, 3) := by decide +kernel
theorem dX9_feed_76 : decode cX9_feed 76 = .ok (.goto (-36), 3) := by decide +kernel
theorem dX9_feed_79 : decode cX9_feed 79 = .ok (.aload_n 0, 1) := by decide +kernel
theorem dX9_feed_80 : decode cX9_feed 80 = .ok (.getfield 10, 3) := by decide +kernel
theorem dX9_feed_83 : decode cX9_feed 83 = .ok (.dup, 1) := by decide +kernel
theorem dX9_feed_84 : decode cX9_feed 84 = .ok (.getfield 154, 3) := by decide +kernel
theorem dX9_feed_87 : decode cX9_feed 87 = .ok (.iload_n 3, 1) := by decide +kernel
theorem dX9_feed_88 : decode cX9_feed 88 = .ok (.iadd, 1) := by decide +kernel
theorem dX9_feed_89 : decode cX9_feed 89 = .ok (.putfield 154, 3) := by decide +kernel
theorem dX9_feed_92 : decode cX9_feed 92 = .ok (.aload_n 0, 1) := by decide +kernel
theorem dX9_feed_93 : decode cX9_feed 93 = .ok (.getfield 10, 3) := by decide +kernel
theorem dX9_feed_96 : decode cX9_feed 96 = .ok (.getfield 154, 3) := by decide +kernel
theorem dX9_feed_99 : decode cX9_feed 99 = .ok (.ireturn, 1) := by decide +kernel
theorem dX9_text_0 : decode cX9_text 0 = .ok (.iload_n 1, 1) := by decide +kernel
theorem dX9_text_1 : decode cX9_text 1 = .ok (.invokestatic 161, 3) := by decide +kernel
theorem dX9_text_4 : decode cX9_text 4 = .ok (.ifCond .ne 9, 3) := by decide +kernel
theorem dX9_text_7 : decode cX9_text 7 = .ok (.aload_n 0, 1) := by decide +kernel
theorem dX9_text_8 : decode cX9_text 8 = .ok (.iconst 1, 1) := by decide +kernel
theorem dX9_text_9 : decode cX9_text 9 = .ok (.invokevirtual 84, 3) := by decide +kernel
theorem dX9_text_12 : decode cX9_text 12 = .ok (.ireturn, 1) := by decide +kernel
theorem dX9_text_13 : decode cX9_text 13 = .ok (.aload_n 0, 1) := by decide +kernel
theorem dX9_text_14 : decode cX9_text 14 = .ok (.getfield 59, 3) := by decide +kernel
theorem dX9_text_17 : decode cX9_text 17 = .ok (.aload_n 0, 1) := by decide +kernel
theorem dX9_text_18 : decode cX9_text 18 = .ok (.getfield 10, 3) := by decide +kernel
theorem dX9_text_21 : decode cX9_text 21 = .ok (.getfield 157, 3) := by decide +kernel
theorem dX9_text_24 : decode cX9_text 24 = .ok (.aload_n 0, 1) := by decide +kernel
theorem dX9_text_25 : decode cX9_text 25 = .ok (.getfield 10, 3) := by decide +kernel
theorem dX9_text_28 : decode cX9_text 28 = .ok (.getfield 154, 3) := by decide +kernel
theorem dX9_text_31 : decode cX9_text 31 = .ok (.iload_n 1, 1) := by decide +kernel
theorem dX9_text_32 : decode cX9_text 32 = .ok (.ifCond .ne 8, 3) := by decide +kernel
theorem dX9_text_35 : decode cX9_text 35 = .ok (.ldc 164, 2) := by decide +kernel
theorem dX9_text_37 : decode cX9_text 37 = .ok (.goto 5, 3) := by decide +kernel
theorem dX9_text_40 : decode cX9_text 40 = .ok (.ldc 166, 2) := by decide +kernel
theorem dX9_text_42 : decode cX9_text 42 = .ok (.invokevirtual 168, 3) := by decide +kernel
theorem dX9_text_45 : decode cX9_text 45 = .ok (.istore_n 2, 1) := by decide +kernel
theorem dX9_text_46 : decode cX9_text 46 = .ok (.aload_n 0, 1) := by decide +kernel
theorem dX9_text_47 : decode cX9_text 47 = .ok (.getfield 10, 3) := by decide +kernel
theorem dX9_text_50 : decode cX9_text 50 = .ok (.iconst 0, 1) := by decide +kernel
theorem dX9_text_51 : decode cX9_text 51 = .ok (.putfield 154, 3) := by decide +kernel
theorem dX9_text_54 : decode cX9_text 54 = .ok (.iload_n 2, 1) := by decide +kernel
theorem dX9_text_55 : decode cX9_text 55 = .ok (.ifCond .ne 14, 3) := by decide +kernel
theorem dX9_text_58 : decode cX9_text 58 = .ok (.bipush (-10), 2) := by decide +kernel
theorem dX9_text_60 : decode cX9_text 60 = .ok (.aload_n 0, 1) := by decide +kernel
theorem dX9_text_61 : decode cX9_text 61 = .ok (.getfield 59, 3) := by decide +kernel
theorem dX9_text_64 : decode cX9_text 64 = .ok (.getfield 172, 3) := by decide +kernel
theorem dX9_text_67 : decode cX9_text 67 = .ok (.isub, 1) := by decide +kernel
theorem dX9_text_68 : decode cX9_text 68 = .ok (.ireturn, 1) := by decide +kernel
theorem dX9_text_69 : decode cX9_text 69 = .ok (.aload_n 0, 1) := by decide +kernel
theorem dX9_text_70 : decode cX9_text 70 = .ok (.getfield 10, 3) := by decide +kernel
theorem dX9_text_73 : decode cX9_text 73 = .ok (.getfield 175, 3) := by decide +kernel
theorem dX9_text_76 : decode cX9_text 76 = .ok (.iload_n 1, 1) := by decide +kernel
theorem dX9_text_77 : decode cX9_text 77 = .ok (.aaload, 1) := by decide +kernel
theorem dX9_text_78 : decode cX9_text 78 = .ok (.aload_n 0, 1) := by decide +kernel
theorem dX9_text_79 : decode cX9_text 79 = .ok (.getfield 59, 3) := by decide +kernel
theorem dX9_text_82 : decode cX9_text 82 = .ok (.getfield 179, 3) := by decide +kernel
theorem dX9_text_85 : decode cX9_text 85 = .ok (.aload_n 0, 1) := by decide +kernel
theorem dX9_text_86 : decode cX9_text 86 = .ok (.getfield 59, 3) := by decide +kernel
theorem dX9_text_89 : decode cX9_text 89 = .ok (.getfield 182, 3) := by decide +kernel
theorem dX9_text_92 : decode cX9_text 92 = .ok (.invokevirtual 185, 3) := by decide +kernel
theorem dX9_text_95 : decode cX9_text 95 = .ok (.iconst 1, 1) := by decide +kernel
theorem dX9_text_96 : decode cX9_text 96 = .ok (.ireturn, 1) := by decide +kernel
theorem dX9_law_0 : decode cX9_law 0 = .ok (.iload_n 1, 1) := by decide +kernel
theorem dX9_law_1 : decode cX9_law 1 = .ok (.invokestatic 161, 3) := by decide +kernel
theorem dX9_law_4 : decode cX9_law 4 = .ok (.ifCond .ne 9, 3) := by decide +kernel
theorem dX9_law_7 : decode cX9_law 7 = .ok (.aload_n 0, 1) := by decide +kernel
theorem dX9_law_8 : decode cX9_law 8 = .ok (.iconst 1, 1) := by decide +kernel
theorem dX9_law_9 : decode cX9_law 9 = .ok (.invokevirtual 84, 3) := by decide +kernel
theorem dX9_law_12 : decode cX9_law 12 = .ok (.ireturn, 1) := by decide +kernel
theorem dX9_law_13 : decode cX9_law 13 = .ok (.aload_n 0, 1) := by decide +kernel
theorem dX9_law_14 : decode cX9_law 14 = .ok (.getfield 10, 3) := by decide +kernel
theorem dX9_law_17 : decode cX9_law 17 = .ok (.iload_n 1, 1) := by decide +kernel
theorem dX9_law_18 : decode cX9_law 18 = .ok (.iload_n 2, 1) := by decide +kernel
theorem dX9_law_19 : decode cX9_law 19 = .ok (.iload_n 3, 1) := by decide +kernel
theorem dX9_law_20 : decode cX9_law 20 = .ok (.iload 4, 2) := by decide +kernel
theorem dX9_law_22 : decode cX9_law 22 = .ok (.invokevirtual 191, 3) := by decide +kernel
theorem dX9_law_25 : decode cX9_law 25 = .ok (.ireturn, 1) := by decide +kernel
theorem dX9_sew_0 : decode cX9_sew 0 = .ok (.aload_n 0, 1) := by decide +kernel
theorem dX9_sew_1 : decode cX9_sew 1 = .ok (.iload_n 1, 1) := by decide +kernel
theorem dX9_sew_2 : decode cX9_sew 2 = .ok (.invokevirtual 112, 3) := by decide +kernel
theorem dX9_sew_5 : decode cX9_sew 5 = .ok (.ifCond .eq 15, 3) := by decide +kernel
theorem dX9_sew_8 : decode cX9_sew 8 = .ok (.iload_n 2, 1) := by decide +kernel
theorem dX9_sew_9 : decode cX9_sew 9 = .ok (.iconst 1, 1) := by decide +kernel
theorem dX9_sew_10 : decode cX9_sew 10 = .ok (.if_icmp .lt 10, 3) := by decide +kernel
theorem dX9_sew_13 : decode cX9_sew 13 = .ok (.iload_n 2, 1) := by decide +kernel
theorem dX9_sew_14 : decode cX9_sew 14 = .ok (.sipush 200, 3) := by decide +kernel
theorem dX9_sew_17 : decode cX9_sew 17 = .ok (.if_icmp .le 9, 3) := by decide +kernel
theorem dX9_sew_20 : decode cX9_sew 20 = .ok (.aload_n 0, 1) := by decide +kernel
theorem dX9_sew_21 : decode cX9_sew 21 = .ok (.iconst 1, 1) := by decide +kernel
theorem dX9_sew_22 : decode cX9_sew 22 = .ok (.invokevirtual 84, 3) := by decide +kernel
theorem dX9_sew_25 : decode cX9_sew 25 = .ok (.ireturn, 1) := by decide +kernel
theorem dX9_sew_26 : decode cX9_sew 26 = .ok (.aload_n 0, 1) := by decide +kernel
theorem dX9_sew_27 : decode cX9_sew 27 = .ok (.getfield 10, 3) := by decide +kernel
theorem dX9_sew_30 : decode cX9_sew 30 = .ok (.getfield 195, 3) := by decide +kernel
theorem dX9_sew_33 : decode cX9_sew 33 = .ok (.iload_n 2, 1) := by decide +kernel
theorem dX9_sew_34 : decode cX9_sew 34 = .ok (.aload_n 0, 1) := by decide +kernel
theorem dX9_sew_35 : decode cX9_sew 35 = .ok (.getfield 10, 3) := by decide +kernel
theorem dX9_sew_38 : decode cX9_sew 38 = .ok (.getfield 87, 3) := by decide +kernel
theorem dX9_sew_41 : decode cX9_sew 41 = .ok (.invokevirtual 198, 3) := by decide +kernel
theorem dX9_sew_44 : decode cX9_sew 44 = .ok (.imul, 1) := by decide +kernel
theorem dX9_sew_45 : decode cX9_sew 45 = .ok (.iadd, 1) := by decide +kernel
theorem dX9_sew_46 : decode cX9_sew 46 = .ok (.ldc 202, 2) := by decide +kernel
theorem dX9_sew_48 : decode cX9_sew 48 = .ok (.if_icmp .le 9, 3) := by decide +kernel
theorem dX9_sew_51 : decode cX9_sew 51 = .ok (.aload_n 0, 1) := by decide +kernel
theorem dX9_sew_52 : decode cX9_sew 52 = .ok (.iconst 3, 1) := by decide +kernel
theorem dX9_sew_53 : decode cX9_sew 53 = .ok (.invokevirtual 84, 3) := by decide +kernel
theorem dX9_sew_56 : decode cX9_sew 56 = .ok (.ireturn, 1) := by decide +kernel
theorem dX9_sew_57 : decode cX9_sew 57 = .ok (.aload_n 0, 1) := by decide +kernel
theorem dX9_sew_58 : decode cX9_sew 58 = .ok (.iload_n 1, 1) := by decide +kernel
theorem dX9_sew_59 : decode cX9_sew 59 = .ok (.invokevirtual 130, 3) := by decide +kernel
theorem dX9_sew_62 : decode cX9_sew 62 = .ok (.astore_n 3, 1) := by decide +kernel
theorem dX9_sew_63 : decode cX9_sew 63 = .ok (.iconst 0, 1) := by decide +kernel
theorem dX9_sew_64 : decode cX9_sew 64 = .ok (.istore 4, 2) := by decide +kernel
theorem dX9_sew_66 : decode cX9_sew 66 = .ok (.iconst 0, 1) := by decide +kernel
theorem dX9_sew_67 : decode cX9_sew 67 = .ok (.istore 5, 2) := by decide +kernel
theorem dX9_sew_69 : decode cX9_sew 69 = .ok (.iload 5, 2) := by decide +kernel
theorem dX9_sew_71 : decode cX9_sew 71 = .ok (.iload_n 2, 1) := by decide +kernel
theorem dX9_sew_72 : decode cX9_sew 72 = .ok (.if_icmp .ge 22, 3) := by decide +kernel
theorem dX9_sew_75 : decode cX9_sew 75 = .ok (.iload 4, 2) := by decide +kernel
theorem dX9_sew_77 : decode cX9_sew 77 = .ok (.aload_n 0, 1) := by decide +kernel
theorem dX9_sew_78 : decode cX9_sew 78 = .ok (.getfield 10, 3) := by decide +kernel
theorem dX9_sew_81 : decode cX9_sew 81 = .ok (.aload_n 3, 1) := by decide +kernel
theorem dX9_sew_82 : decode cX9_sew 82 = .ok (.invokevirtual 203, 3) := by decide +kernel
theorem dX9_sew_85 : decode cX9_sew 85 = .ok (.iadd, 1) := by decide +kernel
theorem dX9_sew_86 : decode cX9_sew 86 = .ok (.istore 4, 2) := by decide +kernel
theorem dX9_sew_88 : decode cX9_sew 88 = .ok (.iinc 5 1, 3) := by decide +kernel
theorem dX9_sew_91 : decode cX9_sew 91 = .ok (.goto (-22), 3) := by decide +kernel
theorem dX9_sew_94 : decode cX9_sew 94 = .ok (.iload 4, 2) := by decide +kernel
theorem dX9_sew_96 : decode cX9_sew 96 = .ok (.ireturn, 1) := by decide +kernel
theorem dX9_deed_0 : decode cX9_deed 0 = .ok (.iload_n 1, 1) := by decide +kernel
theorem dX9_deed_1 : decode cX9_deed 1 = .ok (.ifCond .lt 9, 3) := by decide +kernel
theorem dX9_deed_4 : decode cX9_deed 4 = .ok (.iload_n 1, 1) := by decide +kernel
theorem dX9_deed_5 : decode cX9_deed 5 = .ok (.bipush 7, 2) := by decide +kernel
theorem dX9_deed_7 : decode cX9_deed 7 = .ok (.if_icmp .lt 9, 3) := by decide +kernel
theorem dX9_deed_10 : decode cX9_deed 10 = .ok (.aload_n 0, 1) := by decide +kernel
theorem dX9_deed_11 : decode cX9_deed 11 = .ok (.iconst 1, 1) := by decide +kernel
theorem dX9_deed_12 : decode cX9_deed 12 = .ok (.invokevirtual 84, 3) := by decide +kernel
theorem dX9_deed_15 : decode cX9_deed 15 = .ok (.ireturn, 1) := by decide +kernel
theorem dX9_deed_16 : decode cX9_deed 16 = .ok (.aload_n 0, 1) := by decide +kernel
theorem dX9_deed_17 : decode cX9_deed 17 = .ok (.getfield 10, 3) := by decide +kernel
theorem dX9_deed_20 : decode cX9_deed 20 = .ok (.getfield 87, 3) := by decide +kernel
theorem dX9_deed_23 : decode cX9_deed 23 = .ok (.iload_n 1, 1) := by decide +kernel
theorem dX9_deed_24 : decode cX9_deed 24 = .ok (.invokevirtual 207, 3) := by decide +kernel
theorem dX9_deed_27 : decode cX9_deed 27 = .ok (.ifCond .eq 21, 3) := by decide +kernel
theorem dX9_deed_30 : decode cX9_deed 30 = .ok (.aload_n 0, 1) := by decide +kernel
theorem dX9_deed_31 : decode cX9_deed 31 = .ok (.getfield 10, 3) := by decide +kernel
theorem dX9_deed_34 : decode cX9_deed 34 = .ok (.getfield 195, 3) := by decide +kernel
theorem dX9_deed_37 : decode cX9_deed 37 = .ok (.getstatic 210, 3) := by decide +kernel
theorem dX9_deed_40 : decode cX9_deed 40 = .ok (.iload_n 1, 1) := by decide +kernel
theorem dX9_deed_41 : decode cX9_deed 41 = .ok (.iaload, 1) := by decide +kernel
theorem dX9_deed_42 : decode cX9_deed 42 = .ok (.iadd, 1) := by decide +kernel
theorem dX9_deed_43 : decode cX9_deed 43 = .ok (.ldc 202, 2) := by decide +kernel
theorem dX9_deed_45 : decode cX9_deed 45 = .ok (.if_icmp .le 9, 3) := by decide +kernel
theorem dX9_deed_48 : decode cX9_deed 48 = .ok (.aload_n 0, 1) := by decide +kernel
theorem dX9_deed_49 : decode cX9_deed 49 = .ok (.iconst 3, 1) := by decide +kernel
theorem dX9_deed_50 : decode cX9_deed 50 = .ok (.invokevirtual 84, 3) := by decide +kernel
theorem dX9_deed_53 : decode cX9_deed 53 = .ok (.ireturn, 1) := by decide +kernel
theorem dX9_deed_54 : decode cX9_deed 54 = .ok (.aload_n 0, 1) := by decide +kernel
theorem dX9_deed_55 : decode cX9_deed 55 = .ok (.getfield 10, 3) := by decide +kernel
theorem dX9_deed_58 : decode cX9_deed 58 = .ok (.iload_n 1, 1) := by decide +kernel
theorem dX9_deed_59 : decode cX9_deed 59 = .ok (.invokevirtual 213, 3) := by decide +kernel
theorem dX9_deed_62 : decode cX9_deed 62 = .ok (.aload_n 0, 1) := by decide +kernel
theorem dX9_deed_63 : decode cX9_deed 63 = .ok (.getfield 10, 3) := by decide +kernel
theorem dX9_deed_66 : decode cX9_deed 66 = .ok (.getfield 195, 3) := by decide +kernel
theorem dX9_deed_69 : decode cX9_deed 69 = .ok (.ireturn, 1) := by decide +kernel
theorem dX9_loose_0 : decode cX9_loose 0 = .ok (.iload_n 1, 1) := by decide +kernel
theorem dX9_loose_1 : decode cX9_loose 1 = .ok (.iconst 1, 1) := by decide +kernel
theorem dX9_loose_2 : decode cX9_loose 2 = .ok (.if_icmp .lt 9, 3) := by decide +kernel
theorem dX9_loose_5 : decode cX9_loose 5 = .ok (.iload_n 1, 1) := by decide +kernel
theorem dX9_loose_6 : decode cX9_loose 6 = .ok (.bipush 40, 2) := by decide +kernel
theorem dX9_loose_8 : decode cX9_loose 8 = .ok (.if_icmp .le 9, 3) := by decide +kernel
theorem dX9_loose_11 : decode cX9_loose 11 = .ok (.aload_n 0, 1) := by decide +kernel
theorem dX9_loose_12 : decode cX9_loose 12 = .ok (.iconst 1, 1) := by decide +kernel
theorem dX9_loose_13 : decode cX9_loose 13 = .ok (.invokevirtual 84, 3) := by decide +kernel
theorem dX9_loose_16 : decode cX9_loose 16 = .ok (.ireturn, 1) := by decide +kernel
theorem dX9_loose_17 : decode cX9_loose 17 = .ok (.aload_n 0, 1) := by decide +kernel
theorem dX9_loose_18 : decode cX9_loose 18 = .ok (.getfield 10, 3) := by decide +kernel
theorem dX9_loose_21 : decode cX9_loose 21 = .ok (.getfield 195, 3) := by decide +kernel
theorem dX9_loose_24 : decode cX9_loose 24 = .ok (.bipush 30, 2) := by decide +kernel
theorem dX9_loose_26 : decode cX9_loose 26 = .ok (.iload_n 1, 1) := by decide +kernel
theorem dX9_loose_27 : decode cX9_loose 27 = .ok (.imul, 1) := by decide +kernel
theorem dX9_loose_28 : decode cX9_loose 28 = .ok (.iadd, 1) := by decide +kernel
theorem dX9_loose_29 : decode cX9_loose 29 = .ok (.ldc 202, 2) := by decide +kernel
theorem dX9_loose_31 : decode cX9_loose 31 = .ok (.if_icmp .le 9, 3) := by decide +kernel
theorem dX9_loose_34 : decode cX9_loose 34 = .ok (.aload_n 0, 1) := by decide +kernel
theorem dX9_loose_35 : decode cX9_loose 35 = .ok (.iconst 3, 1) := by decide +kernel
theorem dX9_loose_36 : decode cX9_loose 36 = .ok (.invokevirtual 84, 3) := by decide +kernel
theorem dX9_loose_39 : decode cX9_loose 39 = .ok (.ireturn, 1) := by decide +kernel
theorem dX9_loose_40 : decode cX9_loose 40 = .ok (.aload_n 0, 1) := by decide +kernel
theorem dX9_loose_41 : decode cX9_loose 41 = .ok (.invokevirtual 216, 3) := by decide +kernel
theorem dX9_loose_44 : decode cX9_loose 44 = .ok (.iconst 0, 1) := by decide +kernel
theorem dX9_loose_45 : decode cX9_loose 45 = .ok (.istore_n 2, 1) := by decide +kernel
theorem dX9_loose_46 : decode cX9_loose 46 = .ok (.iconst 0, 1) := by decide +kernel
theorem dX9_loose_47 : decode cX9_loose 47 = .ok (.istore_n 3, 1) := by decide +kernel
theorem dX9_loose_48 : decode cX9_loose 48 = .ok (.iload_n 3, 1) := by decide +kernel
theorem dX9_loose_49 : decode cX9_loose 49 = .ok (.iload_n 1, 1) := by decide +kernel
theorem dX9_loose_50 : decode cX9_loose 50 = .ok (.if_icmp .ge 16, 3) := by decide +kernel
theorem dX9_loose_53 : decode cX9_loose 53 = .ok (.iload_n 2, 1) := by decide +kernel
theorem dX9_loose_54 : decode cX9_loose 54 = .ok (.aload_n 0, 1) := by decide +kernel
theorem dX9_loose_55 : decode cX9_loose 55 = .ok (.invokevirtual 219, 3) := by decide +kernel
theorem dX9_loose_58 : decode cX9_loose 58 = .ok (.iadd, 1) := by decide +kernel
theorem dX9_loose_59 : decode cX9_loose 59 = .ok (.istore_n 2, 1) := by decide +kernel
theorem dX9_loose_60 : decode cX9_loose 60 = .ok (.iinc 3 1, 3) := by decide +kernel
theorem dX9_loose_63 : decode cX9_loose 63 = .ok (.goto (-15), 3) := by decide +kernel
theorem dX9_loose_66 : decode cX9_loose 66 = .ok (.iload_n 2, 1) := by decide +kernel
theorem dX9_loose_67 : decode cX9_loose 67 = .ok (.ireturn, 1) := by decide +kernel
theorem dX9_after_0 : decode cX9_after 0 = .ok (.aload_n 0, 1) := by decide +kernel
theorem dX9_after_1 : decode cX9_after 1 = .ok (.iload_n 1, 1) := by decide +kernel
theorem dX9_after_2 : decode cX9_after 2 = .ok (.invokevirtual 112, 3) := by decide +kernel
theorem dX9_after_5 : decode cX9_after 5 = .ok (.ifCond .eq 14, 3) := by decide +kernel
theorem dX9_after_8 : decode cX9_after 8 = .ok (.iload_n 2, 1) := by decide +kernel
theorem dX9_after_9 : decode cX9_after 9 = .ok (.ifCond .lt 10, 3) := by decide +kernel
theorem dX9_after_12 : decode cX9_after 12 = .ok (.iload_n 2, 1) := by decide +kernel
theorem dX9_after_13 : decode cX9_after 13 = .ok (.sipush 200, 3) := by decide +kernel
theorem dX9_after_16 : decode cX9_after 16 = .ok (.if_icmp .le 9, 3) := by decide +kernel
theorem dX9_after_19 : decode cX9_after 19 = .ok (.aload_n 0, 1) := by decide +kernel
theorem dX9_after_20 : decode cX9_after 20 = .ok (.iconst 1, 1) := by decide +kernel
theorem dX9_after_21 : decode cX9_after 21 = .ok (.invokevirtual 84, 3) := by decide +kernel
theorem dX9_after_24 : decode cX9_after 24 = .ok (.ireturn, 1) := by decide +kernel
theorem dX9_after_25 : decode cX9_after 25 = .ok (.aload_n 0, 1) := by decide +kernel
theorem dX9_after_26 : decode cX9_after 26 = .ok (.getfield 26, 3) := by decide +kernel
theorem dX9_after_29 : decode cX9_after 29 = .ok (.aload_n 0, 1) := by decide +kernel
theorem dX9_after_30 : decode cX9_after 30 = .ok (.getfield 10, 3) := by decide +kernel
theorem dX9_after_33 : decode cX9_after 33 = .ok (.getfield 87, 3) := by decide +kernel
theorem dX9_after_36 : decode cX9_after 36 = .ok (.invokevirtual 222, 3) := by decide +kernel
theorem dX9_after_39 : decode cX9_after 39 = .ok (.aload_n 0, 1) := by decide +kernel
theorem dX9_after_40 : decode cX9_after 40 = .ok (.getfield 26, 3) := by decide +kernel
theorem dX9_after_43 : decode cX9_after 43 = .ok (.iload_n 2, 1) := by decide +kernel
theorem dX9_after_44 : decode cX9_after 44 = .ok (.aload_n 0, 1) := by decide +kernel
theorem dX9_after_45 : decode cX9_after 45 = .ok (.getfield 10, 3) := by decide +kernel
theorem dX9_after_48 : decode cX9_after 48 = .ok (.getfield 36, 3) := by decide +kernel
theorem dX9_after_51 : decode cX9_after 51 = .ok (.iload_n 1, 1) := by decide +kernel
theorem dX9_after_52 : decode cX9_after 52 = .ok (.aaload, 1) := by decide +kernel
theorem dX9_after_53 : decode cX9_after 53 = .ok (.invokevirtual 226, 3) := by decide +kernel
theorem dX9_after_56 : decode cX9_after 56 = .ok (.imul, 1) := by decide +kernel
theorem dX9_after_57 : decode cX9_after 57 = .ok (.invokevirtual 229, 3) := by decide +kernel
theorem dX9_after_60 : decode cX9_after 60 = .ok (.aload_n 0, 1) := by decide +kernel
theorem dX9_after_61 : decode cX9_after 61 = .ok (.iload_n 1, 1) := by decide +kernel
theorem dX9_after_62 : decode cX9_after 62 = .ok (.invokevirtual 130, 3) := by decide +kernel
theorem dX9_after_65 : decode cX9_after 65 = .ok (.aload_n 0, 1) := by decide +kernel
theorem dX9_after_66 : decode cX9_after 66 = .ok (.getfield 26, 3) := by decide +kernel
theorem dX9_after_69 : decode cX9_after 69 = .ok (.invokevirtual 144, 3) := by decide +kernel
theorem dX9_after_72 : decode cX9_after 72 = .ok (.ireturn, 1) := by decide +kernel
theorem dX9_until_0 : decode cX9_until 0 = .ok (.aload_n 0, 1) := by decide +kernel
theorem dX9_until_1 : decode cX9_until 1 = .ok (.iload_n 1, 1) := by decide +kernel
theorem dX9_until_2 : decode cX9_until 2 = .ok (.invokevirtual 112, 3) := by decide +kernel
theorem dX9_until_5 : decode cX9_until 5 = .ok (.ifCond .ne 9, 3) := by decide +kernel
theorem dX9_until_8 : decode cX9_until 8 = .ok (.aload_n 0, 1) := by decide +kernel
theorem dX9_until_9 : decode cX9_until 9 = .ok (.iconst 1, 1) := by decide +kernel
theorem dX9_until_10 : decode cX9_until 10 = .ok (.invokevirtual 84, 3) := by decide +kernel
theorem dX9_until_13 : decode cX9_until 13 = .ok (.ireturn, 1) := by decide +kernel
theorem dX9_until_14 : decode cX9_until 14 = .ok (.aload_n 0, 1) := by decide +kernel
theorem dX9_until_15 : decode cX9_until 15 = .ok (.iload_n 1, 1) := by decide +kernel
theorem dX9_until_16 : decode cX9_until 16 = .ok (.invokevirtual 130, 3) := by decide +kernel
theorem dX9_until_19 : decode cX9_until 19 = .ok (.astore_n 2, 1) := by decide +kernel
theorem dX9_until_20 : decode cX9_until 20 = .ok (.aload_n 0, 1) := by decide +kernel
theorem dX9_until_21 : decode cX9_until 21 = .ok (.getfield 10, 3) := by decide +kernel
theorem dX9_until_24 : decode cX9_until 24 = .ok (.getfield 36, 3) := by decide +kernel
theorem dX9_until_27 : decode cX9_until 27 = .ok (.iload_n 1, 1) := by decide +kernel
theorem dX9_until_28 : decode cX9_until 28 = .ok (.aaload, 1) := by decide +kernel
theorem dX9_until_29 : decode cX9_until 29 = .ok (.invokevirtual 226, 3) := by decide +kernel
theorem dX9_until_32 : decode cX9_until 32 = .ok (.istore_n 3, 1) := by decide +kernel
theorem dX9_until_33 : decode cX9_until 33 = .ok (.aload_n 0, 1) := by decide +kernel
theorem dX9_until_34 : decode cX9_until 34 = .ok (.getfield 26, 3) := by decide +kernel
theorem dX9_until_37 : decode cX9_until 37 = .ok (.aload_n 0, 1) := by decide +kernel
theorem dX9_until_38 : decode cX9_until 38 = .ok (.getfield 10, 3) := by decide +kernel
theorem dX9_until_41 : decode cX9_until 41 = .ok (.getfield 87, 3) := by decide +kernel
theorem dX9_until_44 : decode cX9_until 44 = .ok (.invokevirtual 222, 3) := by decide +kernel
theorem dX9_until_47 : decode cX9_until 47 = .ok (.aload_n 2, 1) := by decide +kernel
theorem dX9_until_48 : decode cX9_until 48 = .ok (.aload_n 0, 1) := by decide +kernel
theorem dX9_until_49 : decode cX9_until 49 = .ok (.getfield 26, 3) := by decide +kernel
theorem dX9_until_52 : decode cX9_until 52 = .ok (.invokevirtual 144, 3) := by decide +kernel
theorem dX9_until_55 : decode cX9_until 55 = .ok (.istore 4, 2) := by decide +kernel
theorem dX9_until_57 : decode cX9_until 57 = .ok (.iconst 1, 1) := by decide +kernel
theorem dX9_until_58 : decode cX9_until 58 = .ok (.istore 5, 2) := by decide +kernel
theorem dX9_until_60 : decode cX9_until 60 = .ok (.iload 5, 2) := by decide +kernel
theorem dX9_until_62 : decode cX9_until 62 = .ok (.sipush 200, 3) := by decide +kernel
theorem dX9_until_65 : decode cX9_until 65 = .ok (.if_icmp .gt 33, 3) := by decide +kernel
theorem dX9_until_68 : decode cX9_until 68 = .ok (.aload_n 0, 1) := by decide +kernel
theorem dX9_until_69 : decode cX9_until 69 = .ok (.getfield 26, 3) := by decide +kernel
theorem dX9_until_72 : decode cX9_until 72 = .ok (.iload_n 3, 1) := by decide +kernel
theorem dX9_until_73 : decode cX9_until 73 = .ok (.invokevirtual 229, 3) := by decide +kernel
theorem dX9_until_76 : decode cX9_until 76 = .ok (.aload_n 2, 1) := by decide +kernel
theorem dX9_until_77 : decode cX9_until 77 = .ok (.aload_n 0, 1) := by decide +kernel
theorem dX9_until_78 : decode cX9_until 78 = .ok (.getfield 26, 3) := by decide +kernel
theorem dX9_until_81 : decode cX9_until 81 = .ok (.invokevirtual 144, 3) := by decide +kernel
theorem dX9_until_84 : decode cX9_until 84 = .ok (.iload 4, 2) := by decide +kernel
theorem dX9_until_86 : decode cX9_until 86 = .ok (.if_icmp .eq 6, 3) := by decide +kernel
theorem dX9_until_89 : decode cX9_until 89 = .ok (.iload 5, 2) := by decide +kernel
theorem dX9_until_91 : decode cX9_until 91 = .ok (.ireturn, 1) := by decide +kernel
theorem dX9_until_92 : decode cX9_until 92 = .ok (.iinc 5 1, 3) := by decide +kernel
theorem dX9_until_95 : decode cX9_until 95 = .ok (.goto (-35), 3) := by decide +kernel
theorem dX9_until_98 : decode cX9_until 98 = .ok (.aload_n 0, 1) := by decide +kernel
theorem dX9_until_99 : decode cX9_until 99 = .ok (.iconst 2, 1) := by decide +kernel
theorem dX9_until_100 : decode cX9_until 100 = .ok (.invokevirtual 84, 3) := by decide +kernel
theorem dX9_until_103 : decode cX9_until 103 = .ok (.ireturn, 1) := by decide +kernel
theorem dX9_cure_0 : decode cX9_cure 0 = .ok (.aload_n 0, 1) := by decide +kernel
theorem dX9_cure_1 : decode cX9_cure 1 = .ok (.iload_n 1, 1) := by decide +kernel
theorem dX9_cure_2 : decode cX9_cure 2 = .ok (.invokevirtual 112, 3) := by decide +kernel
theorem dX9_cure_5 : decode cX9_cure 5 = .ok (.ifCond .eq 10, 3) := by decide +kernel
theorem dX9_cure_8 : decode cX9_cure 8 = .ok (.iload_n 2, 1) := by decide +kernel
theorem dX9_cure_9 : decode cX9_cure 9 = .ok (.invokestatic 232, 3) := by decide +kernel
theorem dX9_cure_12 : decode cX9_cure 12 = .ok (.ifCond .ne 9, 3) := by decide +kernel
theorem dX9_cure_15 : decode cX9_cure 15 = .ok (.aload_n 0, 1) := by decide +kernel
theorem dX9_cure_16 : decode cX9_cure 16 = .ok (.iconst 1, 1) := by decide +kernel
theorem dX9_cure_17 : decode cX9_cure 17 = .ok (.invokevirtual 84, 3) := by decide +kernel
theorem dX9_cure_20 : decode cX9_cure 20 = .ok (.ireturn, 1) := by decide +kernel
theorem dX9_cure_21 : decode cX9_cure 21 = .ok (.aload_n 0, 1) := by decide +kernel
theorem dX9_cure_22 : decode cX9_cure 22 = .ok (.aload_n 0, 1) := by decide +kernel
theorem dX9_cure_23 : decode cX9_cure 23 = .ok (.iload_n 1, 1) := by decide +kernel
theorem dX9_cure_24 : decode cX9_cure 24 = .ok (.invokevirtual 130, 3) := by decide +kernel
theorem dX9_cure_27 : decode cX9_cure 27 = .ok (.invokevirtual 235, 3) := by decide +kernel
theorem dX9_cure_30 : decode cX9_cure 30 = .ok (.istore_n 3, 1) := by decide +kernel
theorem dX9_cure_31 : decode cX9_cure 31 = .ok (.iload_n 3, 1) := by decide +kernel
theorem dX9_cure_32 : decode cX9_cure 32 = .ok (.ifCond .ge 9, 3) := by decide +kernel
theorem dX9_cure_35 : decode cX9_cure 35 = .ok (.aload_n 0, 1) := by decide +kernel
theorem dX9_cure_36 : decode cX9_cure 36 = .ok (.iconst 2, 1) := by decide +kernel
theorem dX9_cure_37 : decode cX9_cure 37 = .ok (.invokevirtual 84, 3) := by decide +kernel
theorem dX9_cure_40 : decode cX9_cure 40 = .ok (.ireturn, 1) := by decide +kernel
theorem dX9_cure_41 : decode cX9_cure 41 = .ok (.iload_n 2, 1) := by decide +kernel
theorem dX9_cure_42 : decode cX9_cure 42 = .ok (.iconst 1, 1) := by decide +kernel
theorem dX9_cure_43 : decode cX9_cure 43 = .ok (.if_icmp .ne 7, 3) := by decide +kernel
theorem dX9_cure_46 : decode cX9_cure 46 = .ok (.iload_n 3, 1) := by decide +kernel
theorem dX9_cure_47 : decode cX9_cure 47 = .ok (.goto 23, 3) := by decide +kernel
theorem dX9_cure_50 : decode cX9_cure 50 = .ok (.aload_n 0, 1) := by decide +kernel
theorem dX9_cure_51 : decode cX9_cure 51 = .ok (.iload_n 3, 1) := by decide +kernel
theorem dX9_cure_52 : decode cX9_cure 52 = .ok (.sipush 1000, 3) := by decide +kernel
theorem dX9_cure_55 : decode cX9_cure 55 = .ok (.idiv, 1) := by decide +kernel
theorem dX9_cure_56 : decode cX9_cure 56 = .ok (.iload_n 3, 1) := by decide +kernel
theorem dX9_cure_57 : decode cX9_cure 57 = .ok (.bipush 10, 2) := by decide +kernel
theorem dX9_cure_59 : decode cX9_cure 59 = .ok (.idiv, 1) := by decide +kernel
theorem dX9_cure_60 : decode cX9_cure 60 = .ok (.bipush 10, 2) := by decide +kernel
theorem dX9_cure_62 : decode cX9_cure 62 = .ok (.irem, 1) := by decide +kernel
theorem dX9_cure_63 : decode cX9_cure 63 = .ok (.iload_n 3, 1) := by decide +kernel
theorem dX9_cure_64 : decode cX9_cure 64 = .ok (.bipush 10, 2) := by decide +kernel
theorem dX9_cure_66 : decode cX9_cure 66 = .ok (.irem, 1) := by decide +kernel
theorem dX9_cure_67 : decode cX9_cure 67 = .ok (.invokevirtual 238, 3) := by decide +kernel
theorem dX9_cure_70 : decode cX9_cure 70 = .ok (.ireturn, 1) := by decide +kernel
theorem dX9_alone_0 : decode cX9_alone 0 = .ok (.aload_n 0, 1) := by decide +kernel
theorem dX9_alone_1 : decode cX9_alone 1 = .ok (.iload_n 1, 1) := by decide +kernel
theorem dX9_alone_2 : decode cX9_alone 2 = .ok (.invokevirtual 112, 3) := by decide +kernel
theorem dX9_alone_5 : decode cX9_alone 5 = .ok (.ifCond .ne 9, 3) := by decide +kernel
theorem dX9_alone_8 : decode cX9_alone 8 = .ok (.aload_n 0, 1) := by decide +kernel
theorem dX9_alone_9 : decode cX9_alone 9 = .ok (.iconst 1, 1) := by decide +kernel
theorem dX9_alone_10 : decode cX9_alone 10 = .ok (.invokevirtual 84, 3) := by decide +kernel
theorem dX9_alone_13 : decode cX9_alone 13 = .ok (.ireturn, 1) := by decide +kernel
theorem dX9_alone_14 : decode cX9_alone 14 = .ok (.aload_n 0, 1) := by decide +kernel
theorem dX9_alone_15 : decode cX9_alone 15 = .ok (.iload_n 1, 1) := by decide +kernel
theorem dX9_alone_16 : decode cX9_alone 16 = .ok (.invokevirtual 130, 3) := by decide +kernel
theorem dX9_alone_19 : decode cX9_alone 19 = .ok (.astore_n 2, 1) := by decide +kernel
theorem dX9_alone_20 : decode cX9_alone 20 = .ok (.iconst 0, 1) := by decide +kernel
theorem dX9_alone_21 : decode cX9_alone 21 = .ok (.istore_n 3, 1) := by decide +kernel
theorem dX9_alone_22 : decode cX9_alone 22 = .ok (.iconst 0, 1) := by decide +kernel
theorem dX9_alone_23 : decode cX9_alone 23 = .ok (.istore 4, 2) := by decide +kernel
theorem dX9_alone_25 : decode cX9_alone 25 = .ok (.iload 4, 2) := by decide +kernel
theorem dX9_alone_27 : decode cX9_alone 27 = .ok (.bipush 7, 2) := by decide +kernel
theorem dX9_alone_29 : decode cX9_alone 29 = .ok (.if_icmp .ge 62, 3) := by decide +kernel
theorem dX9_alone_32 : decode cX9_alone 32 = .ok (.aload_n 0, 1) := by decide +kernel
theorem dX9_alone_33 : decode cX9_alone 33 = .ok (.getfield 26, 3) := by decide +kernel
theorem dX9_alone_36 : decode cX9_alone 36 = .ok (.aload_n 0, 1) := by decide +kernel
theorem dX9_alone_37 : decode cX9_alone 37 = .ok (.getfield 10, 3) := by decide +kernel
theorem dX9_alone_40 : decode cX9_alone 40 = .ok (.getfield 87, 3) := by decide +kernel
theorem dX9_alone_43 : decode cX9_alone 43 = .ok (.invokevirtual 222, 3) := by decide +kernel
theorem dX9_alone_46 : decode cX9_alone 46 = .ok (.aload_n 0, 1) := by decide +kernel
theorem dX9_alone_47 : decode cX9_alone 47 = .ok (.getfield 26, 3) := by decide +kernel
theorem dX9_alone_50 : decode cX9_alone 50 = .ok (.iload 4, 2) := by decide +kernel
theorem dX9_alone_52 : decode cX9_alone 52 = .ok (.invokevirtual 207, 3) := by decide +kernel
theorem dX9_alone_55 : decode cX9_alone 55 = .ok (.ifCond .eq 30, 3) := by decide +kernel
theorem dX9_alone_58 : decode cX9_alone 58 = .ok (.aload_n 0, 1) := by decide +kernel
theorem dX9_alone_59 : decode cX9_alone 59 = .ok (.getfield 26, 3) := by decide +kernel
theorem dX9_alone_62 : decode cX9_alone 62 = .ok (.iload 4, 2) := by decide +kernel
theorem dX9_alone_64 : decode cX9_alone 64 = .ok (.invokevirtual 242, 3) := by decide +kernel
theorem dX9_alone_67 : decode cX9_alone 67 = .ok (.aload_n 2, 1) := by decide +kernel
theorem dX9_alone_68 : decode cX9_alone 68 = .ok (.aload_n 0, 1) := by decide +kernel
theorem dX9_alone_69 : decode cX9_alone 69 = .ok (.getfield 26, 3) := by decide +kernel
theorem dX9_alone_72 : decode cX9_alone 72 = .ok (.invokevirtual 144, 3) := by decide +kernel
theorem dX9_alone_75 : decode cX9_alone 75 = .ok (.ifCond .ne 10, 3) := by decide +kernel
theorem dX9_alone_78 : decode cX9_alone 78 = .ok (.iload_n 3, 1) := by decide +kernel
theorem dX9_alone_79 : decode cX9_alone 79 = .ok (.iconst 1, 1) := by decide +kernel
theorem dX9_alone_80 : decode cX9_alone 80 = .ok (.iload 4, 2) := by decide +kernel
theorem dX9_alone_82 : decode cX9_alone 82 = .ok (.ishl, 1) := by decide +kernel
theorem dX9_alone_83 : decode cX9_alone 83 = .ok (.ior, 1) := by decide +kernel
theorem dX9_alone_84 : decode cX9_alone 84 = .ok (.istore_n 3, 1) := by decide +kernel
theorem dX9_alone_85 : decode cX9_alone 85 = .ok (.iinc 4 1, 3) := by decide +kernel
theorem dX9_alone_88 : decode cX9_alone 88 = .ok (.goto (-63), 3) := by decide +kernel
theorem dX9_alone_91 : decode cX9_alone 91 = .ok (.iload_n 3, 1) := by decide +kernel
theorem dX9_alone_92 : decode cX9_alone 92 = .ok (.ireturn, 1) := by decide +kernel
theorem dX9_canBe_0 : decode cX9_canBe 0 = .ok (.iload_n 1, 1) := by decide +kernel
theorem dX9_canBe_1 : decode cX9_canBe 1 = .ok (.invokestatic 243, 3) := by decide +kernel
theorem dX9_canBe_4 : decode cX9_canBe 4 = .ok (.ifCond .eq 10, 3) := by decide +kernel
theorem dX9_canBe_7 : decode cX9_canBe 7 = .ok (.iload_n 2, 1) := by decide +kernel
theorem dX9_canBe_8 : decode cX9_canBe 8 = .ok (.invokestatic 232, 3) := by decide +kernel
theorem dX9_canBe_11 : decode cX9_canBe 11 = .ok (.ifCond .ne 9, 3) := by decide +kernel
theorem dX9_canBe_14 : decode cX9_canBe 14 = .ok (.aload_n 0, 1) := by decide +kernel
theorem dX9_canBe_15 : decode cX9_canBe 15 = .ok (.iconst 1, 1) := by decide +kernel
theorem dX9_canBe_16 : decode cX9_canBe 16 = .ok (.invokevirtual 84, 3) := by decide +kernel
theorem dX9_canBe_19 : decode cX9_canBe 19 = .ok (.ireturn, 1) := by decide +kernel
theorem dX9_canBe_20 : decode cX9_canBe 20 = .ok (.aload_n 0, 1) := by decide +kernel
theorem dX9_canBe_21 : decode cX9_canBe 21 = .ok (.aload_n 0, 1) := by decide +kernel
theorem dX9_canBe_22 : decode cX9_canBe 22 = .ok (.getfield 72, 3) := by decide +kernel
theorem dX9_canBe_25 : decode cX9_canBe 25 = .ok (.iload_n 1, 1) := by decide +kernel
theorem dX9_canBe_26 : decode cX9_canBe 26 = .ok (.aaload, 1) := by decide +kernel
theorem dX9_canBe_27 : decode cX9_canBe 27 = .ok (.invokevirtual 246, 3) := by decide +kernel
theorem dX9_canBe_30 : decode cX9_canBe 30 = .ok (.ifCond .ne 9, 3) := by decide +kernel
theorem dX9_canBe_33 : decode cX9_canBe 33 = .ok (.aload_n 0, 1) := by decide +kernel
theorem dX9_canBe_34 : decode cX9_canBe 34 = .ok (.iconst 2, 1) := by decide +kernel
theorem dX9_canBe_35 : decode cX9_canBe 35 = .ok (.invokevirtual 84, 3) := by decide +kernel
theorem dX9_canBe_38 : decode cX9_canBe 38 = .ok (.ireturn, 1) := by decide +kernel
theorem dX9_canBe_39 : decode cX9_canBe 39 = .ok (.aload_n 0, 1) := by decide +kernel
theorem dX9_canBe_40 : decode cX9_canBe 40 = .ok (.invokevirtual 250, 3) := by decide +kernel
theorem dX9_canBe_43 : decode cX9_canBe 43 = .ok (.iconst 0, 1) := by decide +kernel
theorem dX9_canBe_44 : decode cX9_canBe 44 = .ok (.istore_n 3, 1) := by decide +kernel
theorem dX9_canBe_45 : decode cX9_canBe 45 = .ok (.iconst 0, 1) := by decide +kernel
theorem dX9_canBe_46 : decode cX9_canBe 46 = .ok (.istore 4, 2) := by decide +kernel
theorem dX9_canBe_48 : decode cX9_canBe 48 = .ok (.iload 4, 2) := by decide +kernel
theorem dX9_canBe_50 : decode cX9_canBe 50 = .ok (.sipush 600, 3) := by decide +kernel
theorem dX9_canBe_53 : decode cX9_canBe 53 = .ok (.if_icmp .ge 57, 3) := by decide +kernel
theorem dX9_canBe_56 : decode cX9_canBe 56 = .ok (.aload_n 0, 1) := by decide +kernel
theorem dX9_canBe_57 : decode cX9_canBe 57 = .ok (.getfield 26, 3) := by decide +kernel
theorem dX9_canBe_60 : decode cX9_canBe 60 = .ok (.iload 4, 2) := by decide +kernel
theorem dX9_canBe_62 : decode cX9_canBe 62 = .ok (.invokevirtual 253, 3) := by decide +kernel
theorem dX9_canBe_65 : decode cX9_canBe 65 = .ok (.aload_n 0, 1) := by decide +kernel
theorem dX9_canBe_66 : decode cX9_canBe 66 = .ok (.aload_n 0, 1) := by decide +kernel
theorem dX9_canBe_67 : decode cX9_canBe 67 = .ok (.getfield 72, 3) := by decide +kernel
theorem dX9_canBe_70 : decode cX9_canBe 70 = .ok (.iload_n 1, 1) := by decide +kernel
theorem dX9_canBe_71 : decode cX9_canBe 71 = .ok (.aaload, 1) := by decide +kernel
theorem dX9_canBe_72 : decode cX9_canBe 72 = .ok (.invokevirtual 256, 3) := by decide +kernel
theorem dX9_canBe_75 : decode cX9_canBe 75 = .ok (.ifCond .eq 29, 3) := by decide +kernel
theorem dX9_canBe_78 : decode cX9_canBe 78 = .ok (.iload_n 2, 1) := by decide +kernel
theorem dX9_canBe_79 : decode cX9_canBe 79 = .ok (.iconst 1, 1) := by decide +kernel
theorem dX9_canBe_80 : decode cX9_canBe 80 = .ok (.if_icmp .ne 21, 3) := by decide +kernel
theorem dX9_canBe_83 : decode cX9_canBe 83 = .ok (.sipush 1000, 3) := by decide +kernel
theorem dX9_canBe_86 : decode cX9_canBe 86 = .ok (.iload 4, 2) := by decide +kernel
theorem dX9_canBe_88 : decode cX9_canBe 88 = .ok (.sipush 300, 3) := by decide +kernel
theorem dX9_canBe_91 : decode cX9_canBe 91 = .ok (.idiv, 1) := by decide +kernel
theorem dX9_canBe_92 : decode cX9_canBe 92 = .ok (.imul, 1) := by decide +kernel
theorem dX9_canBe_93 : decode cX9_canBe 93 = .ok (.iload 4, 2) := by decide +kernel
theorem dX9_canBe_95 : decode cX9_canBe 95 = .ok (.sipush 300, 3) := by decide +kernel
theorem dX9_canBe_98 : decode cX9_canBe 98 = .ok (.irem, 1) := by decide +kernel
theorem dX9_canBe_99 : decode cX9_canBe 99 = .ok (.iadd, 1) := by decide +kernel
theorem dX9_canBe_100 : decode cX9_canBe 100 = .ok (.ireturn, 1) := by decide +kernel
theorem dX9_canBe_101 : decode cX9_canBe 101 = .ok (.iinc 3 1, 3) := by decide +kernel
theorem dX9_canBe_104 : decode cX9_canBe 104 = .ok (.iinc 4 1, 3) := by decide +kernel
theorem dX9_canBe_107 : decode cX9_canBe 107 = .ok (.goto (-59), 3) := by decide +kernel
theorem dX9_canBe_110 : decode cX9_canBe 110 = .ok (.iload_n 2, 1) := by decide +kernel
theorem dX9_canBe_111 : decode cX9_canBe 111 = .ok (.iconst 1, 1) := by decide +kernel
theorem dX9_canBe_112 : decode cX9_canBe 112 = .ok (.if_icmp .ne 11, 3) := by decide +kernel
theorem dX9_canBe_115 : decode cX9_canBe 115 = .ok (.aload_n 0, 1) := by decide +kernel
theorem dX9_canBe_116 : decode cX9_canBe 116 = .ok (.iconst 2, 1) := by decide +kernel
theorem dX9_canBe_117 : decode cX9_canBe 117 = .ok (.invokevirtual 84, 3) := by decide +kernel
theorem dX9_canBe_120 : decode cX9_canBe 120 = .ok (.goto 4, 3) := by decide +kernel
theorem dX9_canBe_123 : decode cX9_canBe 123 = .ok (.iload_n 3, 1) := by decide +kernel
theorem dX9_canBe_124 : decode cX9_canBe 124 = .ok (.ireturn, 1) := by decide +kernel
theorem dX9_tellsMost_0 : decode cX9_tellsMost 0 = .ok (.iload_n 1, 1) := by decide +kernel
theorem dX9_tellsMost_1 : decode cX9_tellsMost 1 = .ok (.invokestatic 243, 3) := by decide +kernel
theorem dX9_tellsMost_4 : decode cX9_tellsMost 4 = .ok (.ifCond .ne 9, 3) := by decide +kernel
theorem dX9_tellsMost_7 : decode cX9_tellsMost 7 = .ok (.aload_n 0, 1) := by decide +kernel
theorem dX9_tellsMost_8 : decode cX9_tellsMost 8 = .ok (.iconst 1, 1) := by decide +kernel
theorem dX9_tellsMost_9 : decode cX9_tellsMost 9 = .ok (.invokevirtual 84, 3) := by decide +kernel
theorem dX9_tellsMost_12 : decode cX9_tellsMost 12 = .ok (.ireturn, 1) := by decide +kernel
theorem dX9_tellsMost_13 : decode cX9_tellsMost 13 = .ok (.aload_n 0, 1) := by decide +kernel
theorem dX9_tellsMost_14 : decode cX9_tellsMost 14 = .ok (.aload_n 0, 1) := by decide +kernel
theorem dX9_tellsMost_15 : decode cX9_tellsMost 15 = .ok (.getfield 72, 3) := by decide +kernel
theorem dX9_tellsMost_18 : decode cX9_tellsMost 18 = .ok (.iload_n 1, 1) := by decide +kernel
theorem dX9_tellsMost_19 : decode cX9_tellsMost 19 = .ok (.aaload, 1) := by decide +kernel
theorem dX9_tellsMost_20 : decode cX9_tellsMost 20 = .ok (.invokevirtual 246, 3) := by decide +kernel
theorem dX9_tellsMost_23 : decode cX9_tellsMost 23 = .ok (.ifCond .eq 13, 3) := by decide +kernel
theorem dX9_tellsMost_26 : decode cX9_tellsMost 26 = .ok (.aload_n 0, 1) := by decide +kernel
theorem dX9_tellsMost_27 : decode cX9_tellsMost 27 = .ok (.getfield 10, 3) := by decide +kernel
theorem dX9_tellsMost_30 : decode cX9_tellsMost 30 = .ok (.getfield 104, 3) := by decide +kernel
theorem dX9_tellsMost_33 : decode cX9_tellsMost 33 = .ok (.ifCond .ne 9, 3) := by decide +kernel
theorem dX9_tellsMost_36 : decode cX9_tellsMost 36 = .ok (.aload_n 0, 1) := by decide +kernel
theorem dX9_tellsMost_37 : decode cX9_tellsMost 37 = .ok (.iconst 2, 1) := by decide +kernel
theorem dX9_tellsMost_38 : decode cX9_tellsMost 38 = .ok (.invokevirtual 84, 3) := by decide +kernel
theorem dX9_tellsMost_41 : decode cX9_tellsMost 41 = .ok (.ireturn, 1) := by decide +kernel
theorem dX9_tellsMost_42 : decode cX9_tellsMost 42 = .ok (.aload_n 0, 1) := by decide +kernel
theorem dX9_tellsMost_43 : decode cX9_tellsMost 43 = .ok (.invokevirtual 250, 3) := by decide +kernel
theorem dX9_tellsMost_46 : decode cX9_tellsMost 46 = .ok (.aload_n 0, 1) := by decide +kernel
theorem dX9_tellsMost_47 : decode cX9_tellsMost 47 = .ok (.getfield 43, 3) := by decide +kernel
theorem dX9_tellsMost_50 : decode cX9_tellsMost 50 = .ok (.iconst 0, 1) := by decide +kernel
theorem dX9_tellsMost_51 : decode cX9_tellsMost 51 = .ok (.invokestatic 259, 3) := by decide +kernel
theorem dX9_tellsMost_54 : decode cX9_tellsMost 54 = .ok (.iconst 0, 1) := by decide +kernel
theorem dX9_tellsMost_55 : decode cX9_tellsMost 55 = .ok (.istore_n 2, 1) := by decide +kernel
theorem dX9_tellsMost_56 : decode cX9_tellsMost 56 = .ok (.iload_n 2, 1) := by decide +kernel
theorem dX9_tellsMost_57 : decode cX9_tellsMost 57 = .ok (.sipush 600, 3) := by decide +kernel
theorem dX9_tellsMost_60 : decode cX9_tellsMost 60 = .ok (.if_icmp .ge 34, 3) := by decide +kernel
theorem dX9_tellsMost_63 : decode cX9_tellsMost 63 = .ok (.aload_n 0, 1) := by decide +kernel
theorem dX9_tellsMost_64 : decode cX9_tellsMost 64 = .ok (.getfield 26, 3) := by decide +kernel
theorem dX9_tellsMost_67 : decode cX9_tellsMost 67 = .ok (.iload_n 2, 1) := by decide +kernel
theorem dX9_tellsMost_68 : decode cX9_tellsMost 68 = .ok (.invokevirtual 253, 3) := by decide +kernel
theorem dX9_tellsMost_71 : decode cX9_tellsMost 71 = .ok (.aload_n 0, 1) := by decide +kernel
theorem dX9_tellsMost_72 : decode cX9_tellsMost 72 = .ok (.aload_n 0, 1) := by decide +kernel
theorem dX9_tellsMost_73 : decode cX9_tellsMost 73 = .ok (.getfield 72, 3) := by decide +kernel
theorem dX9_tellsMost_76 : decode cX9_tellsMost 76 = .ok (.iload_n 1, 1) := by decide +kernel
theorem dX9_tellsMost_77 : decode cX9_tellsMost 77 = .ok (.aaload, 1) := by decide +kernel
theorem dX9_tellsMost_78 : decode cX9_tellsMost 78 = .ok (.invokevirtual 256, 3) := by decide +kernel
theorem dX9_tellsMost_81 : decode cX9_tellsMost 81 = .ok (.ifCond .eq 7, 3) := by decide +kernel
theorem dX9_tellsMost_84 : decode cX9_tellsMost 84 = .ok (.aload_n 0, 1) := by decide +kernel
theorem dX9_tellsMost_85 : decode cX9_tellsMost 85 = .ok (.invokevirtual 264, 3) := by decide +kernel
theorem dX9_tellsMost_88 : decode cX9_tellsMost 88 = .ok (.iinc 2 1, 3) := by decide +kernel
theorem dX9_tellsMost_91 : decode cX9_tellsMost 91 = .ok (.goto (-35), 3) := by decide +kernel
theorem dX9_tellsMost_94 : decode cX9_tellsMost 94 = .ok (.iconst 0, 1) := by decide +kernel
theorem dX9_tellsMost_95 : decode cX9_tellsMost 95 = .ok (.istore_n 2, 1) := by decide +kernel
theorem dX9_tellsMost_96 : decode cX9_tellsMost 96 = .ok (.iconst 1, 1) := by decide +kernel
theorem dX9_tellsMost_97 : decode cX9_tellsMost 97 = .ok (.istore_n 3, 1) := by decide +kernel
theorem dX9_tellsMost_98 : decode cX9_tellsMost 98 = .ok (.iload_n 3, 1) := by decide +kernel
theorem dX9_tellsMost_99 : decode cX9_tellsMost 99 = .ok (.aload_n 0, 1) := by decide +kernel
theorem dX9_tellsMost_100 : decode cX9_tellsMost 100 = .ok (.getfield 10, 3) := by decide +kernel
theorem dX9_tellsMost_103 : decode cX9_tellsMost 103 = .ok (.getfield 104, 3) := by decide +kernel
theorem dX9_tellsMost_106 : decode cX9_tellsMost 106 = .ok (.if_icmp .ge 24, 3) := by decide +kernel
theorem dX9_tellsMost_109 : decode cX9_tellsMost 109 = .ok (.aload_n 0, 1) := by decide +kernel
theorem dX9_tellsMost_110 : decode cX9_tellsMost 110 = .ok (.iload_n 3, 1) := by decide +kernel
theorem dX9_tellsMost_111 : decode cX9_tellsMost 111 = .ok (.invokevirtual 267, 3) := by decide +kernel
theorem dX9_tellsMost_114 : decode cX9_tellsMost 114 = .ok (.aload_n 0, 1) := by decide +kernel
theorem dX9_tellsMost_115 : decode cX9_tellsMost 115 = .ok (.iload_n 2, 1) := by decide +kernel
theorem dX9_tellsMost_116 : decode cX9_tellsMost 116 = .ok (.invokevirtual 267, 3) := by decide +kernel
theorem dX9_tellsMost_119 : decode cX9_tellsMost 119 = .ok (.if_icmp .ge 5, 3) := by decide +kernel
theorem dX9_tellsMost_122 : decode cX9_tellsMost 122 = .ok (.iload_n 3, 1) := by decide +kernel
theorem dX9_tellsMost_123 : decode cX9_tellsMost 123 = .ok (.istore_n 2, 1) := by decide +kernel
theorem dX9_tellsMost_124 : decode cX9_tellsMost 124 = .ok (.iinc 3 1, 3) := by decide +kernel
theorem dX9_tellsMost_127 : decode cX9_tellsMost 127 = .ok (.goto (-29), 3) := by decide +kernel
theorem dX9_tellsMost_130 : decode cX9_tellsMost 130 = .ok (.iload_n 2, 1) := by decide +kernel
theorem dX9_tellsMost_131 : decode cX9_tellsMost 131 = .ok (.ireturn, 1) := by decide +kernel
theorem dX9_knobWas_0 : decode cX9_knobWas 0 = .ok (.aload_n 0, 1) := by decide +kernel
theorem dX9_knobWas_1 : decode cX9_knobWas 1 = .ok (.iload_n 1, 1) := by decide +kernel
theorem dX9_knobWas_2 : decode cX9_knobWas 2 = .ok (.invokevirtual 112, 3) := by decide +kernel
theorem dX9_knobWas_5 : decode cX9_knobWas 5 = .ok (.ifCond .eq 16, 3) := by decide +kernel
theorem dX9_knobWas_8 : decode cX9_knobWas 8 = .ok (.aload_n 0, 1) := by decide +kernel
theorem dX9_knobWas_9 : decode cX9_knobWas 9 = .ok (.iload_n 2, 1) := by decide +kernel
theorem dX9_knobWas_10 : decode cX9_knobWas 10 = .ok (.invokevirtual 112, 3) := by decide +kernel
theorem dX9_knobWas_13 : decode cX9_knobWas 13 = .ok (.ifCond .eq 8, 3) := by decide +kernel
theorem dX9_knobWas_16 : decode cX9_knobWas 16 = .ok (.iload_n 1, 1) := by decide +kernel
theorem dX9_knobWas_17 : decode cX9_knobWas 17 = .ok (.iload_n 2, 1) := by decide +kernel
theorem dX9_knobWas_18 : decode cX9_knobWas 18 = .ok (.if_icmp .ne 9, 3) := by decide +kernel
theorem dX9_knobWas_21 : decode cX9_knobWas 21 = .ok (.aload_n 0, 1) := by decide +kernel
theorem dX9_knobWas_22 : decode cX9_knobWas 22 = .ok (.iconst 1, 1) := by decide +kernel
theorem dX9_knobWas_23 : decode cX9_knobWas 23 = .ok (.invokevirtual 84, 3) := by decide +kernel
theorem dX9_knobWas_26 : decode cX9_knobWas 26 = .ok (.ireturn, 1) := by decide +kernel
theorem dX9_knobWas_27 : decode cX9_knobWas 27 = .ok (.iload_n 3, 1) := by decide +kernel
theorem dX9_knobWas_28 : decode cX9_knobWas 28 = .ok (.ifCond .lt 19, 3) := by decide +kernel
theorem dX9_knobWas_31 : decode cX9_knobWas 31 = .ok (.iload_n 3, 1) := by decide +kernel
theorem dX9_knobWas_32 : decode cX9_knobWas 32 = .ok (.bipush 10, 2) := by decide +kernel
theorem dX9_knobWas_34 : decode cX9_knobWas 34 = .ok (.idiv, 1) := by decide +kernel
theorem dX9_knobWas_35 : decode cX9_knobWas 35 = .ok (.iconst 5, 1) := by decide +kernel
theorem dX9_knobWas_36 : decode cX9_knobWas 36 = .ok (.if_icmp .ge 11, 3) := by decide +kernel
theorem dX9_knobWas_39 : decode cX9_knobWas 39 = .ok (.iload_n 3, 1) := by decide +kernel
theorem dX9_knobWas_40 : decode cX9_knobWas 40 = .ok (.bipush 10, 2) := by decide +kernel
theorem dX9_knobWas_42 : decode cX9_knobWas 42 = .ok (.irem, 1) := by decide +kernel
theorem dX9_knobWas_43 : decode cX9_knobWas 43 = .ok (.iconst 5, 1) := by decide +kernel
theorem dX9_knobWas_44 : decode cX9_knobWas 44 = .ok (.if_icmp .lt 9, 3) := by decide +kernel
theorem dX9_knobWas_47 : decode cX9_knobWas 47 = .ok (.aload_n 0, 1) := by decide +kernel
theorem dX9_knobWas_48 : decode cX9_knobWas 48 = .ok (.iconst 1, 1) := by decide +kernel
theorem dX9_knobWas_49 : decode cX9_knobWas 49 = .ok (.invokevirtual 84, 3) := by decide +kernel
theorem dX9_knobWas_52 : decode cX9_knobWas 52 = .ok (.ireturn, 1) := by decide +kernel
theorem dX9_knobWas_53 : decode cX9_knobWas 53 = .ok (.aload_n 0, 1) := by decide +kernel
theorem dX9_knobWas_54 : decode cX9_knobWas 54 = .ok (.iload_n 1, 1) := by decide +kernel
theorem dX9_knobWas_55 : decode cX9_knobWas 55 = .ok (.invokevirtual 130, 3) := by decide +kernel
theorem dX9_knobWas_58 : decode cX9_knobWas 58 = .ok (.astore 4, 2) := by decide +kernel
theorem dX9_knobWas_60 : decode cX9_knobWas 60 = .ok (.aload_n 0, 1) := by decide +kernel
theorem dX9_knobWas_61 : decode cX9_knobWas 61 = .ok (.iload_n 2, 1) := by decide +kernel
theorem dX9_knobWas_62 : decode cX9_knobWas 62 = .ok (.invokevirtual 130, 3) := by decide +kernel
theorem dX9_knobWas_65 : decode cX9_knobWas 65 = .ok (.astore 5, 2) := by decide +kernel
theorem dX9_knobWas_67 : decode cX9_knobWas 67 = .ok (.aload_n 0, 1) := by decide +kernel
theorem dX9_knobWas_68 : decode cX9_knobWas 68 = .ok (.getfield 26, 3) := by decide +kernel
theorem dX9_knobWas_71 : decode cX9_knobWas 71 = .ok (.aload_n 0, 1) := by decide +kernel
theorem dX9_knobWas_72 : decode cX9_knobWas 72 = .ok (.getfield 10, 3) := by decide +kernel
theorem dX9_knobWas_75 : decode cX9_knobWas 75 = .ok (.getfield 87, 3) := by decide +kernel
theorem dX9_knobWas_78 : decode cX9_knobWas 78 = .ok (.invokevirtual 222, 3) := by decide +kernel
theorem dX9_knobWas_81 : decode cX9_knobWas 81 = .ok (.iconst 0, 1) := by decide +kernel
theorem dX9_knobWas_82 : decode cX9_knobWas 82 = .ok (.istore 6, 2) := by decide +kernel
theorem dX9_knobWas_84 : decode cX9_knobWas 84 = .ok (.iconst 0, 1) := by decide +kernel
theorem dX9_knobWas_85 : decode cX9_knobWas 85 = .ok (.istore 7, 2) := by decide +kernel
theorem dX9_knobWas_87 : decode cX9_knobWas 87 = .ok (.iload 7, 2) := by decide +kernel
theorem dX9_knobWas_89 : decode cX9_knobWas 89 = .ok (.bipush 9, 2) := by decide +kernel
theorem dX9_knobWas_91 : decode cX9_knobWas 91 = .ok (.if_icmp .gt 59, 3) := by decide +kernel
theorem dX9_knobWas_94 : decode cX9_knobWas 94 = .ok (.aload_n 0, 1) := by decide +kernel
theorem dX9_knobWas_95 : decode cX9_knobWas 95 = .ok (.getfield 26, 3) := by decide +kernel
theorem dX9_knobWas_98 : decode cX9_knobWas 98 = .ok (.iload 7, 2) := by decide +kernel
theorem dX9_knobWas_100 : decode cX9_knobWas 100 = .ok (.putfield 270, 3) := by decide +kernel
theorem dX9_knobWas_103 : decode cX9_knobWas 103 = .ok (.aload 4, 2) := by decide +kernel
theorem dX9_knobWas_105 : decode cX9_knobWas 105 = .ok (.aload_n 0, 1) := by decide +kernel
theorem dX9_knobWas_106 : decode cX9_knobWas 106 = .ok (.getfield 26, 3) := by decide +kernel
theorem dX9_knobWas_109 : decode cX9_knobWas 109 = .ok (.invokevirtual 144, 3) := by decide +kernel
theorem dX9_knobWas_112 : decode cX9_knobWas 112 = .ok (.iload_n 3, 1) := by decide +kernel
theorem dX9_knobWas_113 : decode cX9_knobWas 113 = .ok (.bipush 10, 2) := by decide +kernel
theorem dX9_knobWas_115 : decode cX9_knobWas 115 = .ok (.idiv, 1) := by decide +kernel
theorem dX9_knobWas_116 : decode cX9_knobWas 116 = .ok (.if_icmp .ne 28, 3) := by decide +kernel
theorem dX9_knobWas_119 : decode cX9_knobWas 119 = .ok (.aload 5, 2) := by decide +kernel
theorem dX9_knobWas_121 : decode cX9_knobWas 121 = .ok (.aload_n 0, 1) := by decide +kernel
theorem dX9_knobWas_122 : decode cX9_knobWas 122 = .ok (.getfield 26, 3) := by decide +kernel
theorem dX9_knobWas_125 : decode cX9_knobWas 125 = .ok (.invokevirtual 144, 3) := by decide +kernel
theorem dX9_knobWas_128 : decode cX9_knobWas 128 = .ok (.iload_n 3, 1) := by decide +kernel
theorem dX9_knobWas_129 : decode cX9_knobWas 129 = .ok (.bipush 10, 2) := by decide +kernel
theorem dX9_knobWas_131 : decode cX9_knobWas 131 = .ok (.irem, 1) := by decide +kernel
theorem dX9_knobWas_132 : decode cX9_knobWas 132 = .ok (.if_icmp .ne 12, 3) := by decide +kernel
theorem dX9_knobWas_135 : decode cX9_knobWas 135 = .ok (.iload 6, 2) := by decide +kernel
theorem dX9_knobWas_137 : decode cX9_knobWas 137 = .ok (.iconst 1, 1) := by decide +kernel
theorem dX9_knobWas_138 : decode cX9_knobWas 138 = .ok (.iload 7, 2) := by decide +kernel
theorem dX9_knobWas_140 : decode cX9_knobWas 140 = .ok (.ishl, 1) := by decide +kernel
theorem dX9_knobWas_141 : decode cX9_knobWas 141 = .ok (.ior, 1) := by decide +kernel
theorem dX9_knobWas_142 : decode cX9_knobWas 142 = .ok (.istore 6, 2) := by decide +kernel
theorem dX9_knobWas_144 : decode cX9_knobWas 144 = .ok (.iinc 7 1, 3) := by decide +kernel
theorem dX9_knobWas_147 : decode cX9_knobWas 147 = .ok (.goto (-60), 3) := by decide +kernel
theorem dX9_knobWas_150 : decode cX9_knobWas 150 = .ok (.iload 6, 2) := by decide +kernel
theorem dX9_knobWas_152 : decode cX9_knobWas 152 = .ok (.ireturn, 1) := by decide +kernel
theorem dX9_row_0 : decode cX9_row 0 = .ok (.iload_n 1, 1) := by decide +kernel
theorem dX9_row_1 : decode cX9_row 1 = .ok (.iconst 1, 1) := by decide +kernel
theorem dX9_row_2 : decode cX9_row 2 = .ok (.if_icmp .lt 37, 3) := by decide +kernel
theorem dX9_row_5 : decode cX9_row 5 = .ok (.iload_n 1, 1) := by decide +kernel
theorem dX9_row_6 : decode cX9_row 6 = .ok (.iconst 4, 1) := by decide +kernel
theorem dX9_row_7 : decode cX9_row 7 = .ok (.if_icmp .gt 32, 3) := by decide +kernel
theorem dX9_row_10 : decode cX9_row 10 = .ok (.iload_n 1, 1) := by decide +kernel
theorem dX9_row_11 : decode cX9_row 11 = .ok (.aload_n 0, 1) := by decide +kernel
theorem dX9_row_12 : decode cX9_row 12 = .ok (.getfield 10, 3) := by decide +kernel
theorem dX9_row_15 : decode cX9_row 15 = .ok (.getfield 104, 3) := by decide +kernel
theorem dX9_row_18 : decode cX9_row 18 = .ok (.if_icmp .gt 21, 3) := by decide +kernel
theorem dX9_row_21 : decode cX9_row 21 = .ok (.iload_n 2, 1) := by decide +kernel
theorem dX9_row_22 : decode cX9_row 22 = .ok (.iconst 1, 1) := by decide +kernel
theorem dX9_row_23 : decode cX9_row 23 = .ok (.if_icmp .lt 16, 3) := by decide +kernel
theorem dX9_row_26 : decode cX9_row 26 = .ok (.iload_n 2, 1) := by decide +kernel
theorem dX9_row_27 : decode cX9_row 27 = .ok (.bipush 20, 2) := by decide +kernel
theorem dX9_row_29 : decode cX9_row 29 = .ok (.if_icmp .gt 10, 3) := by decide +kernel
theorem dX9_row_32 : decode cX9_row 32 = .ok (.iload_n 3, 1) := by decide +kernel
theorem dX9_row_33 : decode cX9_row 33 = .ok (.invokestatic 232, 3) := by decide +kernel
theorem dX9_row_36 : decode cX9_row 36 = .ok (.ifCond .ne 9, 3) := by decide +kernel
theorem dX9_row_39 : decode cX9_row 39 = .ok (.aload_n 0, 1) := by decide +kernel
theorem dX9_row_40 : decode cX9_row 40 = .ok (.iconst 1, 1) := by decide +kernel
theorem dX9_row_41 : decode cX9_row 41 = .ok (.invokevirtual 84, 3) := by decide +kernel
theorem dX9_row_44 : decode cX9_row 44 = .ok (.ireturn, 1) := by decide +kernel
theorem dX9_row_45 : decode cX9_row 45 = .ok (.aload_n 0, 1) := by decide +kernel
theorem dX9_row_46 : decode cX9_row 46 = .ok (.invokevirtual 216, 3) := by decide +kernel
theorem dX9_row_49 : decode cX9_row 49 = .ok (.aload_n 0, 1) := by decide +kernel
theorem dX9_row_50 : decode cX9_row 50 = .ok (.getfield 26, 3) := by decide +kernel
theorem dX9_row_53 : decode cX9_row 53 = .ok (.aload_n 0, 1) := by decide +kernel
theorem dX9_row_54 : decode cX9_row 54 = .ok (.getfield 10, 3) := by decide +kernel
theorem dX9_row_57 : decode cX9_row 57 = .ok (.getfield 87, 3) := by decide +kernel
theorem dX9_row_60 : decode cX9_row 60 = .ok (.invokevirtual 222, 3) := by decide +kernel
theorem dX9_row_63 : decode cX9_row 63 = .ok (.aload_n 0, 1) := by decide +kernel
theorem dX9_row_64 : decode cX9_row 64 = .ok (.getfield 52, 3) := by decide +kernel
theorem dX9_row_67 : decode cX9_row 67 = .ok (.aload_n 0, 1) := by decide +kernel
theorem dX9_row_68 : decode cX9_row 68 = .ok (.getfield 10, 3) := by decide +kernel
theorem dX9_row_71 : decode cX9_row 71 = .ok (.getfield 104, 3) := by decide +kernel
theorem dX9_row_74 : decode cX9_row 74 = .ok (.iload_n 1, 1) := by decide +kernel
theorem dX9_row_75 : decode cX9_row 75 = .ok (.iload_n 2, 1) := by decide +kernel
theorem dX9_row_76 : decode cX9_row 76 = .ok (.invokevirtual 273, 3) := by decide +kernel
theorem dX9_row_79 : decode cX9_row 79 = .ok (.aload_n 0, 1) := by decide +kernel
theorem dX9_row_80 : decode cX9_row 80 = .ok (.getfield 52, 3) := by decide +kernel
theorem dX9_row_83 : decode cX9_row 83 = .ok (.iconst 0, 1) := by decide +kernel
theorem dX9_row_84 : decode cX9_row 84 = .ok (.iconst 0, 1) := by decide +kernel
theorem dX9_row_85 : decode cX9_row 85 = .ok (.iconst 0, 1) := by decide +kernel
theorem dX9_row_86 : decode cX9_row 86 = .ok (.iconst 0, 1) := by decide +kernel
theorem dX9_row_87 : decode cX9_row 87 = .ok (.invokevirtual 276, 3) := by decide +kernel
theorem dX9_row_90 : decode cX9_row 90 = .ok (.iload_n 3, 1) := by decide +kernel
theorem dX9_row_91 : decode cX9_row 91 = .ok (.ifCond .ne 13, 3) := by decide +kernel
theorem dX9_row_94 : decode cX9_row 94 = .ok (.aload_n 0, 1) := by decide +kernel
theorem dX9_row_95 : decode cX9_row 95 = .ok (.getfield 52, 3) := by decide +kernel
theorem dX9_row_98 : decode cX9_row 98 = .ok (.getfield 280, 3) := by decide +kernel
theorem dX9_row_101 : decode cX9_row 101 = .ok (.goto 10, 3) := by decide +kernel
theorem dX9_row_104 : decode cX9_row 104 = .ok (.aload_n 0, 1) := by decide +kernel
theorem dX9_row_105 : decode cX9_row 105 = .ok (.getfield 52, 3) := by decide +kernel
theorem dX9_row_108 : decode cX9_row 108 = .ok (.getfield 283, 3) := by decide +kernel
theorem dX9_row_111 : decode cX9_row 111 = .ok (.ireturn, 1) := by decide +kernel
theorem dX9_odds_0 : decode cX9_odds 0 = .ok (.aload_n 0, 1) := by decide +kernel
theorem dX9_odds_1 : decode cX9_odds 1 = .ok (.iload_n 1, 1) := by decide +kernel
theorem dX9_odds_2 : decode cX9_odds 2 = .ok (.invokevirtual 112, 3) := by decide +kernel
theorem dX9_odds_5 : decode cX9_odds 5 = .ok (.ifCond .eq 10, 3) := by decide +kernel
theorem dX9_odds_8 : decode cX9_odds 8 = .ok (.iload_n 2, 1) := by decide +kernel
theorem dX9_odds_9 : decode cX9_odds 9 = .ok (.invokestatic 232, 3) := by decide +kernel
theorem dX9_odds_12 : decode cX9_odds 12 = .ok (.ifCond .ne 9, 3) := by decide +kernel
theorem dX9_odds_15 : decode cX9_odds 15 = .ok (.aload_n 0, 1) := by decide +kernel
theorem dX9_odds_16 : decode cX9_odds 16 = .ok (.iconst 1, 1) := by decide +kernel
theorem dX9_odds_17 : decode cX9_odds 17 = .ok (.invokevirtual 84, 3) := by decide +kernel
theorem dX9_odds_20 : decode cX9_odds 20 = .ok (.ireturn, 1) := by decide +kernel
theorem dX9_odds_21 : decode cX9_odds 21 = .ok (.aload_n 0, 1) := by decide +kernel
theorem dX9_odds_22 : decode cX9_odds 22 = .ok (.iload_n 1, 1) := by decide +kernel
theorem dX9_odds_23 : decode cX9_odds 23 = .ok (.invokevirtual 130, 3) := by decide +kernel
theorem dX9_odds_26 : decode cX9_odds 26 = .ok (.astore_n 3, 1) := by decide +kernel
theorem dX9_odds_27 : decode cX9_odds 27 = .ok (.aload_n 0, 1) := by decide +kernel
theorem dX9_odds_28 : decode cX9_odds 28 = .ok (.getfield 26, 3) := by decide +kernel
theorem dX9_odds_31 : decode cX9_odds 31 = .ok (.aload_n 0, 1) := by decide +kernel
theorem dX9_odds_32 : decode cX9_odds 32 = .ok (.getfield 10, 3) := by decide +kernel
theorem dX9_odds_35 : decode cX9_odds 35 = .ok (.getfield 87, 3) := by decide +kernel
theorem dX9_odds_38 : decode cX9_odds 38 = .ok (.invokevirtual 222, 3) := by decide +kernel
theorem dX9_odds_41 : decode cX9_odds 41 = .ok (.iconst 0, 1) := by decide +kernel
theorem dX9_odds_42 : decode cX9_odds 42 = .ok (.istore 4, 2) := by decide +kernel
theorem dX9_odds_44 : decode cX9_odds 44 = .ok (.iconst 0, 1) := by decide +kernel
theorem dX9_odds_45 : decode cX9_odds 45 = .ok (.istore 5, 2) := by decide +kernel
theorem dX9_odds_47 : decode cX9_odds 47 = .ok (.iload 5, 2) := by decide +kernel
theorem dX9_odds_49 : decode cX9_odds 49 = .ok (.bipush 9, 2) := by decide +kernel
theorem dX9_odds_51 : decode cX9_odds 51 = .ok (.if_icmp .gt 32, 3) := by decide +kernel
theorem dX9_odds_54 : decode cX9_odds 54 = .ok (.aload_n 0, 1) := by decide +kernel
theorem dX9_odds_55 : decode cX9_odds 55 = .ok (.getfield 26, 3) := by decide +kernel
theorem dX9_odds_58 : decode cX9_odds 58 = .ok (.iload 5, 2) := by decide +kernel
theorem dX9_odds_60 : decode cX9_odds 60 = .ok (.putfield 286, 3) := by decide +kernel
theorem dX9_odds_63 : decode cX9_odds 63 = .ok (.aload_n 3, 1) := by decide +kernel
theorem dX9_odds_64 : decode cX9_odds 64 = .ok (.aload_n 0, 1) := by decide +kernel
theorem dX9_odds_65 : decode cX9_odds 65 = .ok (.getfield 26, 3) := by decide +kernel
theorem dX9_odds_68 : decode cX9_odds 68 = .ok (.invokevirtual 144, 3) := by decide +kernel
theorem dX9_odds_71 : decode cX9_odds 71 = .ok (.ifCond .ne 6, 3) := by decide +kernel
theorem dX9_odds_74 : decode cX9_odds 74 = .ok (.iinc 4 1, 3) := by decide +kernel
theorem dX9_odds_77 : decode cX9_odds 77 = .ok (.iinc 5 1, 3) := by decide +kernel
theorem dX9_odds_80 : decode cX9_odds 80 = .ok (.goto (-33), 3) := by decide +kernel
theorem dX9_odds_83 : decode cX9_odds 83 = .ok (.iload_n 2, 1) := by decide +kernel
theorem dX9_odds_84 : decode cX9_odds 84 = .ok (.ifCond .ne 14, 3) := by decide +kernel
theorem dX9_odds_87 : decode cX9_odds 87 = .ok (.iload 4, 2) := by decide +kernel
theorem dX9_odds_89 : decode cX9_odds 89 = .ok (.iload 4, 2) := by decide +kernel
theorem dX9_odds_91 : decode cX9_odds 91 = .ok (.invokestatic 289, 3) := by decide +kernel
theorem dX9_odds_94 : decode cX9_odds 94 = .ok (.idiv, 1) := by decide +kernel
theorem dX9_odds_95 : decode cX9_odds 95 = .ok (.goto 11, 3) := by decide +kernel
theorem dX9_odds_98 : decode cX9_odds 98 = .ok (.bipush 10, 2) := by decide +kernel
theorem dX9_odds_100 : decode cX9_odds 100 = .ok (.iload 4, 2) := by decide +kernel
theorem dX9_odds_102 : decode cX9_odds 102 = .ok (.invokestatic 289, 3) := by decide +kernel
theorem dX9_odds_105 : decode cX9_odds 105 = .ok (.idiv, 1) := by decide +kernel
theorem dX9_odds_106 : decode cX9_odds 106 = .ok (.ireturn, 1) := by decide +kernel
theorem dX9_seed_0 : decode cX9_seed 0 = .ok (.aload_n 0, 1) := by decide +kernel
theorem dX9_seed_1 : decode cX9_seed 1 = .ok (.getfield 10, 3) := by decide +kernel
theorem dX9_seed_4 : decode cX9_seed 4 = .ok (.getfield 292, 3) := by decide +kernel
theorem dX9_seed_7 : decode cX9_seed 7 = .ok (.istore_n 2, 1) := by decide +kernel
theorem dX9_seed_8 : decode cX9_seed 8 = .ok (.aload_n 0, 1) := by decide +kernel
theorem dX9_seed_9 : decode cX9_seed 9 = .ok (.getfield 10, 3) := by decide +kernel
theorem dX9_seed_12 : decode cX9_seed 12 = .ok (.iload_n 1, 1) := by decide +kernel
theorem dX9_seed_13 : decode cX9_seed 13 = .ok (.putfield 292, 3) := by decide +kernel
theorem dX9_seed_16 : decode cX9_seed 16 = .ok (.iload_n 2, 1) := by decide +kernel
theorem dX9_seed_17 : decode cX9_seed 17 = .ok (.ireturn, 1) := by decide +kernel
theorem dX9_voice_0 : decode cX9_voice 0 = .ok (.aload_n 0, 1) := by decide +kernel
theorem dX9_voice_1 : decode cX9_voice 1 = .ok (.iload_n 1, 1) := by decide +kernel
theorem dX9_voice_2 : decode cX9_voice 2 = .ok (.invokevirtual 112, 3) := by decide +kernel
theorem dX9_voice_5 : decode cX9_voice 5 = .ok (.ifCond .eq 12, 3) := by decide +kernel
theorem dX9_voice_8 : decode cX9_voice 8 = .ok (.iload_n 2, 1) := by decide +kernel
theorem dX9_voice_9 : decode cX9_voice 9 = .ok (.ifCond .lt 8, 3) := by decide +kernel
theorem dX9_voice_12 : decode cX9_voice 12 = .ok (.iload_n 2, 1) := by decide +kernel
theorem dX9_voice_13 : decode cX9_voice 13 = .ok (.iconst 4, 1) := by decide +kernel
theorem dX9_voice_14 : decode cX9_voice 14 = .ok (.if_icmp .lt 9, 3) := by decide +kernel
theorem dX9_voice_17 : decode cX9_voice 17 = .ok (.aload_n 0, 1) := by decide +kernel
theorem dX9_voice_18 : decode cX9_voice 18 = .ok (.iconst 1, 1) := by decide +kernel
theorem dX9_voice_19 : decode cX9_voice 19 = .ok (.invokevirtual 84, 3) := by decide +kernel
theorem dX9_voice_22 : decode cX9_voice 22 = .ok (.ireturn, 1) := by decide +kernel
theorem dX9_voice_23 : decode cX9_voice 23 = .ok (.aload_n 0, 1) := by decide +kernel
theorem dX9_voice_24 : decode cX9_voice 24 = .ok (.getfield 66, 3) := by decide +kernel
theorem dX9_voice_27 : decode cX9_voice 27 = .ok (.aload_n 0, 1) := by decide +kernel
theorem dX9_voice_28 : decode cX9_voice 28 = .ok (.getfield 10, 3) := by decide +kernel
theorem dX9_voice_31 : decode cX9_voice 31 = .ok (.getfield 36, 3) := by decide +kernel
theorem dX9_voice_34 : decode cX9_voice 34 = .ok (.iload_n 1, 1) := by decide +kernel
theorem dX9_voice_35 : decode cX9_voice 35 = .ok (.aaload, 1) := by decide +kernel
theorem dX9_voice_36 : decode cX9_voice 36 = .ok (.iload_n 1, 1) := by decide +kernel
theorem dX9_voice_37 : decode cX9_voice 37 = .ok (.iload_n 2, 1) := by decide +kernel
theorem dX9_voice_38 : decode cX9_voice 38 = .ok (.iload_n 3, 1) := by decide +kernel
theorem dX9_voice_39 : decode cX9_voice 39 = .ok (.invokevirtual 295, 3) := by decide +kernel
theorem dX9_voice_42 : decode cX9_voice 42 = .ok (.ireturn, 1) := by decide +kernel
theorem dX9_trace_0 : decode cX9_trace 0 = .ok (.iload_n 1, 1) := by decide +kernel
theorem dX9_trace_1 : decode cX9_trace 1 = .ok (.ifCond .lt 14, 3) := by decide +kernel
theorem dX9_trace_4 : decode cX9_trace 4 = .ok (.iload_n 1, 1) := by decide +kernel
theorem dX9_trace_5 : decode cX9_trace 5 = .ok (.aload_n 0, 1) := by decide +kernel
theorem dX9_trace_6 : decode cX9_trace 6 = .ok (.getfield 66, 3) := by decide +kernel
theorem dX9_trace_9 : decode cX9_trace 9 = .ok (.getfield 299, 3) := by decide +kernel
theorem dX9_trace_12 : decode cX9_trace 12 = .ok (.if_icmp .lt 9, 3) := by decide +kernel
theorem dX9_trace_15 : decode cX9_trace 15 = .ok (.aload_n 0, 1) := by decide +kernel
theorem dX9_trace_16 : decode cX9_trace 16 = .ok (.iconst 2, 1) := by decide +kernel
theorem dX9_trace_17 : decode cX9_trace 17 = .ok (.invokevirtual 84, 3) := by decide +kernel
theorem dX9_trace_20 : decode cX9_trace 20 = .ok (.ireturn, 1) := by decide +kernel
theorem dX9_trace_21 : decode cX9_trace 21 = .ok (.aload_n 0, 1) := by decide +kernel
theorem dX9_trace_22 : decode cX9_trace 22 = .ok (.getfield 66, 3) := by decide +kernel
theorem dX9_trace_25 : decode cX9_trace 25 = .ok (.getfield 300, 3) := by decide +kernel
theorem dX9_trace_28 : decode cX9_trace 28 = .ok (.iload_n 1, 1) := by decide +kernel
theorem dX9_trace_29 : decode cX9_trace 29 = .ok (.iaload, 1) := by decide +kernel
theorem dX9_trace_30 : decode cX9_trace 30 = .ok (.ireturn, 1) := by decide +kernel
theorem dX9_sheet_0 : decode cX9_sheet 0 = .ok (.iload_n 1, 1) := by decide +kernel
theorem dX9_sheet_1 : decode cX9_sheet 1 = .ok (.invokestatic 243, 3) := by decide +kernel
theorem dX9_sheet_4 : decode cX9_sheet 4 = .ok (.ifCond .eq 10, 3) := by decide +kernel
theorem dX9_sheet_7 : decode cX9_sheet 7 = .ok (.iload_n 2, 1) := by decide +kernel
theorem dX9_sheet_8 : decode cX9_sheet 8 = .ok (.invokestatic 303, 3) := by decide +kernel
theorem dX9_sheet_11 : decode cX9_sheet 11 = .ok (.ifCond .ne 9, 3) := by decide +kernel
theorem dX9_sheet_14 : decode cX9_sheet 14 = .ok (.aload_n 0, 1) := by decide +kernel
theorem dX9_sheet_15 : decode cX9_sheet 15 = .ok (.iconst 1, 1) := by decide +kernel
theorem dX9_sheet_16 : decode cX9_sheet 16 = .ok (.invokevirtual 84, 3) := by decide +kernel
theorem dX9_sheet_19 : decode cX9_sheet 19 = .ok (.ireturn, 1) := by decide +kernel
theorem dX9_sheet_20 : decode cX9_sheet 20 = .ok (.iload_n 2, 1) := by decide +kernel
theorem dX9_sheet_21 : decode cX9_sheet 21 = .ok (.ifCond .ne 16, 3) := by decide +kernel
theorem dX9_sheet_24 : decode cX9_sheet 24 = .ok (.aload_n 0, 1) := by decide +kernel
theorem dX9_sheet_25 : decode cX9_sheet 25 = .ok (.getfield 72, 3) := by decide +kernel
theorem dX9_sheet_28 : decode cX9_sheet 28 = .ok (.iload_n 1, 1) := by decide +kernel
theorem dX9_sheet_29 : decode cX9_sheet 29 = .ok (.aaload, 1) := by decide +kernel
theorem dX9_sheet_30 : decode cX9_sheet 30 = .ok (.iconst 0, 1) := by decide +kernel
theorem dX9_sheet_31 : decode cX9_sheet 31 = .ok (.iconst 0, 1) := by decide +kernel
theorem dX9_sheet_32 : decode cX9_sheet 32 = .ok (.invokevirtual 306, 3) := by decide +kernel
theorem dX9_sheet_35 : decode cX9_sheet 35 = .ok (.iconst 1, 1) := by decide +kernel
theorem dX9_sheet_36 : decode cX9_sheet 36 = .ok (.ireturn, 1) := by decide +kernel
theorem dX9_sheet_37 : decode cX9_sheet 37 = .ok (.iload_n 3, 1) := by decide +kernel
theorem dX9_sheet_38 : decode cX9_sheet 38 = .ok (.ifCond .ge 9, 3) := by decide +kernel
theorem dX9_sheet_41 : decode cX9_sheet 41 = .ok (.aload_n 0, 1) := by decide +kernel
theorem dX9_sheet_42 : decode cX9_sheet 42 = .ok (.iconst 3, 1) := by decide +kernel
theorem dX9_sheet_43 : decode cX9_sheet 43 = .ok (.invokevirtual 84, 3) := by decide +kernel
theorem dX9_sheet_46 : decode cX9_sheet 46 = .ok (.ireturn, 1) := by decide +kernel
theorem dX9_sheet_47 : decode cX9_sheet 47 = .ok (.iload_n 3, 1) := by decide +kernel
theorem dX9_sheet_48 : decode cX9_sheet 48 = .ok (.bipush 40, 2) := by decide +kernel
theorem dX9_sheet_50 : decode cX9_sheet 50 = .ok (.if_icmp .le 9, 3) := by decide +kernel
theorem dX9_sheet_53 : decode cX9_sheet 53 = .ok (.aload_n 0, 1) := by decide +kernel
theorem dX9_sheet_54 : decode cX9_sheet 54 = .ok (.iconst 1, 1) := by decide +kernel
theorem dX9_sheet_55 : decode cX9_sheet 55 = .ok (.invokevirtual 84, 3) := by decide +kernel
theorem dX9_sheet_58 : decode cX9_sheet 58 = .ok (.ireturn, 1) := by decide +kernel
theorem dX9_sheet_59 : decode cX9_sheet 59 = .ok (.aload_n 0, 1) := by decide +kernel
theorem dX9_sheet_60 : decode cX9_sheet 60 = .ok (.getfield 72, 3) := by decide +kernel
theorem dX9_sheet_63 : decode cX9_sheet 63 = .ok (.iload_n 1, 1) := by decide +kernel
theorem dX9_sheet_64 : decode cX9_sheet 64 = .ok (.aaload, 1) := by decide +kernel
theorem dX9_sheet_65 : decode cX9_sheet 65 = .ok (.iload_n 2, 1) := by decide +kernel
theorem dX9_sheet_66 : decode cX9_sheet 66 = .ok (.iload_n 3, 1) := by decide +kernel
theorem dX9_sheet_67 : decode cX9_sheet 67 = .ok (.invokevirtual 306, 3) := by decide +kernel
theorem dX9_sheet_70 : decode cX9_sheet 70 = .ok (.iconst 1, 1) := by decide +kernel
theorem dX9_sheet_71 : decode cX9_sheet 71 = .ok (.ireturn, 1) := by decide +kernel
theorem dX9_put_0 : decode cX9_put 0 = .ok (.iload_n 1, 1) := by decide +kernel
theorem dX9_put_1 : decode cX9_put 1 = .ok (.invokestatic 243, 3) := by decide +kernel
theorem dX9_put_4 : decode cX9_put 4 = .ok (.ifCond .ne 9, 3) := by decide +kernel
theorem dX9_put_7 : decode cX9_put 7 = .ok (.aload_n 0, 1) := by decide +kernel
theorem dX9_put_8 : decode cX9_put 8 = .ok (.iconst 1, 1) := by decide +kernel
theorem dX9_put_9 : decode cX9_put 9 = .ok (.invokevirtual 84, 3) := by decide +kernel
theorem dX9_put_12 : decode cX9_put 12 = .ok (.ireturn, 1) := by decide +kernel
theorem dX9_put_13 : decode cX9_put 13 = .ok (.aload_n 0, 1) := by decide +kernel
theorem dX9_put_14 : decode cX9_put 14 = .ok (.getfield 72, 3) := by decide +kernel
theorem dX9_put_17 : decode cX9_put 17 = .ok (.iload_n 1, 1) := by decide +kernel
theorem dX9_put_18 : decode cX9_put 18 = .ok (.aaload, 1) := by decide +kernel
theorem dX9_put_19 : decode cX9_put 19 = .ok (.astore 4, 2) := by decide +kernel
theorem dX9_put_21 : decode cX9_put 21 = .ok (.aload 4, 2) := by decide +kernel
theorem dX9_put_23 : decode cX9_put 23 = .ok (.invokevirtual 309, 3) := by decide +kernel
theorem dX9_put_26 : decode cX9_put 26 = .ok (.ifCond .eq 9, 3) := by decide +kernel
theorem dX9_put_29 : decode cX9_put 29 = .ok (.aload_n 0, 1) := by decide +kernel
theorem dX9_put_30 : decode cX9_put 30 = .ok (.iconst 2, 1) := by decide +kernel
theorem dX9_put_31 : decode cX9_put 31 = .ok (.invokevirtual 84, 3) := by decide +kernel
theorem dX9_put_34 : decode cX9_put 34 = .ok (.ireturn, 1) := by decide +kernel
theorem dX9_put_35 : decode cX9_put 35 = .ok (.iload_n 2, 1) := by decide +kernel
theorem dX9_put_36 : decode cX9_put 36 = .ok (.ifCond .lt 12, 3) := by decide +kernel
theorem dX9_put_39 : decode cX9_put 39 = .ok (.iload_n 2, 1) := by decide +kernel
theorem dX9_put_40 : decode cX9_put 40 = .ok (.aload 4, 2) := by decide +kernel
theorem dX9_put_42 : decode cX9_put 42 = .ok (.getfield 313, 3) := by decide +kernel
theorem dX9_put_45 : decode cX9_put 45 = .ok (.if_icmp .lt 9, 3) := by decide +kernel
theorem dX9_put_48 : decode cX9_put 48 = .ok (.aload_n 0, 1) := by decide +kernel
theorem dX9_put_49 : decode cX9_put 49 = .ok (.iconst 1, 1) := by decide +kernel
theorem dX9_put_50 : decode cX9_put 50 = .ok (.invokevirtual 84, 3) := by decide +kernel
theorem dX9_put_53 : decode cX9_put 53 = .ok (.ireturn, 1) := by decide +kernel
theorem dX9_put_54 : decode cX9_put 54 = .ok (.aload 4, 2) := by decide +kernel
theorem dX9_put_56 : decode cX9_put 56 = .ok (.iload_n 2, 1) := by decide +kernel
theorem dX9_put_57 : decode cX9_put 57 = .ok (.iload_n 3, 1) := by decide +kernel
theorem dX9_put_58 : decode cX9_put 58 = .ok (.invokevirtual 314, 3) := by decide +kernel
theorem dX9_put_61 : decode cX9_put 61 = .ok (.iconst 1, 1) := by decide +kernel
theorem dX9_put_62 : decode cX9_put 62 = .ok (.ireturn, 1) := by decide +kernel
theorem dX9_move_0 : decode cX9_move 0 = .ok (.iload_n 1, 1) := by decide +kernel
theorem dX9_move_1 : decode cX9_move 1 = .ok (.invokestatic 243, 3) := by decide +kernel
theorem dX9_move_4 : decode cX9_move 4 = .ok (.ifCond .eq 10, 3) := by decide +kernel
theorem dX9_move_7 : decode cX9_move 7 = .ok (.iload_n 3, 1) := by decide +kernel
theorem dX9_move_8 : decode cX9_move 8 = .ok (.invokestatic 243, 3) := by decide +kernel
theorem dX9_move_11 : decode cX9_move 11 = .ok (.ifCond .ne 9, 3) := by decide +kernel
theorem dX9_move_14 : decode cX9_move 14 = .ok (.aload_n 0, 1) := by decide +kernel
theorem dX9_move_15 : decode cX9_move 15 = .ok (.iconst 1, 1) := by decide +kernel
theorem dX9_move_16 : decode cX9_move 16 = .ok (.invokevirtual 84, 3) := by decide +kernel
theorem dX9_move_19 : decode cX9_move 19 = .ok (.ireturn, 1) := by decide +kernel
theorem dX9_move_20 : decode cX9_move 20 = .ok (.aload_n 0, 1) := by decide +kernel
theorem dX9_move_21 : decode cX9_move 21 = .ok (.getfield 72, 3) := by decide +kernel
theorem dX9_move_24 : decode cX9_move 24 = .ok (.iload_n 1, 1) := by decide +kernel
theorem dX9_move_25 : decode cX9_move 25 = .ok (.aaload, 1) := by decide +kernel
theorem dX9_move_26 : decode cX9_move 26 = .ok (.astore 6, 2) := by decide +kernel
theorem dX9_move_28 : decode cX9_move 28 = .ok (.aload_n 0, 1) := by decide +kernel
theorem dX9_move_29 : decode cX9_move 29 = .ok (.getfield 72, 3) := by decide +kernel
theorem dX9_move_32 : decode cX9_move 32 = .ok (.iload_n 3, 1) := by decide +kernel
theorem dX9_move_33 : decode cX9_move 33 = .ok (.aaload, 1) := by decide +kernel
theorem dX9_move_34 : decode cX9_move 34 = .ok (.astore 7, 2) := by decide +kernel
theorem dX9_move_36 : decode cX9_move 36 = .ok (.aload 6, 2) := by decide +kernel
theorem dX9_move_38 : decode cX9_move 38 = .ok (.invokevirtual 309, 3) := by decide +kernel
theorem dX9_move_41 : decode cX9_move 41 = .ok (.ifCond .ne 11, 3) := by decide +kernel
theorem dX9_move_44 : decode cX9_move 44 = .ok (.aload 7, 2) := by decide +kernel
theorem dX9_move_46 : decode cX9_move 46 = .ok (.invokevirtual 309, 3) := by decide +kernel
theorem dX9_move_49 : decode cX9_move 49 = .ok (.ifCond .eq 9, 3) := by decide +kernel
theorem dX9_move_52 : decode cX9_move 52 = .ok (.aload_n 0, 1) := by decide +kernel
theorem dX9_move_53 : decode cX9_move 53 = .ok (.iconst 2, 1) := by decide +kernel
theorem dX9_move_54 : decode cX9_move 54 = .ok (.invokevirtual 84, 3) := by decide +kernel
theorem dX9_move_57 : decode cX9_move 57 = .ok (.ireturn, 1) := by decide +kernel
theorem dX9_move_58 : decode cX9_move 58 = .ok (.aload 6, 2) := by decide +kernel
theorem dX9_move_60 : decode cX9_move 60 = .ok (.getfield 317, 3) := by decide +kernel
theorem dX9_move_63 : decode cX9_move 63 = .ok (.aload 7, 2) := by decide +kernel
theorem dX9_move_65 : decode cX9_move 65 = .ok (.getfield 317, 3) := by decide +kernel
theorem dX9_move_68 : decode cX9_move 68 = .ok (.if_icmp .eq 9, 3) := by decide +kernel
theorem dX9_move_71 : decode cX9_move 71 = .ok (.aload_n 0, 1) := by decide +kernel
theorem dX9_move_72 : decode cX9_move 72 = .ok (.iconst 5, 1) := by decide +kernel
theorem dX9_move_73 : decode cX9_move 73 = .ok (.invokevirtual 84, 3) := by decide +kernel
theorem dX9_move_76 : decode cX9_move 76 = .ok (.ireturn, 1) := by decide +kernel
theorem dX9_move_77 : decode cX9_move 77 = .ok (.aload 6, 2) := by decide +kernel
theorem dX9_move_79 : decode cX9_move 79 = .ok (.iload_n 2, 1) := by decide +kernel
theorem dX9_move_80 : decode cX9_move 80 = .ok (.iload 5, 2) := by decide +kernel
theorem dX9_move_82 : decode cX9_move 82 = .ok (.invokevirtual 320, 3) := by decide +kernel
theorem dX9_move_85 : decode cX9_move 85 = .ok (.ifCond .eq 15, 3) := by decide +kernel
theorem dX9_move_88 : decode cX9_move 88 = .ok (.aload 7, 2) := by decide +kernel
theorem dX9_move_90 : decode cX9_move 90 = .ok (.iload 4, 2) := by decide +kernel
theorem dX9_move_92 : decode cX9_move 92 = .ok (.iload 5, 2) := by decide +kernel
theorem dX9_move_94 : decode cX9_move 94 = .ok (.invokevirtual 320, 3) := by decide +kernel
theorem dX9_move_97 : decode cX9_move 97 = .ok (.ifCond .ne 9, 3) := by decide +kernel
theorem dX9_move_100 : decode cX9_move 100 = .ok (.aload_n 0, 1) := by decide +kernel
theorem dX9_move_101 : decode cX9_move 101 = .ok (.iconst 1, 1) := by decide +kernel
theorem dX9_move_102 : decode cX9_move 102 = .ok (.invokevirtual 84, 3) := by decide +kernel
theorem dX9_move_105 : decode cX9_move 105 = .ok (.ireturn, 1) := by decide +kernel
theorem dX9_move_106 : decode cX9_move 106 = .ok (.aload 6, 2) := by decide +kernel
theorem dX9_move_108 : decode cX9_move 108 = .ok (.getfield 324, 3) := by decide +kernel
theorem dX9_move_111 : decode cX9_move 111 = .ok (.iload_n 2, 1) := by decide +kernel
theorem dX9_move_112 : decode cX9_move 112 = .ok (.aload 7, 2) := by decide +kernel
theorem dX9_move_114 : decode cX9_move 114 = .ok (.getfield 324, 3) := by decide +kernel
theorem dX9_move_117 : decode cX9_move 117 = .ok (.iload 4, 2) := by decide +kernel
theorem dX9_move_119 : decode cX9_move 119 = .ok (.iload 5, 2) := by decide +kernel
theorem dX9_move_121 : decode cX9_move 121 = .ok (.invokestatic 327, 3) := by decide +kernel
theorem dX9_move_124 : decode cX9_move 124 = .ok (.iload 5, 2) := by decide +kernel
theorem dX9_move_126 : decode cX9_move 126 = .ok (.ireturn, 1) := by decide +kernel
theorem dX9_thicks_0 : decode cX9_thicks 0 = .ok (.iload_n 1, 1) := by decide +kernel
theorem dX9_thicks_1 : decode cX9_thicks 1 = .ok (.invokestatic 243, 3) := by decide +kernel
theorem dX9_thicks_4 : decode cX9_thicks 4 = .ok (.ifCond .ne 9, 3) := by decide +kernel
theorem dX9_thicks_7 : decode cX9_thicks 7 = .ok (.aload_n 0, 1) := by decide +kernel
theorem dX9_thicks_8 : decode cX9_thicks 8 = .ok (.iconst 1, 1) := by decide +kernel
theorem dX9_thicks_9 : decode cX9_thicks 9 = .ok (.invokevirtual 84, 3) := by decide +kernel
theorem dX9_thicks_12 : decode cX9_thicks 12 = .ok (.ireturn, 1) := by decide +kernel
theorem dX9_thicks_13 : decode cX9_thicks 13 = .ok (.aload_n 0, 1) := by decide +kernel
theorem dX9_thicks_14 : decode cX9_thicks 14 = .ok (.getfield 72, 3) := by decide +kernel
theorem dX9_thicks_17 : decode cX9_thicks 17 = .ok (.iload_n 1, 1) := by decide +kernel
theorem dX9_thicks_18 : decode cX9_thicks 18 = .ok (.aaload, 1) := by decide +kernel
theorem dX9_thicks_19 : decode cX9_thicks 19 = .ok (.astore_n 2, 1) := by decide +kernel
theorem dX9_thicks_20 : decode cX9_thicks 20 = .ok (.aload_n 2, 1) := by decide +kernel
theorem dX9_thicks_21 : decode cX9_thicks 21 = .ok (.invokevirtual 309, 3) := by decide +kernel
theorem dX9_thicks_24 : decode cX9_thicks 24 = .ok (.ifCond .eq 9, 3) := by decide +kernel
theorem dX9_thicks_27 : decode cX9_thicks 27 = .ok (.aload_n 0, 1) := by decide +kernel
theorem dX9_thicks_28 : decode cX9_thicks 28 = .ok (.iconst 2, 1) := by decide +kernel
theorem dX9_thicks_29 : decode cX9_thicks 29 = .ok (.invokevirtual 84, 3) := by decide +kernel
theorem dX9_thicks_32 : decode cX9_thicks 32 = .ok (.ireturn, 1) := by decide +kernel
theorem dX9_thicks_33 : decode cX9_thicks 33 = .ok (.aload_n 2, 1) := by decide +kernel
theorem dX9_thicks_34 : decode cX9_thicks 34 = .ok (.getfield 313, 3) := by decide +kernel
theorem dX9_thicks_37 : decode cX9_thicks 37 = .ok (.aload_n 0, 1) := by decide +kernel
theorem dX9_thicks_38 : decode cX9_thicks 38 = .ok (.getfield 10, 3) := by decide +kernel
theorem dX9_thicks_41 : decode cX9_thicks 41 = .ok (.getfield 104, 3) := by decide +kernel
theorem dX9_thicks_44 : decode cX9_thicks 44 = .ok (.invokestatic 333, 3) := by decide +kernel
theorem dX9_thicks_47 : decode cX9_thicks 47 = .ok (.istore_n 3, 1) := by decide +kernel
theorem dX9_thicks_48 : decode cX9_thicks 48 = .ok (.iconst 0, 1) := by decide +kernel
theorem dX9_thicks_49 : decode cX9_thicks 49 = .ok (.istore 4, 2) := by decide +kernel
theorem dX9_thicks_51 : decode cX9_thicks 51 = .ok (.iload 4, 2) := by decide +kernel
theorem dX9_thicks_53 : decode cX9_thicks 53 = .ok (.iload_n 3, 1) := by decide +kernel
theorem dX9_thicks_54 : decode cX9_thicks 54 = .ok (.if_icmp .ge 45, 3) := by decide +kernel
theorem dX9_thicks_57 : decode cX9_thicks 57 = .ok (.aload_n 2, 1) := by decide +kernel
theorem dX9_thicks_58 : decode cX9_thicks 58 = .ok (.getfield 324, 3) := by decide +kernel
theorem dX9_thicks_61 : decode cX9_thicks 61 = .ok (.iload 4, 2) := by decide +kernel
theorem dX9_thicks_63 : decode cX9_thicks 63 = .ok (.iaload, 1) := by decide +kernel
theorem dX9_thicks_64 : decode cX9_thicks 64 = .ok (.invokestatic 101, 3) := by decide +kernel
theorem dX9_thicks_67 : decode cX9_thicks 67 = .ok (.ifCond .ne 6, 3) := by decide +kernel
theorem dX9_thicks_70 : decode cX9_thicks 70 = .ok (.iload 4, 2) := by decide +kernel
theorem dX9_thicks_72 : decode cX9_thicks 72 = .ok (.ireturn, 1) := by decide +kernel
theorem dX9_thicks_73 : decode cX9_thicks 73 = .ok (.aload_n 0, 1) := by decide +kernel
theorem dX9_thicks_74 : decode cX9_thicks 74 = .ok (.getfield 10, 3) := by decide +kernel
theorem dX9_thicks_77 : decode cX9_thicks 77 = .ok (.getfield 36, 3) := by decide +kernel
theorem dX9_thicks_80 : decode cX9_thicks 80 = .ok (.iload 4, 2) := by decide +kernel
theorem dX9_thicks_82 : decode cX9_thicks 82 = .ok (.aaload, 1) := by decide +kernel
theorem dX9_thicks_83 : decode cX9_thicks 83 = .ok (.aload_n 2, 1) := by decide +kernel
theorem dX9_thicks_84 : decode cX9_thicks 84 = .ok (.getfield 324, 3) := by decide +kernel
theorem dX9_thicks_87 : decode cX9_thicks 87 = .ok (.iload 4, 2) := by decide +kernel
theorem dX9_thicks_89 : decode cX9_thicks 89 = .ok (.iaload, 1) := by decide +kernel
theorem dX9_thicks_90 : decode cX9_thicks 90 = .ok (.putfield 121, 3) := by decide +kernel
theorem dX9_thicks_93 : decode cX9_thicks 93 = .ok (.iinc 4 1, 3) := by decide +kernel
theorem dX9_thicks_96 : decode cX9_thicks 96 = .ok (.goto (-45), 3) := by decide +kernel
theorem dX9_thicks_99 : decode cX9_thicks 99 = .ok (.iload_n 3, 1) := by decide +kernel
theorem dX9_thicks_100 : decode cX9_thicks 100 = .ok (.ireturn, 1) := by decide +kernel
theorem dX9_judge_0 : decode cX9_judge 0 = .ok (.iload_n 1, 1) := by decide +kernel
theorem dX9_judge_1 : decode cX9_judge 1 = .ok (.invokestatic 243, 3) := by decide +kernel
theorem dX9_judge_4 : decode cX9_judge 4 = .ok (.ifCond .ne 9, 3) := by decide +kernel
theorem dX9_judge_7 : decode cX9_judge 7 = .ok (.aload_n 0, 1) := by decide +kernel
theorem dX9_judge_8 : decode cX9_judge 8 = .ok (.iconst 1, 1) := by decide +kernel
theorem dX9_judge_9 : decode cX9_judge 9 = .ok (.invokevirtual 84, 3) := by decide +kernel
theorem dX9_judge_12 : decode cX9_judge 12 = .ok (.ireturn, 1) := by decide +kernel
theorem dX9_judge_13 : decode cX9_judge 13 = .ok (.aload_n 0, 1) := by decide +kernel
theorem dX9_judge_14 : decode cX9_judge 14 = .ok (.getfield 72, 3) := by decide +kernel
theorem dX9_judge_17 : decode cX9_judge 17 = .ok (.iload_n 1, 1) := by decide +kernel
theorem dX9_judge_18 : decode cX9_judge 18 = .ok (.aaload, 1) := by decide +kernel
theorem dX9_judge_19 : decode cX9_judge 19 = .ok (.astore_n 2, 1) := by decide +kernel
theorem dX9_judge_20 : decode cX9_judge 20 = .ok (.aload_n 2, 1) := by decide +kernel
theorem dX9_judge_21 : decode cX9_judge 21 = .ok (.invokevirtual 309, 3) := by decide +kernel
theorem dX9_judge_24 : decode cX9_judge 24 = .ok (.ifCond .eq 9, 3) := by decide +kernel
theorem dX9_judge_27 : decode cX9_judge 27 = .ok (.aload_n 0, 1) := by decide +kernel
theorem dX9_judge_28 : decode cX9_judge 28 = .ok (.iconst 2, 1) := by decide +kernel
theorem dX9_judge_29 : decode cX9_judge 29 = .ok (.invokevirtual 84, 3) := by decide +kernel
theorem dX9_judge_32 : decode cX9_judge 32 = .ok (.ireturn, 1) := by decide +kernel
theorem dX9_judge_33 : decode cX9_judge 33 = .ok (.aload_n 2, 1) := by decide +kernel
theorem dX9_judge_34 : decode cX9_judge 34 = .ok (.getfield 313, 3) := by decide +kernel
theorem dX9_judge_37 : decode cX9_judge 37 = .ok (.aload_n 0, 1) := by decide +kernel
theorem dX9_judge_38 : decode cX9_judge 38 = .ok (.getfield 10, 3) := by decide +kernel
theorem dX9_judge_41 : decode cX9_judge 41 = .ok (.getfield 104, 3) := by decide +kernel
theorem dX9_judge_44 : decode cX9_judge 44 = .ok (.invokestatic 333, 3) := by decide +kernel
theorem dX9_judge_47 : decode cX9_judge 47 = .ok (.istore_n 3, 1) := by decide +kernel
theorem dX9_judge_48 : decode cX9_judge 48 = .ok (.iconst 0, 1) := by decide +kernel
theorem dX9_judge_49 : decode cX9_judge 49 = .ok (.istore 4, 2) := by decide +kernel
theorem dX9_judge_51 : decode cX9_judge 51 = .ok (.iload 4, 2) := by decide +kernel
theorem dX9_judge_53 : decode cX9_judge 53 = .ok (.iload_n 3, 1) := by decide +kernel
theorem dX9_judge_54 : decode cX9_judge 54 = .ok (.if_icmp .ge 38, 3) := by decide +kernel
theorem dX9_judge_57 : decode cX9_judge 57 = .ok (.aload_n 0, 1) := by decide +kernel
theorem dX9_judge_58 : decode cX9_judge 58 = .ok (.iload 4, 2) := by decide +kernel
theorem dX9_judge_60 : decode cX9_judge 60 = .ok (.invokevirtual 130, 3) := by decide +kernel
theorem dX9_judge_63 : decode cX9_judge 63 = .ok (.aload_n 0, 1) := by decide +kernel
theorem dX9_judge_64 : decode cX9_judge 64 = .ok (.getfield 10, 3) := by decide +kernel
theorem dX9_judge_67 : decode cX9_judge 67 = .ok (.getfield 87, 3) := by decide +kernel
theorem dX9_judge_70 : decode cX9_judge 70 = .ok (.invokevirtual 144, 3) := by decide +kernel
theorem dX9_judge_73 : decode cX9_judge 73 = .ok (.aload_n 2, 1) := by decide +kernel
theorem dX9_judge_74 : decode cX9_judge 74 = .ok (.getfield 324, 3) := by decide +kernel
theorem dX9_judge_77 : decode cX9_judge 77 = .ok (.iload 4, 2) := by decide +kernel
theorem dX9_judge_79 : decode cX9_judge 79 = .ok (.iaload, 1) := by decide +kernel
theorem dX9_judge_80 : decode cX9_judge 80 = .ok (.if_icmp .eq 6, 3) := by decide +kernel
theorem dX9_judge_83 : decode cX9_judge 83 = .ok (.iload 4, 2) := by decide +kernel
theorem dX9_judge_85 : decode cX9_judge 85 = .ok (.ireturn, 1) := by decide +kernel
theorem dX9_judge_86 : decode cX9_judge 86 = .ok (.iinc 4 1, 3) := by decide +kernel
theorem dX9_judge_89 : decode cX9_judge 89 = .ok (.goto (-38), 3) := by decide +kernel
theorem dX9_judge_92 : decode cX9_judge 92 = .ok (.aload_n 2, 1) := by decide +kernel
theorem dX9_judge_93 : decode cX9_judge 93 = .ok (.getfield 313, 3) := by decide +kernel
theorem dX9_judge_96 : decode cX9_judge 96 = .ok (.aload_n 0, 1) := by decide +kernel
theorem dX9_judge_97 : decode cX9_judge 97 = .ok (.getfield 10, 3) := by decide +kernel
theorem dX9_judge_100 : decode cX9_judge 100 = .ok (.getfield 104, 3) := by decide +kernel
theorem dX9_judge_103 : decode cX9_judge 103 = .ok (.if_icmp .ne 7, 3) := by decide +kernel
theorem dX9_judge_106 : decode cX9_judge 106 = .ok (.iconst (-1), 1) := by decide +kernel
theorem dX9_judge_107 : decode cX9_judge 107 = .ok (.goto 4, 3) := by decide +kernel
theorem dX9_judge_110 : decode cX9_judge 110 = .ok (.iload_n 3, 1) := by decide +kernel
theorem dX9_judge_111 : decode cX9_judge 111 = .ok (.ireturn, 1) := by decide +kernel
theorem dX9_image_0 : decode cX9_image 0 = .ok (.aload_n 0, 1) := by decide +kernel
theorem dX9_image_1 : decode cX9_image 1 = .ok (.getfield 16, 3) := by decide +kernel
theorem dX9_image_4 : decode cX9_image 4 = .ok (.aload_n 0, 1) := by decide +kernel
theorem dX9_image_5 : decode cX9_image 5 = .ok (.getfield 10, 3) := by decide +kernel
theorem dX9_image_8 : decode cX9_image 8 = .ok (.invokevirtual 339, 3) := by decide +kernel
theorem dX9_image_11 : decode cX9_image 11 = .ok (.aload_n 0, 1) := by decide +kernel
theorem dX9_image_12 : decode cX9_image 12 = .ok (.dup, 1) := by decide +kernel
theorem dX9_image_13 : decode cX9_image 13 = .ok (.getfield 19, 3) := by decide +kernel
theorem dX9_image_16 : decode cX9_image 16 = .ok (.iconst 1, 1) := by decide +kernel
theorem dX9_image_17 : decode cX9_image 17 = .ok (.iadd, 1) := by decide +kernel
theorem dX9_image_18 : decode cX9_image 18 = .ok (.putfield 19, 3) := by decide +kernel
theorem dX9_image_21 : decode cX9_image 21 = .ok (.aload_n 0, 1) := by decide +kernel
theorem dX9_image_22 : decode cX9_image 22 = .ok (.getfield 19, 3) := by decide +kernel
theorem dX9_image_25 : decode cX9_image 25 = .ok (.ireturn, 1) := by decide +kernel
theorem dX9_restore_0 : decode cX9_restore 0 = .ok (.aload_n 0, 1) := by decide +kernel
theorem dX9_restore_1 : decode cX9_restore 1 = .ok (.getfield 19, 3) := by decide +kernel
theorem dX9_restore_4 : decode cX9_restore 4 = .ok (.ifCond .ne 9, 3) := by decide +kernel
theorem dX9_restore_7 : decode cX9_restore 7 = .ok (.aload_n 0, 1) := by decide +kernel
theorem dX9_restore_8 : decode cX9_restore 8 = .ok (.iconst 2, 1) := by decide +kernel
theorem dX9_restore_9 : decode cX9_restore 9 = .ok (.invokevirtual 84, 3) := by decide +kernel
theorem dX9_restore_12 : decode cX9_restore 12 = .ok (.ireturn, 1) := by decide +kernel
theorem dX9_restore_13 : decode cX9_restore 13 = .ok (.aload_n 0, 1) := by decide +kernel
theorem dX9_restore_14 : decode cX9_restore 14 = .ok (.getfield 10, 3) := by decide +kernel
theorem dX9_restore_17 : decode cX9_restore 17 = .ok (.aload_n 0, 1) := by decide +kernel
theorem dX9_restore_18 : decode cX9_restore 18 = .ok (.getfield 16, 3) := by decide +kernel
theorem dX9_restore_21 : decode cX9_restore 21 = .ok (.invokevirtual 339, 3) := by decide +kernel
theorem dX9_restore_24 : decode cX9_restore 24 = .ok (.aload_n 0, 1) := by decide +kernel
theorem dX9_restore_25 : decode cX9_restore 25 = .ok (.getfield 10, 3) := by decide +kernel
theorem dX9_restore_28 : decode cX9_restore 28 = .ok (.getfield 195, 3) := by decide +kernel
theorem dX9_restore_31 : decode cX9_restore 31 = .ok (.ireturn, 1) := by decide +kernel
theorem dX9_tell_0 : decode cX9_tell 0 = .ok (.aload_n 0, 1) := by decide +kernel
theorem dX9_tell_1 : decode cX9_tell 1 = .ok (.getfield 10, 3) := by decide +kernel
theorem dX9_tell_4 : decode cX9_tell 4 = .ok (.getfield 342, 3) := by decide +kernel
theorem dX9_tell_7 : decode cX9_tell 7 = .ok (.bipush 20, 2) := by decide +kernel
theorem dX9_tell_9 : decode cX9_tell 9 = .ok (.if_icmp .lt 9, 3) := by decide +kernel
theorem dX9_tell_12 : decode cX9_tell 12 = .ok (.aload_n 0, 1) := by decide +kernel
theorem dX9_tell_13 : decode cX9_tell 13 = .ok (.iconst 4, 1) := by decide +kernel
theorem dX9_tell_14 : decode cX9_tell 14 = .ok (.invokevirtual 84, 3) := by decide +kernel
theorem dX9_tell_17 : decode cX9_tell 17 = .ok (.ireturn, 1) := by decide +kernel
theorem dX9_tell_18 : decode cX9_tell 18 = .ok (.aload_n 0, 1) := by decide +kernel
theorem dX9_tell_19 : decode cX9_tell 19 = .ok (.getfield 10, 3) := by decide +kernel
theorem dX9_tell_22 : decode cX9_tell 22 = .ok (.getfield 345, 3) := by decide +kernel
theorem dX9_tell_25 : decode cX9_tell 25 = .ok (.aload_n 0, 1) := by decide +kernel
theorem dX9_tell_26 : decode cX9_tell 26 = .ok (.getfield 10, 3) := by decide +kernel
theorem dX9_tell_29 : decode cX9_tell 29 = .ok (.getfield 342, 3) := by decide +kernel
theorem dX9_tell_32 : decode cX9_tell 32 = .ok (.iload_n 1, 1) := by decide +kernel
theorem dX9_tell_33 : decode cX9_tell 33 = .ok (.iastore, 1) := by decide +kernel
theorem dX9_tell_34 : decode cX9_tell 34 = .ok (.aload_n 0, 1) := by decide +kernel
theorem dX9_tell_35 : decode cX9_tell 35 = .ok (.getfield 10, 3) := by decide +kernel
theorem dX9_tell_38 : decode cX9_tell 38 = .ok (.dup, 1) := by decide +kernel
theorem dX9_tell_39 : decode cX9_tell 39 = .ok (.getfield 342, 3) := by decide +kernel
theorem dX9_tell_42 : decode cX9_tell 42 = .ok (.iconst 1, 1) := by decide +kernel
theorem dX9_tell_43 : decode cX9_tell 43 = .ok (.iadd, 1) := by decide +kernel
theorem dX9_tell_44 : decode cX9_tell 44 = .ok (.putfield 342, 3) := by decide +kernel
theorem dX9_tell_47 : decode cX9_tell 47 = .ok (.aload_n 0, 1) := by decide +kernel
theorem dX9_tell_48 : decode cX9_tell 48 = .ok (.getfield 10, 3) := by decide +kernel
theorem dX9_tell_51 : decode cX9_tell 51 = .ok (.getfield 342, 3) := by decide +kernel
theorem dX9_tell_54 : decode cX9_tell 54 = .ok (.ireturn, 1) := by decide +kernel
theorem dX9_check_0 : decode cX9_check 0 = .ok (.aload_n 0, 1) := by decide +kernel
theorem dX9_check_1 : decode cX9_check 1 = .ok (.getfield 10, 3) := by decide +kernel
theorem dX9_check_4 : decode cX9_check 4 = .ok (.getfield 342, 3) := by decide +kernel
theorem dX9_check_7 : decode cX9_check 7 = .ok (.istore_n 1, 1) := by decide +kernel
theorem dX9_check_8 : decode cX9_check 8 = .ok (.aload_n 0, 1) := by decide +kernel
theorem dX9_check_9 : decode cX9_check 9 = .ok (.getfield 10, 3) := by decide +kernel
theorem dX9_check_12 : decode cX9_check 12 = .ok (.iconst 0, 1) := by decide +kernel
theorem dX9_check_13 : decode cX9_check 13 = .ok (.putfield 342, 3) := by decide +kernel
theorem dX9_check_16 : decode cX9_check 16 = .ok (.aload_n 0, 1) := by decide +kernel
theorem dX9_check_17 : decode cX9_check 17 = .ok (.getfield 10, 3) := by decide +kernel
theorem dX9_check_20 : decode cX9_check 20 = .ok (.getfield 104, 3) := by decide +kernel
theorem dX9_check_23 : decode cX9_check 23 = .ok (.ifCond .ne 13, 3) := by decide +kernel
theorem dX9_check_26 : decode cX9_check 26 = .ok (.iload_n 1, 1) := by decide +kernel
theorem dX9_check_27 : decode cX9_check 27 = .ok (.ifCond .ne 7, 3) := by decide +kernel
theorem dX9_check_30 : decode cX9_check 30 = .ok (.iconst 0, 1) := by decide +kernel
theorem dX9_check_31 : decode cX9_check 31 = .ok (.goto 4, 3) := by decide +kernel
theorem dX9_check_34 : decode cX9_check 34 = .ok (.iconst 1, 1) := by decide +kernel
theorem dX9_check_35 : decode cX9_check 35 = .ok (.ireturn, 1) := by decide +kernel
theorem dX9_check_36 : decode cX9_check 36 = .ok (.aload_n 0, 1) := by decide +kernel
theorem dX9_check_37 : decode cX9_check 37 = .ok (.iconst 0, 1) := by decide +kernel
theorem dX9_check_38 : decode cX9_check 38 = .ok (.invokevirtual 130, 3) := by decide +kernel
theorem dX9_check_41 : decode cX9_check 41 = .ok (.astore_n 2, 1) := by decide +kernel
theorem dX9_check_42 : decode cX9_check 42 = .ok (.aload_n 0, 1) := by decide +kernel
theorem dX9_check_43 : decode cX9_check 43 = .ok (.getfield 10, 3) := by decide +kernel
theorem dX9_check_46 : decode cX9_check 46 = .ok (.getfield 36, 3) := by decide +kernel
theorem dX9_check_49 : decode cX9_check 49 = .ok (.iconst 0, 1) := by decide +kernel
theorem dX9_check_50 : decode cX9_check 50 = .ok (.aaload, 1) := by decide +kernel
theorem dX9_check_51 : decode cX9_check 51 = .ok (.invokevirtual 226, 3) := by decide +kernel
theorem dX9_check_54 : decode cX9_check 54 = .ok (.istore_n 3, 1) := by decide +kernel
theorem dX9_check_55 : decode cX9_check 55 = .ok (.aload_n 0, 1) := by decide +kernel
theorem dX9_check_56 : decode cX9_check 56 = .ok (.getfield 26, 3) := by decide +kernel
theorem dX9_check_59 : decode cX9_check 59 = .ok (.aload_n 0, 1) := by decide +kernel
theorem dX9_check_60 : decode cX9_check 60 = .ok (.getfield 10, 3) := by decide +kernel
theorem dX9_check_63 : decode cX9_check 63 = .ok (.getfield 87, 3) := by decide +kernel
theorem dX9_check_66 : decode cX9_check 66 = .ok (.invokevirtual 222, 3) := by decide +kernel
theorem dX9_check_69 : decode cX9_check 69 = .ok (.iconst 0, 1) := by decide +kernel
theorem dX9_check_70 : decode cX9_check 70 = .ok (.istore 4, 2) := by decide +kernel
theorem dX9_check_72 : decode cX9_check 72 = .ok (.iload 4, 2) := by decide +kernel
theorem dX9_check_74 : decode cX9_check 74 = .ok (.iload_n 1, 1) := by decide +kernel
theorem dX9_check_75 : decode cX9_check 75 = .ok (.if_icmp .ge 43, 3) := by decide +kernel
theorem dX9_check_78 : decode cX9_check 78 = .ok (.aload_n 0, 1) := by decide +kernel
theorem dX9_check_79 : decode cX9_check 79 = .ok (.getfield 26, 3) := by decide +kernel
theorem dX9_check_82 : decode cX9_check 82 = .ok (.iload_n 3, 1) := by decide +kernel
theorem dX9_check_83 : decode cX9_check 83 = .ok (.invokevirtual 229, 3) := by decide +kernel
theorem dX9_check_86 : decode cX9_check 86 = .ok (.aload_n 2, 1) := by decide +kernel
theorem dX9_check_87 : decode cX9_check 87 = .ok (.aload_n 0, 1) := by decide +kernel
theorem dX9_check_88 : decode cX9_check 88 = .ok (.getfield 26, 3) := by decide +kernel
theorem dX9_check_91 : decode cX9_check 91 = .ok (.invokevirtual 144, 3) := by decide +kernel
theorem dX9_check_94 : decode cX9_check 94 = .ok (.aload_n 0, 1) := by decide +kernel
theorem dX9_check_95 : decode cX9_check 95 = .ok (.getfield 10, 3) := by decide +kernel
theorem dX9_check_98 : decode cX9_check 98 = .ok (.getfield 345, 3) := by decide +kernel
theorem dX9_check_101 : decode cX9_check 101 = .ok (.iload 4, 2) := by decide +kernel
theorem dX9_check_103 : decode cX9_check 103 = .ok (.iaload, 1) := by decide +kernel
theorem dX9_check_104 : decode cX9_check 104 = .ok (.if_icmp .eq 8, 3) := by decide +kernel
theorem dX9_check_107 : decode cX9_check 107 = .ok (.iconst 1, 1) := by decide +kernel
theorem dX9_check_108 : decode cX9_check 108 = .ok (.iload 4, 2) := by decide +kernel
theorem dX9_check_110 : decode cX9_check 110 = .ok (.iadd, 1) := by decide +kernel
theorem dX9_check_111 : decode cX9_check 111 = .ok (.ireturn, 1) := by decide +kernel
theorem dX9_check_112 : decode cX9_check 112 = .ok (.iinc 4 1, 3) := by decide +kernel
theorem dX9_check_115 : decode cX9_check 115 = .ok (.goto (-43), 3) := by decide +kernel
theorem dX9_check_118 : decode cX9_check 118 = .ok (.iconst 0, 1) := by decide +kernel
theorem dX9_check_119 : decode cX9_check 119 = .ok (.ireturn, 1) := by decide +kernel
theorem dX9_count_0 : decode cX9_count 0 = .ok (.iload_n 1, 1) := by decide +kernel
theorem dX9_count_1 : decode cX9_count 1 = .ok (.tableswitch 111 0 7 #[47, 55, 63, 71, 79, 87, 95, 103], 47) := by decide +kernel
theorem dX9_count_48 : decode cX9_count 48 = .ok (.aload_n 0, 1) := by decide +kernel
theorem dX9_count_49 : decode cX9_count 49 = .ok (.getfield 10, 3) := by decide +kernel
theorem dX9_count_52 : decode cX9_count 52 = .ok (.getfield 104, 3) := by decide +kernel
theorem dX9_count_55 : decode cX9_count 55 = .ok (.ireturn, 1) := by decide +kernel
theorem dX9_count_56 : decode cX9_count 56 = .ok (.aload_n 0, 1) := by decide +kernel
theorem dX9_count_57 : decode cX9_count 57 = .ok (.getfield 10, 3) := by decide +kernel
theorem dX9_count_60 : decode cX9_count 60 = .ok (.getfield 195, 3) := by decide +kernel
theorem dX9_count_63 : decode cX9_count 63 = .ok (.ireturn, 1) := by decide +kernel
theorem dX9_count_64 : decode cX9_count 64 = .ok (.aload_n 0, 1) := by decide +kernel
theorem dX9_count_65 : decode cX9_count 65 = .ok (.getfield 10, 3) := by decide +kernel
theorem dX9_count_68 : decode cX9_count 68 = .ok (.invokevirtual 348, 3) := by decide +kernel
theorem dX9_count_71 : decode cX9_count 71 = .ok (.ireturn, 1) := by decide +kernel
theorem dX9_count_72 : decode cX9_count 72 = .ok (.aload_n 0, 1) := by decide +kernel
theorem dX9_count_73 : decode cX9_count 73 = .ok (.getfield 10, 3) := by decide +kernel
theorem dX9_count_76 : decode cX9_count 76 = .ok (.invokevirtual 351, 3) := by decide +kernel
theorem dX9_count_79 : decode cX9_count 79 = .ok (.ireturn, 1) := by decide +kernel
theorem dX9_count_80 : decode cX9_count 80 = .ok (.aload_n 0, 1) := by decide +kernel
theorem dX9_count_81 : decode cX9_count 81 = .ok (.getfield 10, 3) := by decide +kernel
theorem dX9_count_84 : decode cX9_count 84 = .ok (.getfield 154, 3) := by decide +kernel
theorem dX9_count_87 : decode cX9_count 87 = .ok (.ireturn, 1) := by decide +kernel
theorem dX9_count_88 : decode cX9_count 88 = .ok (.aload_n 0, 1) := by decide +kernel
theorem dX9_count_89 : decode cX9_count 89 = .ok (.getfield 10, 3) := by decide +kernel
theorem dX9_count_92 : decode cX9_count 92 = .ok (.getfield 342, 3) := by decide +kernel
theorem dX9_count_95 : decode cX9_count 95 = .ok (.ireturn, 1) := by decide +kernel
theorem dX9_count_96 : decode cX9_count 96 = .ok (.aload_n 0, 1) := by decide +kernel
theorem dX9_count_97 : decode cX9_count 97 = .ok (.getfield 66, 3) := by decide +kernel
theorem dX9_count_100 : decode cX9_count 100 = .ok (.getfield 299, 3) := by decide +kernel
theorem dX9_count_103 : decode cX9_count 103 = .ok (.ireturn, 1) := by decide +kernel
theorem dX9_count_104 : decode cX9_count 104 = .ok (.aload_n 0, 1) := by decide +kernel
theorem dX9_count_105 : decode cX9_count 105 = .ok (.getfield 10, 3) := by decide +kernel
theorem dX9_count_108 : decode cX9_count 108 = .ok (.getfield 292, 3) := by decide +kernel
theorem dX9_count_111 : decode cX9_count 111 = .ok (.ireturn, 1) := by decide +kernel
theorem dX9_count_112 : decode cX9_count 112 = .ok (.aload_n 0, 1) := by decide +kernel
theorem dX9_count_113 : decode cX9_count 113 = .ok (.iconst 1, 1) := by decide +kernel
theorem dX9_count_114 : decode cX9_count 114 = .ok (.invokevirtual 84, 3) := by decide +kernel
theorem dX9_count_117 : decode cX9_count 117 = .ok (.ireturn, 1) := by decide +kernel
theorem dX9_told_0 : decode cX9_told 0 = .ok (.iload_n 1, 1) := by decide +kernel
theorem dX9_told_1 : decode cX9_told 1 = .ok (.iconst 1, 1) := by decide +kernel
theorem dX9_told_2 : decode cX9_told 2 = .ok (.if_icmp .lt 8, 3) := by decide +kernel
theorem dX9_told_5 : decode cX9_told 5 = .ok (.iload_n 1, 1) := by decide +kernel
theorem dX9_told_6 : decode cX9_told 6 = .ok (.iconst 5, 1) := by decide +kernel
theorem dX9_told_7 : decode cX9_told 7 = .ok (.if_icmp .le 9, 3) := by decide +kernel
theorem dX9_told_10 : decode cX9_told 10 = .ok (.aload_n 0, 1) := by decide +kernel
theorem dX9_told_11 : decode cX9_told 11 = .ok (.iconst 1, 1) := by decide +kernel
theorem dX9_told_12 : decode cX9_told 12 = .ok (.invokevirtual 84, 3) := by decide +kernel
theorem dX9_told_15 : decode cX9_told 15 = .ok (.ireturn, 1) := by decide +kernel
theorem dX9_told_16 : decode cX9_told 16 = .ok (.aload_n 0, 1) := by decide +kernel
theorem dX9_told_17 : decode cX9_told 17 = .ok (.getfield 77, 3) := by decide +kernel
theorem dX9_told_20 : decode cX9_told 20 = .ok (.iload_n 1, 1) := by decide +kernel
theorem dX9_told_21 : decode cX9_told 21 = .ok (.iaload, 1) := by decide +kernel
theorem dX9_told_22 : decode cX9_told 22 = .ok (.ireturn, 1) := by decide +kernel
theorem dX9_error_0 : decode cX9_error 0 = .ok (.iload_n 1, 1) := by decide +kernel
theorem dX9_error_1 : decode cX9_error 1 = .ok (.iconst 1, 1) := by decide +kernel
theorem dX9_error_2 : decode cX9_error 2 = .ok (.if_icmp .lt 18, 3) := by decide +kernel
theorem dX9_error_5 : decode cX9_error 5 = .ok (.iload_n 1, 1) := by decide +kernel
theorem dX9_error_6 : decode cX9_error 6 = .ok (.iconst 5, 1) := by decide +kernel
theorem dX9_error_7 : decode cX9_error 7 = .ok (.if_icmp .gt 13, 3) := by decide +kernel
theorem dX9_error_10 : decode cX9_error 10 = .ok (.aload_n 0, 1) := by decide +kernel
theorem dX9_error_11 : decode cX9_error 11 = .ok (.getfield 77, 3) := by decide +kernel
theorem dX9_error_14 : decode cX9_error 14 = .ok (.iload_n 1, 1) := by decide +kernel
theorem dX9_error_15 : decode cX9_error 15 = .ok (.dup2, 1) := by decide +kernel
theorem dX9_error_16 : decode cX9_error 16 = .ok (.iaload, 1) := by decide +kernel
theorem dX9_error_17 : decode cX9_error 17 = .ok (.iconst 1, 1) := by decide +kernel
theorem dX9_error_18 : decode cX9_error 18 = .ok (.iadd, 1) := by decide +kernel
theorem dX9_error_19 : decode cX9_error 19 = .ok (.iastore, 1) := by decide +kernel
theorem dX9_error_20 : decode cX9_error 20 = .ok (.ldc_w 354, 3) := by decide +kernel
theorem dX9_error_23 : decode cX9_error 23 = .ok (.iload_n 1, 1) := by decide +kernel
theorem dX9_error_24 : decode cX9_error 24 = .ok (.isub, 1) := by decide +kernel
theorem dX9_error_25 : decode cX9_error 25 = .ok (.ireturn, 1) := by decide +kernel
theorem dX9_hasCloth_0 : decode cX9_hasCloth 0 = .ok (.iload_n 1, 1) := by decide +kernel
theorem dX9_hasCloth_1 : decode cX9_hasCloth 1 = .ok (.ifCond .lt 24, 3) := by decide +kernel
theorem dX9_hasCloth_4 : decode cX9_hasCloth 4 = .ok (.iload_n 1, 1) := by decide +kernel
theorem dX9_hasCloth_5 : decode cX9_hasCloth 5 = .ok (.aload_n 0, 1) := by decide +kernel
theorem dX9_hasCloth_6 : decode cX9_hasCloth 6 = .ok (.getfield 10, 3) := by decide +kernel
theorem dX9_hasCloth_9 : decode cX9_hasCloth 9 = .ok (.getfield 104, 3) := by decide +kernel
theorem dX9_hasCloth_12 : decode cX9_hasCloth 12 = .ok (.if_icmp .ge 13, 3) := by decide +kernel
theorem dX9_hasCloth_15 : decode cX9_hasCloth 15 = .ok (.iload_n 1, 1) := by decide +kernel
theorem dX9_hasCloth_16 : decode cX9_hasCloth 16 = .ok (.bipush 6, 2) := by decide +kernel
theorem dX9_hasCloth_18 : decode cX9_hasCloth 18 = .ok (.if_icmp .ge 7, 3) := by decide +kernel
theorem dX9_hasCloth_21 : decode cX9_hasCloth 21 = .ok (.iconst 1, 1) := by decide +kernel
theorem dX9_hasCloth_22 : decode cX9_hasCloth 22 = .ok (.goto 4, 3) := by decide +kernel
theorem dX9_hasCloth_25 : decode cX9_hasCloth 25 = .ok (.iconst 0, 1) := by decide +kernel
theorem dX9_hasCloth_26 : decode cX9_hasCloth 26 = .ok (.ireturn, 1) := by decide +kernel
theorem dX9_isKindAndM_0 : decode cX9_isKindAndM 0 = .ok (.iload_n 0, 1) := by decide +kernel
theorem dX9_isKindAndM_1 : decode cX9_isKindAndM 1 = .ok (.ifCond .lt 13, 3) := by decide +kernel
theorem dX9_isKindAndM_4 : decode cX9_isKindAndM 4 = .ok (.iload_n 0, 1) := by decide +kernel
theorem dX9_isKindAndM_5 : decode cX9_isKindAndM 5 = .ok (.bipush 70, 2) := by decide +kernel
theorem dX9_isKindAndM_7 : decode cX9_isKindAndM 7 = .ok (.if_icmp .ge 7, 3) := by decide +kernel
theorem dX9_isKindAndM_10 : decode cX9_isKindAndM 10 = .ok (.iconst 1, 1) := by decide +kernel
theorem dX9_isKindAndM_11 : decode cX9_isKindAndM 11 = .ok (.goto 4, 3) := by decide +kernel
theorem dX9_isKindAndM_14 : decode cX9_isKindAndM 14 = .ok (.iconst 0, 1) := by decide +kernel
theorem dX9_isKindAndM_15 : decode cX9_isKindAndM 15 = .ok (.ireturn, 1) := by decide +kernel
theorem dX9_isDigit_0 : decode cX9_isDigit 0 = .ok (.iload_n 0, 1) := by decide +kernel
theorem dX9_isDigit_1 : decode cX9_isDigit 1 = .ok (.ifCond .lt 13, 3) := by decide +kernel
theorem dX9_isDigit_4 : decode cX9_isDigit 4 = .ok (.iload_n 0, 1) := by decide +kernel
theorem dX9_isDigit_5 : decode cX9_isDigit 5 = .ok (.bipush 9, 2) := by decide +kernel
theorem dX9_isDigit_7 : decode cX9_isDigit 7 = .ok (.if_icmp .gt 7, 3) := by decide +kernel
theorem dX9_isDigit_10 : decode cX9_isDigit 10 = .ok (.iconst 1, 1) := by decide +kernel
theorem dX9_isDigit_11 : decode cX9_isDigit 11 = .ok (.goto 4, 3) := by decide +kernel
theorem dX9_isDigit_14 : decode cX9_isDigit 14 = .ok (.iconst 0, 1) := by decide +kernel
theorem dX9_isDigit_15 : decode cX9_isDigit 15 = .ok (.ireturn, 1) := by decide +kernel
theorem dX9_isUse_0 : decode cX9_isUse 0 = .ok (.iload_n 0, 1) := by decide +kernel
theorem dX9_isUse_1 : decode cX9_isUse 1 = .ok (.ifCond .eq 8, 3) := by decide +kernel
theorem dX9_isUse_4 : decode cX9_isUse 4 = .ok (.iload_n 0, 1) := by decide +kernel
theorem dX9_isUse_5 : decode cX9_isUse 5 = .ok (.iconst 1, 1) := by decide +kernel
theorem dX9_isUse_6 : decode cX9_isUse 6 = .ok (.if_icmp .ne 7, 3) := by decide +kernel
theorem dX9_isUse_9 : decode cX9_isUse 9 = .ok (.iconst 1, 1) := by decide +kernel
theorem dX9_isUse_10 : decode cX9_isUse 10 = .ok (.goto 4, 3) := by decide +kernel
theorem dX9_isUse_13 : decode cX9_isUse 13 = .ok (.iconst 0, 1) := by decide +kernel
theorem dX9_isUse_14 : decode cX9_isUse 14 = .ok (.ireturn, 1) := by decide +kernel
theorem dX9_isPart_0 : decode cX9_isPart 0 = .ok (.iload_n 0, 1) := by decide +kernel
theorem dX9_isPart_1 : decode cX9_isPart 1 = .ok (.ifCond .eq 8, 3) := by decide +kernel
theorem dX9_isPart_4 : decode cX9_isPart 4 = .ok (.iload_n 0, 1) := by decide +kernel
theorem dX9_isPart_5 : decode cX9_isPart 5 = .ok (.iconst 1, 1) := by decide +kernel
theorem dX9_isPart_6 : decode cX9_isPart 6 = .ok (.if_icmp .ne 7, 3) := by decide +kernel
theorem dX9_isPart_9 : decode cX9_isPart 9 = .ok (.iconst 1, 1) := by decide +kernel
theorem dX9_isPart_10 : decode cX9_isPart 10 = .ok (.goto 4, 3) := by decide +kernel
theorem dX9_isPart_13 : decode cX9_isPart 13 = .ok (.iconst 0, 1) := by decide +kernel
theorem dX9_isPart_14 : decode cX9_isPart 14 = .ok (.ireturn, 1) := by decide +kernel
theorem dX9_isSheet_0 : decode cX9_isSheet 0 = .ok (.iload_n 0, 1) := by decide +kernel
theorem dX9_isSheet_1 : decode cX9_isSheet 1 = .ok (.ifCond .lt 12, 3) := by decide +kernel
theorem dX9_isSheet_4 : decode cX9_isSheet 4 = .ok (.iload_n 0, 1) := by decide +kernel
theorem dX9_isSheet_5 : decode cX9_isSheet 5 = .ok (.iconst 4, 1) := by decide +kernel
theorem dX9_isSheet_6 : decode cX9_isSheet 6 = .ok (.if_icmp .ge 7, 3) := by decide +kernel
theorem dX9_isSheet_9 : decode cX9_isSheet 9 = .ok (.iconst 1, 1) := by decide +kernel
theorem dX9_isSheet_10 : decode cX9_isSheet 10 = .ok (.goto 4, 3) := by decide +kernel
theorem dX9_isSheet_13 : decode cX9_isSheet 13 = .ok (.iconst 0, 1) := by decide +kernel
theorem dX9_isSheet_14 : decode cX9_isSheet 14 = .ok (.ireturn, 1) := by decide +kernel
theorem dX9_isWidth_0 : decode cX9_isWidth 0 = .ok (.iload_n 0, 1) := by decide +kernel
theorem dX9_isWidth_1 : decode cX9_isWidth 1 = .ok (.ifCond .eq 21, 3) := by decide +kernel
theorem dX9_isWidth_4 : decode cX9_isWidth 4 = .ok (.iload_n 0, 1) := by decide +kernel
theorem dX9_isWidth_5 : decode cX9_isWidth 5 = .ok (.bipush 8, 2) := by decide +kernel
theorem dX9_isWidth_7 : decode cX9_isWidth 7 = .ok (.if_icmp .eq 15, 3) := by decide +kernel
theorem dX9_isWidth_10 : decode cX9_isWidth 10 = .ok (.iload_n 0, 1) := by decide +kernel
theorem dX9_isWidth_11 : decode cX9_isWidth 11 = .ok (.bipush 16, 2) := by decide +kernel
theorem dX9_isWidth_13 : decode cX9_isWidth 13 = .ok (.if_icmp .eq 9, 3) := by decide +kernel
theorem dX9_isWidth_16 : decode cX9_isWidth 16 = .ok (.iload_n 0, 1) := by decide +kernel
theorem dX9_isWidth_17 : decode cX9_isWidth 17 = .ok (.bipush 32, 2) := by decide +kernel
theorem dX9_isWidth_19 : decode cX9_isWidth 19 = .ok (.if_icmp .ne 7, 3) := by decide +kernel
theorem dX9_isWidth_22 : decode cX9_isWidth 22 = .ok (.iconst 1, 1) := by decide +kernel
theorem dX9_isWidth_23 : decode cX9_isWidth 23 = .ok (.goto 4, 3) := by decide +kernel
theorem dX9_isWidth_26 : decode cX9_isWidth 26 = .ok (.iconst 0, 1) := by decide +kernel
theorem dX9_isWidth_27 : decode cX9_isWidth 27 = .ok (.ireturn, 1) := by decide +kernel
theorem dX9_gaugeOf_0 : decode cX9_gaugeOf 0 = .ok (.aload_n 0, 1) := by decide +kernel
theorem dX9_gaugeOf_1 : decode cX9_gaugeOf 1 = .ok (.getfield 32, 3) := by decide +kernel
theorem dX9_gaugeOf_4 : decode cX9_gaugeOf 4 = .ok (.iload_n 1, 1) := by decide +kernel
theorem dX9_gaugeOf_5 : decode cX9_gaugeOf 5 = .ok (.aaload, 1) := by decide +kernel
theorem dX9_gaugeOf_6 : decode cX9_gaugeOf 6 = .ok (.invokevirtual 355, 3) := by decide +kernel
theorem dX9_gaugeOf_9 : decode cX9_gaugeOf 9 = .ok (.aload_n 0, 1) := by decide +kernel
theorem dX9_gaugeOf_10 : decode cX9_gaugeOf 10 = .ok (.getfield 32, 3) := by decide +kernel
theorem dX9_gaugeOf_13 : decode cX9_gaugeOf 13 = .ok (.iload_n 1, 1) := by decide +kernel
theorem dX9_gaugeOf_14 : decode cX9_gaugeOf 14 = .ok (.aaload, 1) := by decide +kernel
theorem dX9_gaugeOf_15 : decode cX9_gaugeOf 15 = .ok (.areturn, 1) := by decide +kernel
theorem dX9_refreshGauges_0 : decode cX9_refreshGauges 0 = .ok (.iconst 0, 1) := by decide +kernel
theorem dX9_refreshGauges_1 : decode cX9_refreshGauges 1 = .ok (.istore_n 1, 1) := by decide +kernel
theorem dX9_refreshGauges_2 : decode cX9_refreshGauges 2 = .ok (.iload_n 1, 1) := by decide +kernel
theorem dX9_refreshGauges_3 : decode cX9_refreshGauges 3 = .ok (.aload_n 0, 1) := by decide +kernel
theorem dX9_refreshGauges_4 : decode cX9_refreshGauges 4 = .ok (.getfield 10, 3) := by decide +kernel
theorem dX9_refreshGauges_7 : decode cX9_refreshGauges 7 = .ok (.getfield 104, 3) := by decide +kernel
theorem dX9_refreshGauges_10 : decode cX9_refreshGauges 10 = .ok (.if_icmp .ge 18, 3) := by decide +kernel
theorem dX9_refreshGauges_13 : decode cX9_refreshGauges 13 = .ok (.aload_n 0, 1) := by decide +kernel
theorem dX9_refreshGauges_14 : decode cX9_refreshGauges 14 = .ok (.getfield 32, 3) := by decide +kernel
theorem dX9_refreshGauges_17 : decode cX9_refreshGauges 17 = .ok (.iload_n 1, 1) := by decide +kernel
theorem dX9_refreshGauges_18 : decode cX9_refreshGauges 18 = .ok (.aaload, 1) := by decide +kernel
theorem dX9_refreshGauges_19 : decode cX9_refreshGauges 19 = .ok (.invokevirtual 355, 3) := by decide +kernel
theorem dX9_refreshGauges_22 : decode cX9_refreshGauges 22 = .ok (.iinc 1 1, 3) := by decide +kernel
theorem dX9_refreshGauges_25 : decode cX9_refreshGauges 25 = .ok (.goto (-23), 3) := by decide +kernel
theorem dX9_refreshGauges_28 : decode cX9_refreshGauges 28 = .ok (.return_, 1) := by decide +kernel
theorem dX9_evening_0 : decode cX9_evening 0 = .ok (.aload_n 0, 1) := by decide +kernel
theorem dX9_evening_1 : decode cX9_evening 1 = .ok (.getfield 10, 3) := by decide +kernel
theorem dX9_evening_4 : decode cX9_evening 4 = .ok (.invokevirtual 358, 3) := by decide +kernel
theorem dX9_evening_7 : decode cX9_evening 7 = .ok (.bipush 7, 2) := by decide +kernel
theorem dX9_evening_9 : decode cX9_evening 9 = .ok (.irem, 1) := by decide +kernel
theorem dX9_evening_10 : decode cX9_evening 10 = .ok (.istore_n 1, 1) := by decide +kernel
theorem dX9_evening_11 : decode cX9_evening 11 = .ok (.aload_n 0, 1) := by decide +kernel
theorem dX9_evening_12 : decode cX9_evening 12 = .ok (.getfield 10, 3) := by decide +kernel
theorem dX9_evening_15 : decode cX9_evening 15 = .ok (.invokevirtual 358, 3) := by decide +kernel
theorem dX9_evening_18 : decode cX9_evening 18 = .ok (.istore_n 2, 1) := by decide +kernel
theorem dX9_evening_19 : decode cX9_evening 19 = .ok (.aload_n 0, 1) := by decide +kernel
theorem dX9_evening_20 : decode cX9_evening 20 = .ok (.getfield 10, 3) := by decide +kernel
theorem dX9_evening_23 : decode cX9_evening 23 = .ok (.getfield 87, 3) := by decide +kernel
theorem dX9_evening_26 : decode cX9_evening 26 = .ok (.iload_n 1, 1) := by decide +kernel
theorem dX9_evening_27 : decode cX9_evening 27 = .ok (.invokevirtual 207, 3) := by decide +kernel
theorem dX9_evening_30 : decode cX9_evening 30 = .ok (.ifCond .eq 11, 3) := by decide +kernel
theorem dX9_evening_33 : decode cX9_evening 33 = .ok (.aload_n 0, 1) := by decide +kernel
theorem dX9_evening_34 : decode cX9_evening 34 = .ok (.getfield 10, 3) := by decide +kernel
theorem dX9_evening_37 : decode cX9_evening 37 = .ok (.iload_n 1, 1) := by decide +kernel
theorem dX9_evening_38 : decode cX9_evening 38 = .ok (.invokevirtual 213, 3) := by decide +kernel
theorem dX9_evening_41 : decode cX9_evening 41 = .ok (.aload_n 0, 1) := by decide +kernel
theorem dX9_evening_42 : decode cX9_evening 42 = .ok (.getfield 10, 3) := by decide +kernel
theorem dX9_evening_45 : decode cX9_evening 45 = .ok (.getfield 104, 3) := by decide +kernel
theorem dX9_evening_48 : decode cX9_evening 48 = .ok (.ifCond .ne 5, 3) := by decide +kernel
theorem dX9_evening_51 : decode cX9_evening 51 = .ok (.iconst 0, 1) := by decide +kernel
theorem dX9_evening_52 : decode cX9_evening 52 = .ok (.ireturn, 1) := by decide +kernel
theorem dX9_evening_53 : decode cX9_evening 53 = .ok (.aload_n 0, 1) := by decide +kernel
theorem dX9_evening_54 : decode cX9_evening 54 = .ok (.getfield 10, 3) := by decide +kernel
theorem dX9_evening_57 : decode cX9_evening 57 = .ok (.aload_n 0, 1) := by decide +kernel
theorem dX9_evening_58 : decode cX9_evening 58 = .ok (.getfield 32, 3) := by decide +kernel
theorem dX9_evening_61 : decode cX9_evening 61 = .ok (.iload_n 2, 1) := by decide +kernel
theorem dX9_evening_62 : decode cX9_evening 62 = .ok (.aload_n 0, 1) := by decide +kernel
theorem dX9_evening_63 : decode cX9_evening 63 = .ok (.getfield 10, 3) := by decide +kernel
theorem dX9_evening_66 : decode cX9_evening 66 = .ok (.getfield 104, 3) := by decide +kernel
theorem dX9_evening_69 : decode cX9_evening 69 = .ok (.irem, 1) := by decide +kernel
theorem dX9_evening_70 : decode cX9_evening 70 = .ok (.aaload, 1) := by decide +kernel
theorem dX9_evening_71 : decode cX9_evening 71 = .ok (.invokevirtual 203, 3) := by decide +kernel
theorem dX9_evening_74 : decode cX9_evening 74 = .ok (.ireturn, 1) := by decide +kernel
theorem dX9_cheapestCure_0 : decode cX9_cheapestCure 0 = .ok (.iconst (-1), 1) := by decide +kernel
theorem dX9_cheapestCure_1 : decode cX9_cheapestCure 1 = .ok (.istore_n 2, 1) := by decide +kernel
theorem dX9_cheapestCure_2 : decode cX9_cheapestCure 2 = .ok (.iconst 0, 1) := by decide +kernel
theorem dX9_cheapestCure_3 : decode cX9_cheapestCure 3 = .ok (.istore_n 3, 1) := by decide +kernel
theorem dX9_cheapestCure_4 : decode cX9_cheapestCure 4 = .ok (.iconst 0, 1) := by decide +kernel
theorem dX9_cheapestCure_5 : decode cX9_cheapestCure 5 = .ok (.istore 4, 2) := by decide +kernel
theorem dX9_cheapestCure_7 : decode cX9_cheapestCure 7 = .ok (.iload 4, 2) := by decide +kernel
theorem dX9_cheapestCure_9 : decode cX9_cheapestCure 9 = .ok (.bipush 8, 2) := by decide +kernel
theorem dX9_cheapestCure_11 : decode cX9_cheapestCure 11 = .ok (.if_icmp .ge 111, 3) := by decide +kernel
theorem dX9_cheapestCure_14 : decode cX9_cheapestCure 14 = .ok (.aload_n 0, 1) := by decide +kernel
theorem dX9_cheapestCure_15 : decode cX9_cheapestCure 15 = .ok (.iload 4, 2) := by decide +kernel
theorem dX9_cheapestCure_17 : decode cX9_cheapestCure 17 = .ok (.invokevirtual 361, 3) := by decide +kernel
theorem dX9_cheapestCure_20 : decode cX9_cheapestCure 20 = .ok (.iconst 0, 1) := by decide +kernel
theorem dX9_cheapestCure_21 : decode cX9_cheapestCure 21 = .ok (.istore 5, 2) := by decide +kernel
theorem dX9_cheapestCure_23 : decode cX9_cheapestCure 23 = .ok (.iload 5, 2) := by decide +kernel
theorem dX9_cheapestCure_25 : decode cX9_cheapestCure 25 = .ok (.bipush 100, 2) := by decide +kernel
theorem dX9_cheapestCure_27 : decode cX9_cheapestCure 27 = .ok (.if_icmp .ge 89, 3) := by decide +kernel
theorem dX9_cheapestCure_30 : decode cX9_cheapestCure 30 = .ok (.aload_n 0, 1) := by decide +kernel
theorem dX9_cheapestCure_31 : decode cX9_cheapestCure 31 = .ok (.getfield 26, 3) := by decide +kernel
theorem dX9_cheapestCure_34 : decode cX9_cheapestCure 34 = .ok (.iload 5, 2) := by decide +kernel
theorem dX9_cheapestCure_36 : decode cX9_cheapestCure 36 = .ok (.bipush 10, 2) := by decide +kernel
theorem dX9_cheapestCure_38 : decode cX9_cheapestCure 38 = .ok (.idiv, 1) := by decide +kernel
theorem dX9_cheapestCure_39 : decode cX9_cheapestCure 39 = .ok (.putfield 270, 3) := by decide +kernel
theorem dX9_cheapestCure_42 : decode cX9_cheapestCure 42 = .ok (.aload_n 0, 1) := by decide +kernel
theorem dX9_cheapestCure_43 : decode cX9_cheapestCure 43 = .ok (.getfield 26, 3) := by decide +kernel
theorem dX9_cheapestCure_46 : decode cX9_cheapestCure 46 = .ok (.iload 5, 2) := by decide +kernel
theorem dX9_cheapestCure_48 : decode cX9_cheapestCure 48 = .ok (.bipush 10, 2) := by decide +kernel
theorem dX9_cheapestCure_50 : decode cX9_cheapestCure 50 = .ok (.irem, 1) := by decide +kernel
theorem dX9_cheapestCure_51 : decode cX9_cheapestCure 51 = .ok (.putfield 364, 3) := by decide +kernel
theorem dX9_cheapestCure_54 : decode cX9_cheapestCure 54 = .ok (.aload_n 0, 1) := by decide +kernel
theorem dX9_cheapestCure_55 : decode cX9_cheapestCure 55 = .ok (.iload 4, 2) := by decide +kernel
theorem dX9_cheapestCure_57 : decode cX9_cheapestCure 57 = .ok (.aload_n 0, 1) := by decide +kernel
theorem dX9_cheapestCure_58 : decode cX9_cheapestCure 58 = .ok (.getfield 26, 3) := by decide +kernel
theorem dX9_cheapestCure_61 : decode cX9_cheapestCure 61 = .ok (.getfield 270, 3) := by decide +kernel
theorem dX9_cheapestCure_64 : decode cX9_cheapestCure 64 = .ok (.aload_n 0, 1) := by decide +kernel
theorem dX9_cheapestCure_65 : decode cX9_cheapestCure 65 = .ok (.getfield 26, 3) := by decide +kernel
theorem dX9_cheapestCure_68 : decode cX9_cheapestCure 68 = .ok (.getfield 364, 3) := by decide +kernel
theorem dX9_cheapestCure_71 : decode cX9_cheapestCure 71 = .ok (.invokevirtual 238, 3) := by decide +kernel
theorem dX9_cheapestCure_74 : decode cX9_cheapestCure 74 = .ok (.istore 6, 2) := by decide +kernel
theorem dX9_cheapestCure_76 : decode cX9_cheapestCure 76 = .ok (.iload_n 2, 1) := by decide +kernel
theorem dX9_cheapestCure_77 : decode cX9_cheapestCure 77 = .ok (.ifCond .lt 9, 3) := by decide +kernel
theorem dX9_cheapestCure_80 : decode cX9_cheapestCure 80 = .ok (.iload 6, 2) := by decide +kernel
theorem dX9_cheapestCure_82 : decode cX9_cheapestCure 82 = .ok (.iload_n 3, 1) := by decide +kernel
theorem dX9_cheapestCure_83 : decode cX9_cheapestCure 83 = .ok (.if_icmp .ge 27, 3) := by decide +kernel
theorem dX9_cheapestCure_86 : decode cX9_cheapestCure 86 = .ok (.aload_n 1, 1) := by decide +kernel
theorem dX9_cheapestCure_87 : decode cX9_cheapestCure 87 = .ok (.aload_n 0, 1) := by decide +kernel
theorem dX9_cheapestCure_88 : decode cX9_cheapestCure 88 = .ok (.getfield 26, 3) := by decide +kernel
theorem dX9_cheapestCure_91 : decode cX9_cheapestCure 91 = .ok (.invokevirtual 144, 3) := by decide +kernel
theorem dX9_cheapestCure_94 : decode cX9_cheapestCure 94 = .ok (.ifCond .ne 16, 3) := by decide +kernel
theorem dX9_cheapestCure_97 : decode cX9_cheapestCure 97 = .ok (.sipush 1000, 3) := by decide +kernel
theorem dX9_cheapestCure_100 : decode cX9_cheapestCure 100 = .ok (.iload 4, 2) := by decide +kernel
theorem dX9_cheapestCure_102 : decode cX9_cheapestCure 102 = .ok (.imul, 1) := by decide +kernel
theorem dX9_cheapestCure_103 : decode cX9_cheapestCure 103 = .ok (.iload 5, 2) := by decide +kernel
theorem dX9_cheapestCure_105 : decode cX9_cheapestCure 105 = .ok (.iadd, 1) := by decide +kernel
theorem dX9_cheapestCure_106 : decode cX9_cheapestCure 106 = .ok (.istore_n 2, 1) := by decide +kernel
theorem dX9_cheapestCure_107 : decode cX9_cheapestCure 107 = .ok (.iload 6, 2) := by decide +kernel
theorem dX9_cheapestCure_109 : decode cX9_cheapestCure 109 = .ok (.istore_n 3, 1) := by decide +kernel
theorem dX9_cheapestCure_110 : decode cX9_cheapestCure 110 = .ok (.iinc 5 1, 3) := by decide +kernel
theorem dX9_cheapestCure_113 : decode cX9_cheapestCure 113 = .ok (.goto (-90), 3) := by decide +kernel
theorem dX9_cheapestCure_116 : decode cX9_cheapestCure 116 = .ok (.iinc 4 1, 3) := by decide +kernel
theorem dX9_cheapestCure_119 : decode cX9_cheapestCure 119 = .ok (.goto (-112), 3) := by decide +kernel
theorem dX9_cheapestCure_122 : decode cX9_cheapestCure 122 = .ok (.iload_n 2, 1) := by decide +kernel
theorem dX9_cheapestCure_123 : decode cX9_cheapestCure 123 = .ok (.ireturn, 1) := by decide +kernel
theorem dX9_thinkOfDeeds_0 : decode cX9_thinkOfDeeds 0 = .ok (.aload_n 0, 1) := by decide +kernel
theorem dX9_thinkOfDeeds_1 : decode cX9_thinkOfDeeds 1 = .ok (.getfield 26, 3) := by decide +kernel
theorem dX9_thinkOfDeeds_4 : decode cX9_thinkOfDeeds 4 = .ok (.aload_n 0, 1) := by decide +kernel
theorem dX9_thinkOfDeeds_5 : decode cX9_thinkOfDeeds 5 = .ok (.getfield 10, 3) := by decide +kernel
theorem dX9_thinkOfDeeds_8 : decode cX9_thinkOfDeeds 8 = .ok (.getfield 87, 3) := by decide +kernel
theorem dX9_thinkOfDeeds_11 : decode cX9_thinkOfDeeds 11 = .ok (.invokevirtual 222, 3) := by decide +kernel
theorem dX9_thinkOfDeeds_14 : decode cX9_thinkOfDeeds 14 = .ok (.iconst 0, 1) := by decide +kernel
theorem dX9_thinkOfDeeds_15 : decode cX9_thinkOfDeeds 15 = .ok (.istore_n 2, 1) := by decide +kernel
theorem dX9_thinkOfDeeds_16 : decode cX9_thinkOfDeeds 16 = .ok (.iload_n 2, 1) := by decide +kernel
theorem dX9_thinkOfDeeds_17 : decode cX9_thinkOfDeeds 17 = .ok (.iconst 3, 1) := by decide +kernel
theorem dX9_thinkOfDeeds_18 : decode cX9_thinkOfDeeds 18 = .ok (.if_icmp .ge 26, 3) := by decide +kernel
theorem dX9_thinkOfDeeds_21 : decode cX9_thinkOfDeeds 21 = .ok (.iload_n 1, 1) := by decide +kernel
theorem dX9_thinkOfDeeds_22 : decode cX9_thinkOfDeeds 22 = .ok (.iload_n 2, 1) := by decide +kernel
theorem dX9_thinkOfDeeds_23 : decode cX9_thinkOfDeeds 23 = .ok (.ishr, 1) := by decide +kernel
theorem dX9_thinkOfDeeds_24 : decode cX9_thinkOfDeeds 24 = .ok (.iconst 1, 1) := by decide +kernel
theorem dX9_thinkOfDeeds_25 : decode cX9_thinkOfDeeds 25 = .ok (.iand, 1) := by decide +kernel
theorem dX9_thinkOfDeeds_26 : decode cX9_thinkOfDeeds 26 = .ok (.iconst 1, 1) := by decide +kernel
theorem dX9_thinkOfDeeds_27 : decode cX9_thinkOfDeeds 27 = .ok (.if_icmp .ne 11, 3) := by decide +kernel
theorem dX9_thinkOfDeeds_30 : decode cX9_thinkOfDeeds 30 = .ok (.aload_n 0, 1) := by decide +kernel
theorem dX9_thinkOfDeeds_31 : decode cX9_thinkOfDeeds 31 = .ok (.getfield 26, 3) := by decide +kernel
theorem dX9_thinkOfDeeds_34 : decode cX9_thinkOfDeeds 34 = .ok (.iload_n 2, 1) := by decide +kernel
theorem dX9_thinkOfDeeds_35 : decode cX9_thinkOfDeeds 35 = .ok (.invokevirtual 242, 3) := by decide +kernel
theorem dX9_thinkOfDeeds_38 : decode cX9_thinkOfDeeds 38 = .ok (.iinc 2 1, 3) := by decide +kernel
theorem dX9_thinkOfDeeds_41 : decode cX9_thinkOfDeeds 41 = .ok (.goto (-25), 3) := by decide +kernel
theorem dX9_thinkOfDeeds_44 : decode cX9_thinkOfDeeds 44 = .ok (.return_, 1) := by decide +kernel
theorem dX9_cureSeconds_0 : decode cX9_cureSeconds 0 = .ok (.iconst 2, 1) := by decide +kernel
theorem dX9_cureSeconds_1 : decode cX9_cureSeconds 1 = .ok (.iload_n 2, 1) := by decide +kernel
theorem dX9_cureSeconds_2 : decode cX9_cureSeconds 2 = .ok (.aload_n 0, 1) := by decide +kernel
theorem dX9_cureSeconds_3 : decode cX9_cureSeconds 3 = .ok (.getfield 10, 3) := by decide +kernel
theorem dX9_cureSeconds_6 : decode cX9_cureSeconds 6 = .ok (.getfield 87, 3) := by decide +kernel
theorem dX9_cureSeconds_9 : decode cX9_cureSeconds 9 = .ok (.getfield 270, 3) := by decide +kernel
theorem dX9_cureSeconds_12 : decode cX9_cureSeconds 12 = .ok (.isub, 1) := by decide +kernel
theorem dX9_cureSeconds_13 : decode cX9_cureSeconds 13 = .ok (.invokestatic 367, 3) := by decide +kernel
theorem dX9_cureSeconds_16 : decode cX9_cureSeconds 16 = .ok (.imul, 1) := by decide +kernel
theorem dX9_cureSeconds_17 : decode cX9_cureSeconds 17 = .ok (.iconst 5, 1) := by decide +kernel
theorem dX9_cureSeconds_18 : decode cX9_cureSeconds 18 = .ok (.iload_n 3, 1) := by decide +kernel
theorem dX9_cureSeconds_19 : decode cX9_cureSeconds 19 = .ok (.aload_n 0, 1) := by decide +kernel
theorem dX9_cureSeconds_20 : decode cX9_cureSeconds 20 = .ok (.getfield 10, 3) := by decide +kernel
theorem dX9_cureSeconds_23 : decode cX9_cureSeconds 23 = .ok (.getfield 87, 3) := by decide +kernel
theorem dX9_cureSeconds_26 : decode cX9_cureSeconds 26 = .ok (.getfield 364, 3) := by decide +kernel
theorem dX9_cureSeconds_29 : decode cX9_cureSeconds 29 = .ok (.isub, 1) := by decide +kernel
theorem dX9_cureSeconds_30 : decode cX9_cureSeconds 30 = .ok (.invokestatic 367, 3) := by decide +kernel
theorem dX9_cureSeconds_33 : decode cX9_cureSeconds 33 = .ok (.imul, 1) := by decide +kernel
theorem dX9_cureSeconds_34 : decode cX9_cureSeconds 34 = .ok (.iadd, 1) := by decide +kernel
theorem dX9_cureSeconds_35 : decode cX9_cureSeconds 35 = .ok (.istore 4, 2) := by decide +kernel
theorem dX9_cureSeconds_37 : decode cX9_cureSeconds 37 = .ok (.iconst 0, 1) := by decide +kernel
theorem dX9_cureSeconds_38 : decode cX9_cureSeconds 38 = .ok (.istore 5, 2) := by decide +kernel
theorem dX9_cureSeconds_40 : decode cX9_cureSeconds 40 = .ok (.iload 5, 2) := by decide +kernel
theorem dX9_cureSeconds_42 : decode cX9_cureSeconds 42 = .ok (.iconst 3, 1) := by decide +kernel
theorem dX9_cureSeconds_43 : decode cX9_cureSeconds 43 = .ok (.if_icmp .ge 30, 3) := by decide +kernel
theorem dX9_cureSeconds_46 : decode cX9_cureSeconds 46 = .ok (.iload_n 1, 1) := by decide +kernel
theorem dX9_cureSeconds_47 : decode cX9_cureSeconds 47 = .ok (.iload 5, 2) := by decide +kernel
theorem dX9_cureSeconds_49 : decode cX9_cureSeconds 49 = .ok (.ishr, 1) := by decide +kernel
theorem dX9_cureSeconds_50 : decode cX9_cureSeconds 50 = .ok (.iconst 1, 1) := by decide +kernel
theorem dX9_cureSeconds_51 : decode cX9_cureSeconds 51 = .ok (.iand, 1) := by decide +kernel
theorem dX9_cureSeconds_52 : decode cX9_cureSeconds 52 = .ok (.iconst 1, 1) := by decide +kernel
theorem dX9_cureSeconds_53 : decode cX9_cureSeconds 53 = .ok (.if_icmp .ne 14, 3) := by decide +kernel
theorem dX9_cureSeconds_56 : decode cX9_cureSeconds 56 = .ok (.iload 4, 2) := by decide +kernel
theorem dX9_cureSeconds_58 : decode cX9_cureSeconds 58 = .ok (.getstatic 210, 3) := by decide +kernel
theorem dX9_cureSeconds_61 : decode cX9_cureSeconds 61 = .ok (.iload 5, 2) := by decide +kernel
theorem dX9_cureSeconds_63 : decode cX9_cureSeconds 63 = .ok (.iaload, 1) := by decide +kernel
theorem dX9_cureSeconds_64 : decode cX9_cureSeconds 64 = .ok (.iadd, 1) := by decide +kernel
theorem dX9_cureSeconds_65 : decode cX9_cureSeconds 65 = .ok (.istore 4, 2) := by decide +kernel
theorem dX9_cureSeconds_67 : decode cX9_cureSeconds 67 = .ok (.iinc 5 1, 3) := by decide +kernel
theorem dX9_cureSeconds_70 : decode cX9_cureSeconds 70 = .ok (.goto (-30), 3) := by decide +kernel
theorem dX9_cureSeconds_73 : decode cX9_cureSeconds 73 = .ok (.iload 4, 2) := by decide +kernel
theorem dX9_cureSeconds_75 : decode cX9_cureSeconds 75 = .ok (.ireturn, 1) := by decide +kernel
theorem dX9_tellsOfAllCloths_0 : decode cX9_tellsOfAllCloths 0 = .ok (.aload_n 1, 1) := by decide +kernel
theorem dX9_tellsOfAllCloths_1 : decode cX9_tellsOfAllCloths 1 = .ok (.invokevirtual 309, 3) := by decide +kernel
theorem dX9_tellsOfAllCloths_4 : decode cX9_tellsOfAllCloths 4 = .ok (.ifCond .ne 21, 3) := by decide +kernel
theorem dX9_tellsOfAllCloths_7 : decode cX9_tellsOfAllCloths 7 = .ok (.aload_n 1, 1) := by decide +kernel
theorem dX9_tellsOfAllCloths_8 : decode cX9_tellsOfAllCloths 8 = .ok (.getfield 313, 3) := by decide +kernel
theorem dX9_tellsOfAllCloths_11 : decode cX9_tellsOfAllCloths 11 = .ok (.aload_n 0, 1) := by decide +kernel
theorem dX9_tellsOfAllCloths_12 : decode cX9_tellsOfAllCloths 12 = .ok (.getfield 10, 3) := by decide +kernel
theorem dX9_tellsOfAllCloths_15 : decode cX9_tellsOfAllCloths 15 = .ok (.getfield 104, 3) := by decide +kernel
theorem dX9_tellsOfAllCloths_18 : decode cX9_tellsOfAllCloths 18 = .ok (.if_icmp .ne 7, 3) := by decide +kernel
theorem dX9_tellsOfAllCloths_21 : decode cX9_tellsOfAllCloths 21 = .ok (.iconst 1, 1) := by decide +kernel
theorem dX9_tellsOfAllCloths_22 : decode cX9_tellsOfAllCloths 22 = .ok (.goto 4, 3) := by decide +kernel
theorem dX9_tellsOfAllCloths_25 : decode cX9_tellsOfAllCloths 25 = .ok (.iconst 0, 1) := by decide +kernel
theorem dX9_tellsOfAllCloths_26 : decode cX9_tellsOfAllCloths 26 = .ok (.ireturn, 1) := by decide +kernel
theorem dX9_prepareGuesses_0 : decode cX9_prepareGuesses 0 = .ok (.aload_n 0, 1) := by decide +kernel
theorem dX9_prepareGuesses_1 : decode cX9_prepareGuesses 1 = .ok (.invokevirtual 216, 3) := by decide +kernel
theorem dX9_prepareGuesses_4 : decode cX9_prepareGuesses 4 = .ok (.aload_n 0, 1) := by decide +kernel
theorem dX9_prepareGuesses_5 : decode cX9_prepareGuesses 5 = .ok (.getfield 26, 3) := by decide +kernel
theorem dX9_prepareGuesses_8 : decode cX9_prepareGuesses 8 = .ok (.aload_n 0, 1) := by decide +kernel
theorem dX9_prepareGuesses_9 : decode cX9_prepareGuesses 9 = .ok (.getfield 10, 3) := by decide +kernel
theorem dX9_prepareGuesses_12 : decode cX9_prepareGuesses 12 = .ok (.getfield 87, 3) := by decide +kernel
theorem dX9_prepareGuesses_15 : decode cX9_prepareGuesses 15 = .ok (.invokevirtual 222, 3) := by decide +kernel
theorem dX9_prepareGuesses_18 : decode cX9_prepareGuesses 18 = .ok (.return_, 1) := by decide +kernel
theorem dX9_showsAsTold_0 : decode cX9_showsAsTold 0 = .ok (.iconst 0, 1) := by decide +kernel
theorem dX9_showsAsTold_1 : decode cX9_showsAsTold 1 = .ok (.istore_n 2, 1) := by decide +kernel
theorem dX9_showsAsTold_2 : decode cX9_showsAsTold 2 = .ok (.iload_n 2, 1) := by decide +kernel
theorem dX9_showsAsTold_3 : decode cX9_showsAsTold 3 = .ok (.aload_n 0, 1) := by decide +kernel
theorem dX9_showsAsTold_4 : decode cX9_showsAsTold 4 = .ok (.getfield 10, 3) := by decide +kernel
theorem dX9_showsAsTold_7 : decode cX9_showsAsTold 7 = .ok (.getfield 104, 3) := by decide +kernel
theorem dX9_showsAsTold_10 : decode cX9_showsAsTold 10 = .ok (.if_icmp .ge 42, 3) := by decide +kernel
theorem dX9_showsAsTold_13 : decode cX9_showsAsTold 13 = .ok (.aload_n 1, 1) := by decide +kernel
theorem dX9_showsAsTold_14 : decode cX9_showsAsTold 14 = .ok (.getfield 324, 3) := by decide +kernel
theorem dX9_showsAsTold_17 : decode cX9_showsAsTold 17 = .ok (.iload_n 2, 1) := by decide +kernel
theorem dX9_showsAsTold_18 : decode cX9_showsAsTold 18 = .ok (.iaload, 1) := by decide +kernel
theorem dX9_showsAsTold_19 : decode cX9_showsAsTold 19 = .ok (.ifCond .lt 27, 3) := by decide +kernel
theorem dX9_showsAsTold_22 : decode cX9_showsAsTold 22 = .ok (.aload_n 0, 1) := by decide +kernel
theorem dX9_showsAsTold_23 : decode cX9_showsAsTold 23 = .ok (.getfield 32, 3) := by decide +kernel
theorem dX9_showsAsTold_26 : decode cX9_showsAsTold 26 = .ok (.iload_n 2, 1) := by decide +kernel
theorem dX9_showsAsTold_27 : decode cX9_showsAsTold 27 = .ok (.aaload, 1) := by decide +kernel
theorem dX9_showsAsTold_28 : decode cX9_showsAsTold 28 = .ok (.aload_n 0, 1) := by decide +kernel
theorem dX9_showsAsTold_29 : decode cX9_showsAsTold 29 = .ok (.getfield 26, 3) := by decide +kernel
theorem dX9_showsAsTold_32 : decode cX9_showsAsTold 32 = .ok (.invokevirtual 144, 3) := by decide +kernel
theorem dX9_showsAsTold_35 : decode cX9_showsAsTold 35 = .ok (.aload_n 1, 1) := by decide +kernel
theorem dX9_showsAsTold_36 : decode cX9_showsAsTold 36 = .ok (.getfield 324, 3) := by decide +kernel
theorem dX9_showsAsTold_39 : decode cX9_showsAsTold 39 = .ok (.iload_n 2, 1) := by decide +kernel
theorem dX9_showsAsTold_40 : decode cX9_showsAsTold 40 = .ok (.iaload, 1) := by decide +kernel
theorem dX9_showsAsTold_41 : decode cX9_showsAsTold 41 = .ok (.if_icmp .eq 5, 3) := by decide +kernel
theorem dX9_showsAsTold_44 : decode cX9_showsAsTold 44 = .ok (.iconst 0, 1) := by decide +kernel
theorem dX9_showsAsTold_45 : decode cX9_showsAsTold 45 = .ok (.ireturn, 1) := by decide +kernel
theorem dX9_showsAsTold_46 : decode cX9_showsAsTold 46 = .ok (.iinc 2 1, 3) := by decide +kernel
theorem dX9_showsAsTold_49 : decode cX9_showsAsTold 49 = .ok (.goto (-47), 3) := by decide +kernel
theorem dX9_showsAsTold_52 : decode cX9_showsAsTold 52 = .ok (.iconst 1, 1) := by decide +kernel
theorem dX9_showsAsTold_53 : decode cX9_showsAsTold 53 = .ok (.ireturn, 1) := by decide +kernel
theorem dX9_tallyAll_0 : decode cX9_tallyAll 0 = .ok (.iconst 0, 1) := by decide +kernel
theorem dX9_tallyAll_1 : decode cX9_tallyAll 1 = .ok (.istore_n 1, 1) := by decide +kernel
theorem dX9_tallyAll_2 : decode cX9_tallyAll 2 = .ok (.iload_n 1, 1) := by decide +kernel
theorem dX9_tallyAll_3 : decode cX9_tallyAll 3 = .ok (.aload_n 0, 1) := by decide +kernel
theorem dX9_tallyAll_4 : decode cX9_tallyAll 4 = .ok (.getfield 10, 3) := by decide +kernel
theorem dX9_tallyAll_7 : decode cX9_tallyAll 7 = .ok (.getfield 104, 3) := by decide +kernel
theorem dX9_tallyAll_10 : decode cX9_tallyAll 10 = .ok (.if_icmp .ge 35, 3) := by decide +kernel
theorem dX9_tallyAll_13 : decode cX9_tallyAll 13 = .ok (.aload_n 0, 1) := by decide +kernel
theorem dX9_tallyAll_14 : decode cX9_tallyAll 14 = .ok (.getfield 43, 3) := by decide +kernel
theorem dX9_tallyAll_17 : decode cX9_tallyAll 17 = .ok (.iload_n 1, 1) := by decide +kernel
theorem dX9_tallyAll_18 : decode cX9_tallyAll 18 = .ok (.iconst 5, 1) := by decide +kernel
theorem dX9_tallyAll_19 : decode cX9_tallyAll 19 = .ok (.imul, 1) := by decide +kernel
theorem dX9_tallyAll_20 : decode cX9_tallyAll 20 = .ok (.aload_n 0, 1) := by decide +kernel
theorem dX9_tallyAll_21 : decode cX9_tallyAll 21 = .ok (.getfield 32, 3) := by decide +kernel
theorem dX9_tallyAll_24 : decode cX9_tallyAll 24 = .ok (.iload_n 1, 1) := by decide +kernel
theorem dX9_tallyAll_25 : decode cX9_tallyAll 25 = .ok (.aaload, 1) := by decide +kernel
theorem dX9_tallyAll_26 : decode cX9_tallyAll 26 = .ok (.aload_n 0, 1) := by decide +kernel
theorem dX9_tallyAll_27 : decode cX9_tallyAll 27 = .ok (.getfield 26, 3) := by decide +kernel
theorem dX9_tallyAll_30 : decode cX9_tallyAll 30 = .ok (.invokevirtual 144, 3) := by decide +kernel
theorem dX9_tallyAll_33 : decode cX9_tallyAll 33 = .ok (.iadd, 1) := by decide +kernel
theorem dX9_tallyAll_34 : decode cX9_tallyAll 34 = .ok (.dup2, 1) := by decide +kernel
theorem dX9_tallyAll_35 : decode cX9_tallyAll 35 = .ok (.iaload, 1) := by decide +kernel
theorem dX9_tallyAll_36 : decode cX9_tallyAll 36 = .ok (.iconst 1, 1) := by decide +kernel
theorem dX9_tallyAll_37 : decode cX9_tallyAll 37 = .ok (.iadd, 1) := by decide +kernel
theorem dX9_tallyAll_38 : decode cX9_tallyAll 38 = .ok (.iastore, 1) := by decide +kernel
theorem dX9_tallyAll_39 : decode cX9_tallyAll 39 = .ok (.iinc 1 1, 3) := by decide +kernel
theorem dX9_tallyAll_42 : decode cX9_tallyAll 42 = .ok (.goto (-40), 3) := by decide +kernel
theorem dX9_tallyAll_45 : decode cX9_tallyAll 45 = .ok (.return_, 1) := by decide +kernel
theorem dX9_greatestTally_0 : decode cX9_greatestTally 0 = .ok (.iconst 0, 1) := by decide +kernel
theorem dX9_greatestTally_1 : decode cX9_greatestTally 1 = .ok (.istore_n 2, 1) := by decide +kernel
theorem dX9_greatestTally_2 : decode cX9_greatestTally 2 = .ok (.iconst 0, 1) := by decide +kernel
theorem dX9_greatestTally_3 : decode cX9_greatestTally 3 = .ok (.istore_n 3, 1) := by decide +kernel
theorem dX9_greatestTally_4 : decode cX9_greatestTally 4 = .ok (.iload_n 3, 1) := by decide +kernel
theorem dX9_greatestTally_5 : decode cX9_greatestTally 5 = .ok (.iconst 5, 1) := by decide +kernel
theorem dX9_greatestTally_6 : decode cX9_greatestTally 6 = .ok (.if_icmp .ge 24, 3) := by decide +kernel
theorem dX9_greatestTally_9 : decode cX9_greatestTally 9 = .ok (.iload_n 2, 1) := by decide +kernel
theorem dX9_greatestTally_10 : decode cX9_greatestTally 10 = .ok (.aload_n 0, 1) := by decide +kernel
theorem dX9_greatestTally_11 : decode cX9_greatestTally 11 = .ok (.getfield 43, 3) := by decide +kernel
theorem dX9_greatestTally_14 : decode cX9_greatestTally 14 = .ok (.iload_n 1, 1) := by decide +kernel
theorem dX9_greatestTally_15 : decode cX9_greatestTally 15 = .ok (.iconst 5, 1) := by decide +kernel
theorem dX9_greatestTally_16 : decode cX9_greatestTally 16 = .ok (.imul, 1) := by decide +kernel
theorem dX9_greatestTally_17 : decode cX9_greatestTally 17 = .ok (.iload_n 3, 1) := by decide +kernel
theorem dX9_greatestTally_18 : decode cX9_greatestTally 18 = .ok (.iadd, 1) := by decide +kernel
theorem dX9_greatestTally_19 : decode cX9_greatestTally 19 = .ok (.iaload, 1) := by decide +kernel
theorem dX9_greatestTally_20 : decode cX9_greatestTally 20 = .ok (.invokestatic 370, 3) := by decide +kernel
theorem dX9_greatestTally_23 : decode cX9_greatestTally 23 = .ok (.istore_n 2, 1) := by decide +kernel
theorem dX9_greatestTally_24 : decode cX9_greatestTally 24 = .ok (.iinc 3 1, 3) := by decide +kernel
theorem dX9_greatestTally_27 : decode cX9_greatestTally 27 = .ok (.goto (-23), 3) := by decide +kernel
theorem dX9_greatestTally_30 : decode cX9_greatestTally 30 = .ok (.iload_n 2, 1) := by decide +kernel
theorem dX9_greatestTally_31 : decode cX9_greatestTally 31 = .ok (.ireturn, 1) := by decide +kernel
theorem dX9_commonOfTen_0 : decode cX9_commonOfTen 0 = .ok (.iload_n 0, 1) := by decide +kernel
theorem dX9_commonOfTen_1 : decode cX9_commonOfTen 1 = .ok (.bipush 10, 2) := by decide +kernel
theorem dX9_commonOfTen_3 : decode cX9_commonOfTen 3 = .ok (.irem, 1) := by decide +kernel
theorem dX9_commonOfTen_4 : decode cX9_commonOfTen 4 = .ok (.ifCond .ne 6, 3) := by decide +kernel
theorem dX9_commonOfTen_7 : decode cX9_commonOfTen 7 = .ok (.bipush 10, 2) := by decide +kernel
theorem dX9_commonOfTen_9 : decode cX9_commonOfTen 9 = .ok (.ireturn, 1) := by decide +kernel
theorem dX9_commonOfTen_10 : decode cX9_commonOfTen 10 = .ok (.iload_n 0, 1) := by decide +kernel
theorem dX9_commonOfTen_11 : decode cX9_commonOfTen 11 = .ok (.iconst 5, 1) := by decide +kernel
theorem dX9_commonOfTen_12 : decode cX9_commonOfTen 12 = .ok (.irem, 1) := by decide +kernel
theorem dX9_commonOfTen_13 : decode cX9_commonOfTen 13 = .ok (.ifCond .ne 5, 3) := by decide +kernel
theorem dX9_commonOfTen_16 : decode cX9_commonOfTen 16 = .ok (.iconst 5, 1) := by decide +kernel
theorem dX9_commonOfTen_17 : decode cX9_commonOfTen 17 = .ok (.ireturn, 1) := by decide +kernel
theorem dX9_commonOfTen_18 : decode cX9_commonOfTen 18 = .ok (.iload_n 0, 1) := by decide +kernel
theorem dX9_commonOfTen_19 : decode cX9_commonOfTen 19 = .ok (.iconst 2, 1) := by decide +kernel
theorem dX9_commonOfTen_20 : decode cX9_commonOfTen 20 = .ok (.irem, 1) := by decide +kernel
theorem dX9_commonOfTen_21 : decode cX9_commonOfTen 21 = .ok (.ifCond .ne 7, 3) := by decide +kernel
theorem dX9_commonOfTen_24 : decode cX9_commonOfTen 24 = .ok (.iconst 2, 1) := by decide +kernel
theorem dX9_commonOfTen_25 : decode cX9_commonOfTen 25 = .ok (.goto 4, 3) := by decide +kernel
theorem dX9_commonOfTen_28 : decode cX9_commonOfTen 28 = .ok (.iconst 1, 1) := by decide +kernel
theorem dX9_commonOfTen_29 : decode cX9_commonOfTen 29 = .ok (.ireturn, 1) := by decide +kernel
theorem dX9_held_0 : decode cX9_held 0 = .ok (.iload_n 1, 1) := by decide +kernel
theorem dX9_held_1 : decode cX9_held 1 = .ok (.iload_n 2, 1) := by decide +kernel
theorem dX9_held_2 : decode cX9_held 2 = .ok (.iload_n 0, 1) := by decide +kernel
theorem dX9_held_3 : decode cX9_held 3 = .ok (.invokestatic 333, 3) := by decide +kernel
theorem dX9_held_6 : decode cX9_held 6 = .ok (.invokestatic 370, 3) := by decide +kernel
theorem dX9_held_9 : decode cX9_held 9 = .ok (.ireturn, 1) := by decide +kernel
theorem dX9_above_0 : decode cX9_above 0 = .ok (.iload_n 0, 1) := by decide +kernel
theorem dX9_above_1 : decode cX9_above 1 = .ok (.tableswitch 47 1 6 #[39, 39, 39, 41, 43, 45], 39) := by decide +kernel
theorem dX9_above_40 : decode cX9_above 40 = .ok (.iconst 0, 1) := by decide +kernel
theorem dX9_above_41 : decode cX9_above 41 = .ok (.ireturn, 1) := by decide +kernel
theorem dX9_above_42 : decode cX9_above 42 = .ok (.iconst 1, 1) := by decide +kernel
theorem dX9_above_43 : decode cX9_above 43 = .ok (.ireturn, 1) := by decide +kernel
theorem dX9_above_44 : decode cX9_above 44 = .ok (.iconst 2, 1) := by decide +kernel
theorem dX9_above_45 : decode cX9_above 45 = .ok (.ireturn, 1) := by decide +kernel
theorem dX9_above_46 : decode cX9_above 46 = .ok (.iconst 3, 1) := by decide +kernel
theorem dX9_above_47 : decode cX9_above 47 = .ok (.ireturn, 1) := by decide +kernel
theorem dX9_above_48 : decode cX9_above 48 = .ok (.iconst (-1), 1) := by decide +kernel
theorem dX9_above_49 : decode cX9_above 49 = .ok (.ireturn, 1) := by decide +kernel
