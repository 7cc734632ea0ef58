theorem dX0_init_0 : decode cX0_init 0 = .ok (.aload_n 0, 1) := by decide +kernel
theorem dX0_init_1 : decode cX0_init 1 = .ok (.invokespecial 3, 3) := by decide +kernel
theorem dX0_init_4 : decode cX0_init 4 = .ok (.aload_n 0, 1) := by decide +kernel
theorem dX0_init_5 : decode cX0_init 5 = .ok (.iconst 0, 1) := by decide +kernel
theorem dX0_init_6 : decode cX0_init 6 = .ok (.putfield 9, 3) := by decide +kernel
theorem dX0_init_9 : decode cX0_init 9 = .ok (.aload_n 0, 1) := by decide +kernel
theorem dX0_init_10 : decode cX0_init 10 = .ok (.iconst 0, 1) := by decide +kernel
theorem dX0_init_11 : decode cX0_init 11 = .ok (.putfield 15, 3) := by decide +kernel
theorem dX0_init_14 : decode cX0_init 14 = .ok (.aload_n 0, 1) := by decide +kernel
theorem dX0_init_15 : decode cX0_init 15 = .ok (.bipush 8, 2) := by decide +kernel
theorem dX0_init_17 : decode cX0_init 17 = .ok (.newarray .long, 2) := by decide +kernel
theorem dX0_init_19 : decode cX0_init 19 = .ok (.putfield 18, 3) := by decide +kernel
theorem dX0_init_22 : decode cX0_init 22 = .ok (.aload_n 0, 1) := by decide +kernel
theorem dX0_init_23 : decode cX0_init 23 = .ok (.bipush 8, 2) := by decide +kernel
theorem dX0_init_25 : decode cX0_init 25 = .ok (.newarray .long, 2) := by decide +kernel
theorem dX0_init_27 : decode cX0_init 27 = .ok (.putfield 22, 3) := by decide +kernel
theorem dX0_init_30 : decode cX0_init 30 = .ok (.aload_n 0, 1) := by decide +kernel
theorem dX0_init_31 : decode cX0_init 31 = .ok (.bipush 8, 2) := by decide +kernel
theorem dX0_init_33 : decode cX0_init 33 = .ok (.newarray .int, 2) := by decide +kernel
theorem dX0_init_35 : decode cX0_init 35 = .ok (.putfield 25, 3) := by decide +kernel
theorem dX0_init_38 : decode cX0_init 38 = .ok (.aload_n 0, 1) := by decide +kernel
theorem dX0_init_39 : decode cX0_init 39 = .ok (.sipush 256, 3) := by decide +kernel
theorem dX0_init_42 : decode cX0_init 42 = .ok (.newarray .byte, 2) := by decide +kernel
theorem dX0_init_44 : decode cX0_init 44 = .ok (.putfield 29, 3) := by decide +kernel
theorem dX0_init_47 : decode cX0_init 47 = .ok (.aload_n 0, 1) := by decide +kernel
theorem dX0_init_48 : decode cX0_init 48 = .ok (.iconst 0, 1) := by decide +kernel
theorem dX0_init_49 : decode cX0_init 49 = .ok (.putfield 33, 3) := by decide +kernel
theorem dX0_init_52 : decode cX0_init 52 = .ok (.aload_n 0, 1) := by decide +kernel
theorem dX0_init_53 : decode cX0_init 53 = .ok (.iconst 0, 1) := by decide +kernel
theorem dX0_init_54 : decode cX0_init 54 = .ok (.putfield 36, 3) := by decide +kernel
theorem dX0_init_57 : decode cX0_init 57 = .ok (.return_, 1) := by decide +kernel
theorem dX0_clear_0 : decode cX0_clear 0 = .ok (.aload_n 0, 1) := by decide +kernel
theorem dX0_clear_1 : decode cX0_clear 1 = .ok (.iconst 0, 1) := by decide +kernel
theorem dX0_clear_2 : decode cX0_clear 2 = .ok (.putfield 9, 3) := by decide +kernel
theorem dX0_clear_5 : decode cX0_clear 5 = .ok (.aload_n 0, 1) := by decide +kernel
theorem dX0_clear_6 : decode cX0_clear 6 = .ok (.iconst 0, 1) := by decide +kernel
theorem dX0_clear_7 : decode cX0_clear 7 = .ok (.putfield 15, 3) := by decide +kernel
theorem dX0_clear_10 : decode cX0_clear 10 = .ok (.aload_n 0, 1) := by decide +kernel
theorem dX0_clear_11 : decode cX0_clear 11 = .ok (.iconst 0, 1) := by decide +kernel
theorem dX0_clear_12 : decode cX0_clear 12 = .ok (.putfield 33, 3) := by decide +kernel
theorem dX0_clear_15 : decode cX0_clear 15 = .ok (.aload_n 0, 1) := by decide +kernel
theorem dX0_clear_16 : decode cX0_clear 16 = .ok (.iconst 0, 1) := by decide +kernel
theorem dX0_clear_17 : decode cX0_clear 17 = .ok (.putfield 36, 3) := by decide +kernel
theorem dX0_clear_20 : decode cX0_clear 20 = .ok (.return_, 1) := by decide +kernel
theorem dX0_readCause_0 : decode cX0_readCause 0 = .ok (.aload_n 0, 1) := by decide +kernel
theorem dX0_readCause_1 : decode cX0_readCause 1 = .ok (.getfield 9, 3) := by decide +kernel
theorem dX0_readCause_4 : decode cX0_readCause 4 = .ok (.bipush 8, 2) := by decide +kernel
theorem dX0_readCause_6 : decode cX0_readCause 6 = .ok (.if_icmp .lt 9, 3) := by decide +kernel
theorem dX0_readCause_9 : decode cX0_readCause 9 = .ok (.aload_n 1, 1) := by decide +kernel
theorem dX0_readCause_10 : decode cX0_readCause 10 = .ok (.iconst 2, 1) := by decide +kernel
theorem dX0_readCause_11 : decode cX0_readCause 11 = .ok (.invokevirtual 39, 3) := by decide +kernel
theorem dX0_readCause_14 : decode cX0_readCause 14 = .ok (.ireturn, 1) := by decide +kernel
theorem dX0_readCause_15 : decode cX0_readCause 15 = .ok (.aload_n 1, 1) := by decide +kernel
theorem dX0_readCause_16 : decode cX0_readCause 16 = .ok (.invokevirtual 45, 3) := by decide +kernel
theorem dX0_readCause_19 : decode cX0_readCause 19 = .ok (.aload_n 1, 1) := by decide +kernel
theorem dX0_readCause_20 : decode cX0_readCause 20 = .ok (.aload_n 0, 1) := by decide +kernel
theorem dX0_readCause_21 : decode cX0_readCause 21 = .ok (.getfield 18, 3) := by decide +kernel
theorem dX0_readCause_24 : decode cX0_readCause 24 = .ok (.aload_n 0, 1) := by decide +kernel
theorem dX0_readCause_25 : decode cX0_readCause 25 = .ok (.getfield 9, 3) := by decide +kernel
theorem dX0_readCause_28 : decode cX0_readCause 28 = .ok (.invokevirtual 48, 3) := by decide +kernel
theorem dX0_readCause_31 : decode cX0_readCause 31 = .ok (.ifCond .ne 5, 3) := by decide +kernel
theorem dX0_readCause_34 : decode cX0_readCause 34 = .ok (.iconst 0, 1) := by decide +kernel
theorem dX0_readCause_35 : decode cX0_readCause 35 = .ok (.ireturn, 1) := by decide +kernel
theorem dX0_readCause_36 : decode cX0_readCause 36 = .ok (.aload_n 0, 1) := by decide +kernel
theorem dX0_readCause_37 : decode cX0_readCause 37 = .ok (.dup, 1) := by decide +kernel
theorem dX0_readCause_38 : decode cX0_readCause 38 = .ok (.getfield 9, 3) := by decide +kernel
theorem dX0_readCause_41 : decode cX0_readCause 41 = .ok (.iconst 1, 1) := by decide +kernel
theorem dX0_readCause_42 : decode cX0_readCause 42 = .ok (.iadd, 1) := by decide +kernel
theorem dX0_readCause_43 : decode cX0_readCause 43 = .ok (.putfield 9, 3) := by decide +kernel
theorem dX0_readCause_46 : decode cX0_readCause 46 = .ok (.iconst 1, 1) := by decide +kernel
theorem dX0_readCause_47 : decode cX0_readCause 47 = .ok (.ireturn, 1) := by decide +kernel
theorem dX0_readTrial_0 : decode cX0_readTrial 0 = .ok (.aload_n 0, 1) := by decide +kernel
theorem dX0_readTrial_1 : decode cX0_readTrial 1 = .ok (.getfield 15, 3) := by decide +kernel
theorem dX0_readTrial_4 : decode cX0_readTrial 4 = .ok (.bipush 8, 2) := by decide +kernel
theorem dX0_readTrial_6 : decode cX0_readTrial 6 = .ok (.if_icmp .lt 9, 3) := by decide +kernel
theorem dX0_readTrial_9 : decode cX0_readTrial 9 = .ok (.aload_n 1, 1) := by decide +kernel
theorem dX0_readTrial_10 : decode cX0_readTrial 10 = .ok (.iconst 2, 1) := by decide +kernel
theorem dX0_readTrial_11 : decode cX0_readTrial 11 = .ok (.invokevirtual 39, 3) := by decide +kernel
theorem dX0_readTrial_14 : decode cX0_readTrial 14 = .ok (.ireturn, 1) := by decide +kernel
theorem dX0_readTrial_15 : decode cX0_readTrial 15 = .ok (.aload_n 1, 1) := by decide +kernel
theorem dX0_readTrial_16 : decode cX0_readTrial 16 = .ok (.invokevirtual 45, 3) := by decide +kernel
theorem dX0_readTrial_19 : decode cX0_readTrial 19 = .ok (.aload_n 1, 1) := by decide +kernel
theorem dX0_readTrial_20 : decode cX0_readTrial 20 = .ok (.aload_n 0, 1) := by decide +kernel
theorem dX0_readTrial_21 : decode cX0_readTrial 21 = .ok (.getfield 22, 3) := by decide +kernel
theorem dX0_readTrial_24 : decode cX0_readTrial 24 = .ok (.aload_n 0, 1) := by decide +kernel
theorem dX0_readTrial_25 : decode cX0_readTrial 25 = .ok (.getfield 15, 3) := by decide +kernel
theorem dX0_readTrial_28 : decode cX0_readTrial 28 = .ok (.invokevirtual 48, 3) := by decide +kernel
theorem dX0_readTrial_31 : decode cX0_readTrial 31 = .ok (.ifCond .eq 13, 3) := by decide +kernel
theorem dX0_readTrial_34 : decode cX0_readTrial 34 = .ok (.aload_n 1, 1) := by decide +kernel
theorem dX0_readTrial_35 : decode cX0_readTrial 35 = .ok (.sipush 269, 3) := by decide +kernel
theorem dX0_readTrial_38 : decode cX0_readTrial 38 = .ok (.invokevirtual 52, 3) := by decide +kernel
theorem dX0_readTrial_41 : decode cX0_readTrial 41 = .ok (.ifCond .ne 5, 3) := by decide +kernel
theorem dX0_readTrial_44 : decode cX0_readTrial 44 = .ok (.iconst 0, 1) := by decide +kernel
theorem dX0_readTrial_45 : decode cX0_readTrial 45 = .ok (.ireturn, 1) := by decide +kernel
theorem dX0_readTrial_46 : decode cX0_readTrial 46 = .ok (.iconst 0, 1) := by decide +kernel
theorem dX0_readTrial_47 : decode cX0_readTrial 47 = .ok (.istore_n 2, 1) := by decide +kernel
theorem dX0_readTrial_48 : decode cX0_readTrial 48 = .ok (.iconst 0, 1) := by decide +kernel
theorem dX0_readTrial_49 : decode cX0_readTrial 49 = .ok (.istore_n 3, 1) := by decide +kernel
theorem dX0_readTrial_50 : decode cX0_readTrial 50 = .ok (.iload_n 3, 1) := by decide +kernel
theorem dX0_readTrial_51 : decode cX0_readTrial 51 = .ok (.bipush 8, 2) := by decide +kernel
theorem dX0_readTrial_53 : decode cX0_readTrial 53 = .ok (.if_icmp .gt 91, 3) := by decide +kernel
theorem dX0_readTrial_56 : decode cX0_readTrial 56 = .ok (.iload_n 3, 1) := by decide +kernel
theorem dX0_readTrial_57 : decode cX0_readTrial 57 = .ok (.ifCond .eq 11, 3) := by decide +kernel
theorem dX0_readTrial_60 : decode cX0_readTrial 60 = .ok (.aload_n 1, 1) := by decide +kernel
theorem dX0_readTrial_61 : decode cX0_readTrial 61 = .ok (.getfield 55, 3) := by decide +kernel
theorem dX0_readTrial_64 : decode cX0_readTrial 64 = .ok (.iconst 2, 1) := by decide +kernel
theorem dX0_readTrial_65 : decode cX0_readTrial 65 = .ok (.if_icmp .ne 79, 3) := by decide +kernel
theorem dX0_readTrial_68 : decode cX0_readTrial 68 = .ok (.aload_n 1, 1) := by decide +kernel
theorem dX0_readTrial_69 : decode cX0_readTrial 69 = .ok (.getfield 55, 3) := by decide +kernel
theorem dX0_readTrial_72 : decode cX0_readTrial 72 = .ok (.iconst 2, 1) := by decide +kernel
theorem dX0_readTrial_73 : decode cX0_readTrial 73 = .ok (.if_icmp .eq 9, 3) := by decide +kernel
theorem dX0_readTrial_76 : decode cX0_readTrial 76 = .ok (.aload_n 1, 1) := by decide +kernel
theorem dX0_readTrial_77 : decode cX0_readTrial 77 = .ok (.iconst 2, 1) := by decide +kernel
theorem dX0_readTrial_78 : decode cX0_readTrial 78 = .ok (.invokevirtual 39, 3) := by decide +kernel
theorem dX0_readTrial_81 : decode cX0_readTrial 81 = .ok (.ireturn, 1) := by decide +kernel
theorem dX0_readTrial_82 : decode cX0_readTrial 82 = .ok (.aload_n 0, 1) := by decide +kernel
theorem dX0_readTrial_83 : decode cX0_readTrial 83 = .ok (.getfield 18, 3) := by decide +kernel
theorem dX0_readTrial_86 : decode cX0_readTrial 86 = .ok (.aload_n 0, 1) := by decide +kernel
theorem dX0_readTrial_87 : decode cX0_readTrial 87 = .ok (.getfield 9, 3) := by decide +kernel
theorem dX0_readTrial_90 : decode cX0_readTrial 90 = .ok (.aload_n 1, 1) := by decide +kernel
theorem dX0_readTrial_91 : decode cX0_readTrial 91 = .ok (.getfield 58, 3) := by decide +kernel
theorem dX0_readTrial_94 : decode cX0_readTrial 94 = .ok (.invokestatic 62, 3) := by decide +kernel
theorem dX0_readTrial_97 : decode cX0_readTrial 97 = .ok (.istore 4, 2) := by decide +kernel
theorem dX0_readTrial_99 : decode cX0_readTrial 99 = .ok (.iload 4, 2) := by decide +kernel
theorem dX0_readTrial_101 : decode cX0_readTrial 101 = .ok (.iconst (-1), 1) := by decide +kernel
theorem dX0_readTrial_102 : decode cX0_readTrial 102 = .ok (.if_icmp .ne 9, 3) := by decide +kernel
theorem dX0_readTrial_105 : decode cX0_readTrial 105 = .ok (.aload_n 1, 1) := by decide +kernel
theorem dX0_readTrial_106 : decode cX0_readTrial 106 = .ok (.iconst 5, 1) := by decide +kernel
theorem dX0_readTrial_107 : decode cX0_readTrial 107 = .ok (.invokevirtual 39, 3) := by decide +kernel
theorem dX0_readTrial_110 : decode cX0_readTrial 110 = .ok (.ireturn, 1) := by decide +kernel
theorem dX0_readTrial_111 : decode cX0_readTrial 111 = .ok (.iload_n 2, 1) := by decide +kernel
theorem dX0_readTrial_112 : decode cX0_readTrial 112 = .ok (.iload 4, 2) := by decide +kernel
theorem dX0_readTrial_114 : decode cX0_readTrial 114 = .ok (.ishr, 1) := by decide +kernel
theorem dX0_readTrial_115 : decode cX0_readTrial 115 = .ok (.iconst 1, 1) := by decide +kernel
theorem dX0_readTrial_116 : decode cX0_readTrial 116 = .ok (.iand, 1) := by decide +kernel
theorem dX0_readTrial_117 : decode cX0_readTrial 117 = .ok (.iconst 1, 1) := by decide +kernel
theorem dX0_readTrial_118 : decode cX0_readTrial 118 = .ok (.if_icmp .ne 9, 3) := by decide +kernel
theorem dX0_readTrial_121 : decode cX0_readTrial 121 = .ok (.aload_n 1, 1) := by decide +kernel
theorem dX0_readTrial_122 : decode cX0_readTrial 122 = .ok (.iconst 3, 1) := by decide +kernel
theorem dX0_readTrial_123 : decode cX0_readTrial 123 = .ok (.invokevirtual 39, 3) := by decide +kernel
theorem dX0_readTrial_126 : decode cX0_readTrial 126 = .ok (.ireturn, 1) := by decide +kernel
theorem dX0_readTrial_127 : decode cX0_readTrial 127 = .ok (.iload_n 2, 1) := by decide +kernel
theorem dX0_readTrial_128 : decode cX0_readTrial 128 = .ok (.iconst 1, 1) := by decide +kernel
theorem dX0_readTrial_129 : decode cX0_readTrial 129 = .ok (.iload 4, 2) := by decide +kernel
theorem dX0_readTrial_131 : decode cX0_readTrial 131 = .ok (.ishl, 1) := by decide +kernel
theorem dX0_readTrial_132 : decode cX0_readTrial 132 = .ok (.ior, 1) := by decide +kernel
theorem dX0_readTrial_133 : decode cX0_readTrial 133 = .ok (.istore_n 2, 1) := by decide +kernel
theorem dX0_readTrial_134 : decode cX0_readTrial 134 = .ok (.aload_n 1, 1) := by decide +kernel
theorem dX0_readTrial_135 : decode cX0_readTrial 135 = .ok (.invokevirtual 45, 3) := by decide +kernel
theorem dX0_readTrial_138 : decode cX0_readTrial 138 = .ok (.iinc 3 1, 3) := by decide +kernel
theorem dX0_readTrial_141 : decode cX0_readTrial 141 = .ok (.goto (-91), 3) := by decide +kernel
theorem dX0_readTrial_144 : decode cX0_readTrial 144 = .ok (.aload_n 0, 1) := by decide +kernel
theorem dX0_readTrial_145 : decode cX0_readTrial 145 = .ok (.getfield 25, 3) := by decide +kernel
theorem dX0_readTrial_148 : decode cX0_readTrial 148 = .ok (.aload_n 0, 1) := by decide +kernel
theorem dX0_readTrial_149 : decode cX0_readTrial 149 = .ok (.getfield 15, 3) := by decide +kernel
theorem dX0_readTrial_152 : decode cX0_readTrial 152 = .ok (.iload_n 2, 1) := by decide +kernel
theorem dX0_readTrial_153 : decode cX0_readTrial 153 = .ok (.iastore, 1) := by decide +kernel
theorem dX0_readTrial_154 : decode cX0_readTrial 154 = .ok (.aload_n 0, 1) := by decide +kernel
theorem dX0_readTrial_155 : decode cX0_readTrial 155 = .ok (.dup, 1) := by decide +kernel
theorem dX0_readTrial_156 : decode cX0_readTrial 156 = .ok (.getfield 15, 3) := by decide +kernel
theorem dX0_readTrial_159 : decode cX0_readTrial 159 = .ok (.iconst 1, 1) := by decide +kernel
theorem dX0_readTrial_160 : decode cX0_readTrial 160 = .ok (.iadd, 1) := by decide +kernel
theorem dX0_readTrial_161 : decode cX0_readTrial 161 = .ok (.putfield 15, 3) := by decide +kernel
theorem dX0_readTrial_164 : decode cX0_readTrial 164 = .ok (.iconst 1, 1) := by decide +kernel
theorem dX0_readTrial_165 : decode cX0_readTrial 165 = .ok (.ireturn, 1) := by decide +kernel
theorem dX0_tell_0 : decode cX0_tell 0 = .ok (.iload_n 1, 1) := by decide +kernel
theorem dX0_tell_1 : decode cX0_tell 1 = .ok (.iconst 0, 1) := by decide +kernel
theorem dX0_tell_2 : decode cX0_tell 2 = .ok (.aload_n 0, 1) := by decide +kernel
theorem dX0_tell_3 : decode cX0_tell 3 = .ok (.getfield 15, 3) := by decide +kernel
theorem dX0_tell_6 : decode cX0_tell 6 = .ok (.iconst 1, 1) := by decide +kernel
theorem dX0_tell_7 : decode cX0_tell 7 = .ok (.isub, 1) := by decide +kernel
theorem dX0_tell_8 : decode cX0_tell 8 = .ok (.invokestatic 66, 3) := by decide +kernel
theorem dX0_tell_11 : decode cX0_tell 11 = .ok (.ifCond .ne 5, 3) := by decide +kernel
theorem dX0_tell_14 : decode cX0_tell 14 = .ok (.iconst 0, 1) := by decide +kernel
theorem dX0_tell_15 : decode cX0_tell 15 = .ok (.ireturn, 1) := by decide +kernel
theorem dX0_tell_16 : decode cX0_tell 16 = .ok (.iconst 1, 1) := by decide +kernel
theorem dX0_tell_17 : decode cX0_tell 17 = .ok (.iload_n 1, 1) := by decide +kernel
theorem dX0_tell_18 : decode cX0_tell 18 = .ok (.ishl, 1) := by decide +kernel
theorem dX0_tell_19 : decode cX0_tell 19 = .ok (.istore_n 3, 1) := by decide +kernel
theorem dX0_tell_20 : decode cX0_tell 20 = .ok (.aload_n 0, 1) := by decide +kernel
theorem dX0_tell_21 : decode cX0_tell 21 = .ok (.getfield 33, 3) := by decide +kernel
theorem dX0_tell_24 : decode cX0_tell 24 = .ok (.iload_n 3, 1) := by decide +kernel
theorem dX0_tell_25 : decode cX0_tell 25 = .ok (.iand, 1) := by decide +kernel
theorem dX0_tell_26 : decode cX0_tell 26 = .ok (.ifCond .eq 7, 3) := by decide +kernel
theorem dX0_tell_29 : decode cX0_tell 29 = .ok (.iconst 1, 1) := by decide +kernel
theorem dX0_tell_30 : decode cX0_tell 30 = .ok (.goto 4, 3) := by decide +kernel
theorem dX0_tell_33 : decode cX0_tell 33 = .ok (.iconst 0, 1) := by decide +kernel
theorem dX0_tell_34 : decode cX0_tell 34 = .ok (.istore 4, 2) := by decide +kernel
theorem dX0_tell_36 : decode cX0_tell 36 = .ok (.aload_n 0, 1) := by decide +kernel
theorem dX0_tell_37 : decode cX0_tell 37 = .ok (.getfield 36, 3) := by decide +kernel
theorem dX0_tell_40 : decode cX0_tell 40 = .ok (.iload_n 3, 1) := by decide +kernel
theorem dX0_tell_41 : decode cX0_tell 41 = .ok (.iand, 1) := by decide +kernel
theorem dX0_tell_42 : decode cX0_tell 42 = .ok (.ifCond .eq 7, 3) := by decide +kernel
theorem dX0_tell_45 : decode cX0_tell 45 = .ok (.iconst 1, 1) := by decide +kernel
theorem dX0_tell_46 : decode cX0_tell 46 = .ok (.goto 4, 3) := by decide +kernel
theorem dX0_tell_49 : decode cX0_tell 49 = .ok (.iconst 0, 1) := by decide +kernel
theorem dX0_tell_50 : decode cX0_tell 50 = .ok (.istore 5, 2) := by decide +kernel
theorem dX0_tell_52 : decode cX0_tell 52 = .ok (.iload 4, 2) := by decide +kernel
theorem dX0_tell_54 : decode cX0_tell 54 = .ok (.ifCond .eq 11, 3) := by decide +kernel
theorem dX0_tell_57 : decode cX0_tell 57 = .ok (.iload 5, 2) := by decide +kernel
theorem dX0_tell_59 : decode cX0_tell 59 = .ok (.iload_n 2, 1) := by decide +kernel
theorem dX0_tell_60 : decode cX0_tell 60 = .ok (.if_icmp .ne 5, 3) := by decide +kernel
theorem dX0_tell_63 : decode cX0_tell 63 = .ok (.iconst 0, 1) := by decide +kernel
theorem dX0_tell_64 : decode cX0_tell 64 = .ok (.ireturn, 1) := by decide +kernel
theorem dX0_tell_65 : decode cX0_tell 65 = .ok (.aload_n 0, 1) := by decide +kernel
theorem dX0_tell_66 : decode cX0_tell 66 = .ok (.dup, 1) := by decide +kernel
theorem dX0_tell_67 : decode cX0_tell 67 = .ok (.getfield 33, 3) := by decide +kernel
theorem dX0_tell_70 : decode cX0_tell 70 = .ok (.iload_n 3, 1) := by decide +kernel
theorem dX0_tell_71 : decode cX0_tell 71 = .ok (.ior, 1) := by decide +kernel
theorem dX0_tell_72 : decode cX0_tell 72 = .ok (.putfield 33, 3) := by decide +kernel
theorem dX0_tell_75 : decode cX0_tell 75 = .ok (.aload_n 0, 1) := by decide +kernel
theorem dX0_tell_76 : decode cX0_tell 76 = .ok (.iload_n 2, 1) := by decide +kernel
theorem dX0_tell_77 : decode cX0_tell 77 = .ok (.ifCond .eq 12, 3) := by decide +kernel
theorem dX0_tell_80 : decode cX0_tell 80 = .ok (.aload_n 0, 1) := by decide +kernel
theorem dX0_tell_81 : decode cX0_tell 81 = .ok (.getfield 36, 3) := by decide +kernel
theorem dX0_tell_84 : decode cX0_tell 84 = .ok (.iload_n 3, 1) := by decide +kernel
theorem dX0_tell_85 : decode cX0_tell 85 = .ok (.ior, 1) := by decide +kernel
theorem dX0_tell_86 : decode cX0_tell 86 = .ok (.goto 11, 3) := by decide +kernel
theorem dX0_tell_89 : decode cX0_tell 89 = .ok (.aload_n 0, 1) := by decide +kernel
theorem dX0_tell_90 : decode cX0_tell 90 = .ok (.getfield 36, 3) := by decide +kernel
theorem dX0_tell_93 : decode cX0_tell 93 = .ok (.iload_n 3, 1) := by decide +kernel
theorem dX0_tell_94 : decode cX0_tell 94 = .ok (.iconst (-1), 1) := by decide +kernel
theorem dX0_tell_95 : decode cX0_tell 95 = .ok (.ixor, 1) := by decide +kernel
theorem dX0_tell_96 : decode cX0_tell 96 = .ok (.iand, 1) := by decide +kernel
theorem dX0_tell_97 : decode cX0_tell 97 = .ok (.putfield 36, 3) := by decide +kernel
theorem dX0_tell_100 : decode cX0_tell 100 = .ok (.iconst 1, 1) := by decide +kernel
theorem dX0_tell_101 : decode cX0_tell 101 = .ok (.ireturn, 1) := by decide +kernel
theorem dX0_possible_0 : decode cX0_possible 0 = .ok (.iconst 1, 1) := by decide +kernel
theorem dX0_possible_1 : decode cX0_possible 1 = .ok (.aload_n 0, 1) := by decide +kernel
theorem dX0_possible_2 : decode cX0_possible 2 = .ok (.getfield 9, 3) := by decide +kernel
theorem dX0_possible_5 : decode cX0_possible 5 = .ok (.ishl, 1) := by decide +kernel
theorem dX0_possible_6 : decode cX0_possible 6 = .ok (.iconst 1, 1) := by decide +kernel
theorem dX0_possible_7 : decode cX0_possible 7 = .ok (.isub, 1) := by decide +kernel
theorem dX0_possible_8 : decode cX0_possible 8 = .ok (.istore_n 1, 1) := by decide +kernel
theorem dX0_possible_9 : decode cX0_possible 9 = .ok (.iconst 0, 1) := by decide +kernel
theorem dX0_possible_10 : decode cX0_possible 10 = .ok (.istore_n 2, 1) := by decide +kernel
theorem dX0_possible_11 : decode cX0_possible 11 = .ok (.iload_n 2, 1) := by decide +kernel
theorem dX0_possible_12 : decode cX0_possible 12 = .ok (.aload_n 0, 1) := by decide +kernel
theorem dX0_possible_13 : decode cX0_possible 13 = .ok (.getfield 15, 3) := by decide +kernel
theorem dX0_possible_16 : decode cX0_possible 16 = .ok (.if_icmp .ge 53, 3) := by decide +kernel
theorem dX0_possible_19 : decode cX0_possible 19 = .ok (.aload_n 0, 1) := by decide +kernel
theorem dX0_possible_20 : decode cX0_possible 20 = .ok (.getfield 33, 3) := by decide +kernel
theorem dX0_possible_23 : decode cX0_possible 23 = .ok (.iload_n 2, 1) := by decide +kernel
theorem dX0_possible_24 : decode cX0_possible 24 = .ok (.ishr, 1) := by decide +kernel
theorem dX0_possible_25 : decode cX0_possible 25 = .ok (.iconst 1, 1) := by decide +kernel
theorem dX0_possible_26 : decode cX0_possible 26 = .ok (.iand, 1) := by decide +kernel
theorem dX0_possible_27 : decode cX0_possible 27 = .ok (.iconst 1, 1) := by decide +kernel
theorem dX0_possible_28 : decode cX0_possible 28 = .ok (.if_icmp .ne 35, 3) := by decide +kernel
theorem dX0_possible_31 : decode cX0_possible 31 = .ok (.iload_n 1, 1) := by decide +kernel
theorem dX0_possible_32 : decode cX0_possible 32 = .ok (.aload_n 0, 1) := by decide +kernel
theorem dX0_possible_33 : decode cX0_possible 33 = .ok (.getfield 36, 3) := by decide +kernel
theorem dX0_possible_36 : decode cX0_possible 36 = .ok (.iload_n 2, 1) := by decide +kernel
theorem dX0_possible_37 : decode cX0_possible 37 = .ok (.ishr, 1) := by decide +kernel
theorem dX0_possible_38 : decode cX0_possible 38 = .ok (.iconst 1, 1) := by decide +kernel
theorem dX0_possible_39 : decode cX0_possible 39 = .ok (.iand, 1) := by decide +kernel
theorem dX0_possible_40 : decode cX0_possible 40 = .ok (.iconst 1, 1) := by decide +kernel
theorem dX0_possible_41 : decode cX0_possible 41 = .ok (.if_icmp .ne 12, 3) := by decide +kernel
theorem dX0_possible_44 : decode cX0_possible 44 = .ok (.aload_n 0, 1) := by decide +kernel
theorem dX0_possible_45 : decode cX0_possible 45 = .ok (.getfield 25, 3) := by decide +kernel
theorem dX0_possible_48 : decode cX0_possible 48 = .ok (.iload_n 2, 1) := by decide +kernel
theorem dX0_possible_49 : decode cX0_possible 49 = .ok (.iaload, 1) := by decide +kernel
theorem dX0_possible_50 : decode cX0_possible 50 = .ok (.goto 11, 3) := by decide +kernel
theorem dX0_possible_53 : decode cX0_possible 53 = .ok (.aload_n 0, 1) := by decide +kernel
theorem dX0_possible_54 : decode cX0_possible 54 = .ok (.getfield 25, 3) := by decide +kernel
theorem dX0_possible_57 : decode cX0_possible 57 = .ok (.iload_n 2, 1) := by decide +kernel
theorem dX0_possible_58 : decode cX0_possible 58 = .ok (.iaload, 1) := by decide +kernel
theorem dX0_possible_59 : decode cX0_possible 59 = .ok (.iconst (-1), 1) := by decide +kernel
theorem dX0_possible_60 : decode cX0_possible 60 = .ok (.ixor, 1) := by decide +kernel
theorem dX0_possible_61 : decode cX0_possible 61 = .ok (.iand, 1) := by decide +kernel
theorem dX0_possible_62 : decode cX0_possible 62 = .ok (.istore_n 1, 1) := by decide +kernel
theorem dX0_possible_63 : decode cX0_possible 63 = .ok (.iinc 2 1, 3) := by decide +kernel
theorem dX0_possible_66 : decode cX0_possible 66 = .ok (.goto (-55), 3) := by decide +kernel
theorem dX0_possible_69 : decode cX0_possible 69 = .ok (.iload_n 1, 1) := by decide +kernel
theorem dX0_possible_70 : decode cX0_possible 70 = .ok (.ireturn, 1) := by decide +kernel
theorem dX0_bestTrial_0 : decode cX0_bestTrial 0 = .ok (.aload_n 0, 1) := by decide +kernel
theorem dX0_bestTrial_1 : decode cX0_bestTrial 1 = .ok (.invokevirtual 70, 3) := by decide +kernel
theorem dX0_bestTrial_4 : decode cX0_bestTrial 4 = .ok (.istore_n 1, 1) := by decide +kernel
theorem dX0_bestTrial_5 : decode cX0_bestTrial 5 = .ok (.iconst (-1), 1) := by decide +kernel
theorem dX0_bestTrial_6 : decode cX0_bestTrial 6 = .ok (.istore_n 2, 1) := by decide +kernel
theorem dX0_bestTrial_7 : decode cX0_bestTrial 7 = .ok (.iload_n 1, 1) := by decide +kernel
theorem dX0_bestTrial_8 : decode cX0_bestTrial 8 = .ok (.invokestatic 74, 3) := by decide +kernel
theorem dX0_bestTrial_11 : decode cX0_bestTrial 11 = .ok (.istore_n 3, 1) := by decide +kernel
theorem dX0_bestTrial_12 : decode cX0_bestTrial 12 = .ok (.iconst 0, 1) := by decide +kernel
theorem dX0_bestTrial_13 : decode cX0_bestTrial 13 = .ok (.istore 4, 2) := by decide +kernel
theorem dX0_bestTrial_15 : decode cX0_bestTrial 15 = .ok (.iload 4, 2) := by decide +kernel
theorem dX0_bestTrial_17 : decode cX0_bestTrial 17 = .ok (.aload_n 0, 1) := by decide +kernel
theorem dX0_bestTrial_18 : decode cX0_bestTrial 18 = .ok (.getfield 15, 3) := by decide +kernel
theorem dX0_bestTrial_21 : decode cX0_bestTrial 21 = .ok (.if_icmp .ge 64, 3) := by decide +kernel
theorem dX0_bestTrial_24 : decode cX0_bestTrial 24 = .ok (.iload_n 1, 1) := by decide +kernel
theorem dX0_bestTrial_25 : decode cX0_bestTrial 25 = .ok (.aload_n 0, 1) := by decide +kernel
theorem dX0_bestTrial_26 : decode cX0_bestTrial 26 = .ok (.getfield 25, 3) := by decide +kernel
theorem dX0_bestTrial_29 : decode cX0_bestTrial 29 = .ok (.iload 4, 2) := by decide +kernel
theorem dX0_bestTrial_31 : decode cX0_bestTrial 31 = .ok (.iaload, 1) := by decide +kernel
theorem dX0_bestTrial_32 : decode cX0_bestTrial 32 = .ok (.iand, 1) := by decide +kernel
theorem dX0_bestTrial_33 : decode cX0_bestTrial 33 = .ok (.invokestatic 74, 3) := by decide +kernel
theorem dX0_bestTrial_36 : decode cX0_bestTrial 36 = .ok (.iload_n 1, 1) := by decide +kernel
theorem dX0_bestTrial_37 : decode cX0_bestTrial 37 = .ok (.aload_n 0, 1) := by decide +kernel
theorem dX0_bestTrial_38 : decode cX0_bestTrial 38 = .ok (.getfield 25, 3) := by decide +kernel
theorem dX0_bestTrial_41 : decode cX0_bestTrial 41 = .ok (.iload 4, 2) := by decide +kernel
theorem dX0_bestTrial_43 : decode cX0_bestTrial 43 = .ok (.iaload, 1) := by decide +kernel
theorem dX0_bestTrial_44 : decode cX0_bestTrial 44 = .ok (.iconst (-1), 1) := by decide +kernel
theorem dX0_bestTrial_45 : decode cX0_bestTrial 45 = .ok (.ixor, 1) := by decide +kernel
theorem dX0_bestTrial_46 : decode cX0_bestTrial 46 = .ok (.iand, 1) := by decide +kernel
theorem dX0_bestTrial_47 : decode cX0_bestTrial 47 = .ok (.invokestatic 74, 3) := by decide +kernel
theorem dX0_bestTrial_50 : decode cX0_bestTrial 50 = .ok (.invokestatic 80, 3) := by decide +kernel
theorem dX0_bestTrial_53 : decode cX0_bestTrial 53 = .ok (.istore 5, 2) := by decide +kernel
theorem dX0_bestTrial_55 : decode cX0_bestTrial 55 = .ok (.aload_n 0, 1) := by decide +kernel
theorem dX0_bestTrial_56 : decode cX0_bestTrial 56 = .ok (.getfield 33, 3) := by decide +kernel
theorem dX0_bestTrial_59 : decode cX0_bestTrial 59 = .ok (.iload 4, 2) := by decide +kernel
theorem dX0_bestTrial_61 : decode cX0_bestTrial 61 = .ok (.ishr, 1) := by decide +kernel
theorem dX0_bestTrial_62 : decode cX0_bestTrial 62 = .ok (.iconst 1, 1) := by decide +kernel
theorem dX0_bestTrial_63 : decode cX0_bestTrial 63 = .ok (.iand, 1) := by decide +kernel
theorem dX0_bestTrial_64 : decode cX0_bestTrial 64 = .ok (.ifCond .ne 15, 3) := by decide +kernel
theorem dX0_bestTrial_67 : decode cX0_bestTrial 67 = .ok (.iload 5, 2) := by decide +kernel
theorem dX0_bestTrial_69 : decode cX0_bestTrial 69 = .ok (.iload_n 3, 1) := by decide +kernel
theorem dX0_bestTrial_70 : decode cX0_bestTrial 70 = .ok (.if_icmp .ge 9, 3) := by decide +kernel
theorem dX0_bestTrial_73 : decode cX0_bestTrial 73 = .ok (.iload 4, 2) := by decide +kernel
theorem dX0_bestTrial_75 : decode cX0_bestTrial 75 = .ok (.istore_n 2, 1) := by decide +kernel
theorem dX0_bestTrial_76 : decode cX0_bestTrial 76 = .ok (.iload 5, 2) := by decide +kernel
theorem dX0_bestTrial_78 : decode cX0_bestTrial 78 = .ok (.istore_n 3, 1) := by decide +kernel
theorem dX0_bestTrial_79 : decode cX0_bestTrial 79 = .ok (.iinc 4 1, 3) := by decide +kernel
theorem dX0_bestTrial_82 : decode cX0_bestTrial 82 = .ok (.goto (-67), 3) := by decide +kernel
theorem dX0_bestTrial_85 : decode cX0_bestTrial 85 = .ok (.iload_n 2, 1) := by decide +kernel
theorem dX0_bestTrial_86 : decode cX0_bestTrial 86 = .ok (.ireturn, 1) := by decide +kernel
theorem dX0_fewestTrials_0 : decode cX0_fewestTrials 0 = .ok (.aload_n 0, 1) := by decide +kernel
theorem dX0_fewestTrials_1 : decode cX0_fewestTrials 1 = .ok (.getfield 29, 3) := by decide +kernel
theorem dX0_fewestTrials_4 : decode cX0_fewestTrials 4 = .ok (.aload_n 0, 1) := by decide +kernel
theorem dX0_fewestTrials_5 : decode cX0_fewestTrials 5 = .ok (.invokevirtual 70, 3) := by decide +kernel
theorem dX0_fewestTrials_8 : decode cX0_fewestTrials 8 = .ok (.aload_n 0, 1) := by decide +kernel
theorem dX0_fewestTrials_9 : decode cX0_fewestTrials 9 = .ok (.getfield 29, 3) := by decide +kernel
theorem dX0_fewestTrials_12 : decode cX0_fewestTrials 12 = .ok (.arraylength, 1) := by decide +kernel
theorem dX0_fewestTrials_13 : decode cX0_fewestTrials 13 = .ok (.iconst 1, 1) := by decide +kernel
theorem dX0_fewestTrials_14 : decode cX0_fewestTrials 14 = .ok (.isub, 1) := by decide +kernel
theorem dX0_fewestTrials_15 : decode cX0_fewestTrials 15 = .ok (.iand, 1) := by decide +kernel
theorem dX0_fewestTrials_16 : decode cX0_fewestTrials 16 = .ok (.baload, 1) := by decide +kernel
theorem dX0_fewestTrials_17 : decode cX0_fewestTrials 17 = .ok (.ireturn, 1) := by decide +kernel
theorem dX0_fillFewest_0 : decode cX0_fillFewest 0 = .ok (.aload_n 0, 1) := by decide +kernel
theorem dX0_fillFewest_1 : decode cX0_fillFewest 1 = .ok (.getfield 29, 3) := by decide +kernel
theorem dX0_fillFewest_4 : decode cX0_fillFewest 4 = .ok (.iconst 0, 1) := by decide +kernel
theorem dX0_fillFewest_5 : decode cX0_fillFewest 5 = .ok (.iconst 0, 1) := by decide +kernel
theorem dX0_fillFewest_6 : decode cX0_fillFewest 6 = .ok (.bastore, 1) := by decide +kernel
theorem dX0_fillFewest_7 : decode cX0_fillFewest 7 = .ok (.iconst 1, 1) := by decide +kernel
theorem dX0_fillFewest_8 : decode cX0_fillFewest 8 = .ok (.istore_n 1, 1) := by decide +kernel
theorem dX0_fillFewest_9 : decode cX0_fillFewest 9 = .ok (.iload_n 1, 1) := by decide +kernel
theorem dX0_fillFewest_10 : decode cX0_fillFewest 10 = .ok (.iconst 1, 1) := by decide +kernel
theorem dX0_fillFewest_11 : decode cX0_fillFewest 11 = .ok (.aload_n 0, 1) := by decide +kernel
theorem dX0_fillFewest_12 : decode cX0_fillFewest 12 = .ok (.getfield 9, 3) := by decide +kernel
theorem dX0_fillFewest_15 : decode cX0_fillFewest 15 = .ok (.ishl, 1) := by decide +kernel
theorem dX0_fillFewest_16 : decode cX0_fillFewest 16 = .ok (.if_icmp .ge 33, 3) := by decide +kernel
theorem dX0_fillFewest_19 : decode cX0_fillFewest 19 = .ok (.aload_n 0, 1) := by decide +kernel
theorem dX0_fillFewest_20 : decode cX0_fillFewest 20 = .ok (.getfield 29, 3) := by decide +kernel
theorem dX0_fillFewest_23 : decode cX0_fillFewest 23 = .ok (.iload_n 1, 1) := by decide +kernel
theorem dX0_fillFewest_24 : decode cX0_fillFewest 24 = .ok (.iload_n 1, 1) := by decide +kernel
theorem dX0_fillFewest_25 : decode cX0_fillFewest 25 = .ok (.invokestatic 74, 3) := by decide +kernel
theorem dX0_fillFewest_28 : decode cX0_fillFewest 28 = .ok (.iconst 1, 1) := by decide +kernel
theorem dX0_fillFewest_29 : decode cX0_fillFewest 29 = .ok (.if_icmp .ne 7, 3) := by decide +kernel
theorem dX0_fillFewest_32 : decode cX0_fillFewest 32 = .ok (.iconst 0, 1) := by decide +kernel
theorem dX0_fillFewest_33 : decode cX0_fillFewest 33 = .ok (.goto 8, 3) := by decide +kernel
theorem dX0_fillFewest_36 : decode cX0_fillFewest 36 = .ok (.aload_n 0, 1) := by decide +kernel
theorem dX0_fillFewest_37 : decode cX0_fillFewest 37 = .ok (.iload_n 1, 1) := by decide +kernel
theorem dX0_fillFewest_38 : decode cX0_fillFewest 38 = .ok (.invokevirtual 86, 3) := by decide +kernel
theorem dX0_fillFewest_41 : decode cX0_fillFewest 41 = .ok (.i2b, 1) := by decide +kernel
theorem dX0_fillFewest_42 : decode cX0_fillFewest 42 = .ok (.bastore, 1) := by decide +kernel
theorem dX0_fillFewest_43 : decode cX0_fillFewest 43 = .ok (.iinc 1 1, 3) := by decide +kernel
theorem dX0_fillFewest_46 : decode cX0_fillFewest 46 = .ok (.goto (-37), 3) := by decide +kernel
theorem dX0_fillFewest_49 : decode cX0_fillFewest 49 = .ok (.return_, 1) := by decide +kernel
theorem dX0_fewestFor_0 : decode cX0_fewestFor 0 = .ok (.iconst (-1), 1) := by decide +kernel
theorem dX0_fewestFor_1 : decode cX0_fewestFor 1 = .ok (.istore_n 2, 1) := by decide +kernel
theorem dX0_fewestFor_2 : decode cX0_fewestFor 2 = .ok (.iconst 0, 1) := by decide +kernel
theorem dX0_fewestFor_3 : decode cX0_fewestFor 3 = .ok (.istore_n 3, 1) := by decide +kernel
theorem dX0_fewestFor_4 : decode cX0_fewestFor 4 = .ok (.iload_n 3, 1) := by decide +kernel
theorem dX0_fewestFor_5 : decode cX0_fewestFor 5 = .ok (.aload_n 0, 1) := by decide +kernel
theorem dX0_fewestFor_6 : decode cX0_fewestFor 6 = .ok (.getfield 15, 3) := by decide +kernel
theorem dX0_fewestFor_9 : decode cX0_fewestFor 9 = .ok (.if_icmp .ge 98, 3) := by decide +kernel
theorem dX0_fewestFor_12 : decode cX0_fewestFor 12 = .ok (.iload_n 1, 1) := by decide +kernel
theorem dX0_fewestFor_13 : decode cX0_fewestFor 13 = .ok (.aload_n 0, 1) := by decide +kernel
theorem dX0_fewestFor_14 : decode cX0_fewestFor 14 = .ok (.getfield 25, 3) := by decide +kernel
theorem dX0_fewestFor_17 : decode cX0_fewestFor 17 = .ok (.iload_n 3, 1) := by decide +kernel
theorem dX0_fewestFor_18 : decode cX0_fewestFor 18 = .ok (.iaload, 1) := by decide +kernel
theorem dX0_fewestFor_19 : decode cX0_fewestFor 19 = .ok (.iand, 1) := by decide +kernel
theorem dX0_fewestFor_20 : decode cX0_fewestFor 20 = .ok (.istore 4, 2) := by decide +kernel
theorem dX0_fewestFor_22 : decode cX0_fewestFor 22 = .ok (.iload_n 1, 1) := by decide +kernel
theorem dX0_fewestFor_23 : decode cX0_fewestFor 23 = .ok (.aload_n 0, 1) := by decide +kernel
theorem dX0_fewestFor_24 : decode cX0_fewestFor 24 = .ok (.getfield 25, 3) := by decide +kernel
theorem dX0_fewestFor_27 : decode cX0_fewestFor 27 = .ok (.iload_n 3, 1) := by decide +kernel
theorem dX0_fewestFor_28 : decode cX0_fewestFor 28 = .ok (.iaload, 1) := by decide +kernel
theorem dX0_fewestFor_29 : decode cX0_fewestFor 29 = .ok (.iconst (-1), 1) := by decide +kernel
theorem dX0_fewestFor_30 : decode cX0_fewestFor 30 = .ok (.ixor, 1) := by decide +kernel
theorem dX0_fewestFor_31 : decode cX0_fewestFor 31 = .ok (.iand, 1) := by decide +kernel
theorem dX0_fewestFor_32 : decode cX0_fewestFor 32 = .ok (.istore 5, 2) := by decide +kernel
theorem dX0_fewestFor_34 : decode cX0_fewestFor 34 = .ok (.iload 4, 2) := by decide +kernel
theorem dX0_fewestFor_36 : decode cX0_fewestFor 36 = .ok (.ifCond .eq 65, 3) := by decide +kernel
theorem dX0_fewestFor_39 : decode cX0_fewestFor 39 = .ok (.iload 5, 2) := by decide +kernel
theorem dX0_fewestFor_41 : decode cX0_fewestFor 41 = .ok (.ifCond .eq 60, 3) := by decide +kernel
theorem dX0_fewestFor_44 : decode cX0_fewestFor 44 = .ok (.aload_n 0, 1) := by decide +kernel
theorem dX0_fewestFor_45 : decode cX0_fewestFor 45 = .ok (.getfield 29, 3) := by decide +kernel
theorem dX0_fewestFor_48 : decode cX0_fewestFor 48 = .ok (.iload 4, 2) := by decide +kernel
theorem dX0_fewestFor_50 : decode cX0_fewestFor 50 = .ok (.baload, 1) := by decide +kernel
theorem dX0_fewestFor_51 : decode cX0_fewestFor 51 = .ok (.iconst (-1), 1) := by decide +kernel
theorem dX0_fewestFor_52 : decode cX0_fewestFor 52 = .ok (.if_icmp .eq 49, 3) := by decide +kernel
theorem dX0_fewestFor_55 : decode cX0_fewestFor 55 = .ok (.aload_n 0, 1) := by decide +kernel
theorem dX0_fewestFor_56 : decode cX0_fewestFor 56 = .ok (.getfield 29, 3) := by decide +kernel
theorem dX0_fewestFor_59 : decode cX0_fewestFor 59 = .ok (.iload 5, 2) := by decide +kernel
theorem dX0_fewestFor_61 : decode cX0_fewestFor 61 = .ok (.baload, 1) := by decide +kernel
theorem dX0_fewestFor_62 : decode cX0_fewestFor 62 = .ok (.iconst (-1), 1) := by decide +kernel
theorem dX0_fewestFor_63 : decode cX0_fewestFor 63 = .ok (.if_icmp .eq 38, 3) := by decide +kernel
theorem dX0_fewestFor_66 : decode cX0_fewestFor 66 = .ok (.iconst 1, 1) := by decide +kernel
theorem dX0_fewestFor_67 : decode cX0_fewestFor 67 = .ok (.aload_n 0, 1) := by decide +kernel
theorem dX0_fewestFor_68 : decode cX0_fewestFor 68 = .ok (.getfield 29, 3) := by decide +kernel
theorem dX0_fewestFor_71 : decode cX0_fewestFor 71 = .ok (.iload 4, 2) := by decide +kernel
theorem dX0_fewestFor_73 : decode cX0_fewestFor 73 = .ok (.baload, 1) := by decide +kernel
theorem dX0_fewestFor_74 : decode cX0_fewestFor 74 = .ok (.aload_n 0, 1) := by decide +kernel
theorem dX0_fewestFor_75 : decode cX0_fewestFor 75 = .ok (.getfield 29, 3) := by decide +kernel
theorem dX0_fewestFor_78 : decode cX0_fewestFor 78 = .ok (.iload 5, 2) := by decide +kernel
theorem dX0_fewestFor_80 : decode cX0_fewestFor 80 = .ok (.baload, 1) := by decide +kernel
theorem dX0_fewestFor_81 : decode cX0_fewestFor 81 = .ok (.invokestatic 80, 3) := by decide +kernel
theorem dX0_fewestFor_84 : decode cX0_fewestFor 84 = .ok (.iadd, 1) := by decide +kernel
theorem dX0_fewestFor_85 : decode cX0_fewestFor 85 = .ok (.istore 6, 2) := by decide +kernel
theorem dX0_fewestFor_87 : decode cX0_fewestFor 87 = .ok (.iload_n 2, 1) := by decide +kernel
theorem dX0_fewestFor_88 : decode cX0_fewestFor 88 = .ok (.iconst (-1), 1) := by decide +kernel
theorem dX0_fewestFor_89 : decode cX0_fewestFor 89 = .ok (.if_icmp .eq 9, 3) := by decide +kernel
theorem dX0_fewestFor_92 : decode cX0_fewestFor 92 = .ok (.iload 6, 2) := by decide +kernel
theorem dX0_fewestFor_94 : decode cX0_fewestFor 94 = .ok (.iload_n 2, 1) := by decide +kernel
theorem dX0_fewestFor_95 : decode cX0_fewestFor 95 = .ok (.if_icmp .ge 6, 3) := by decide +kernel
theorem dX0_fewestFor_98 : decode cX0_fewestFor 98 = .ok (.iload 6, 2) := by decide +kernel
theorem dX0_fewestFor_100 : decode cX0_fewestFor 100 = .ok (.istore_n 2, 1) := by decide +kernel
theorem dX0_fewestFor_101 : decode cX0_fewestFor 101 = .ok (.iinc 3 1, 3) := by decide +kernel
theorem dX0_fewestFor_104 : decode cX0_fewestFor 104 = .ok (.goto (-100), 3) := by decide +kernel
theorem dX0_fewestFor_107 : decode cX0_fewestFor 107 = .ok (.iload_n 2, 1) := by decide +kernel
theorem dX0_fewestFor_108 : decode cX0_fewestFor 108 = .ok (.ireturn, 1) := by decide +kernel
theorem dX1_init_0 : decode cX1_init 0 = .ok (.aload_n 0, 1) := by decide +kernel
theorem dX1_init_1 : decode cX1_init 1 = .ok (.invokespecial 3, 3) := by decide +kernel
theorem dX1_init_4 : decode cX1_init 4 = .ok (.aload_n 0, 1) := by decide +kernel
theorem dX1_init_5 : decode cX1_init 5 = .ok (.iconst 4, 1) := by decide +kernel
theorem dX1_init_6 : decode cX1_init 6 = .ok (.newarray .long, 2) := by decide +kernel
theorem dX1_init_8 : decode cX1_init 8 = .ok (.putfield 11, 3) := by decide +kernel
theorem dX1_init_11 : decode cX1_init 11 = .ok (.aload_n 0, 1) := by decide +kernel
theorem dX1_init_12 : decode cX1_init 12 = .ok (.lconst 0, 1) := by decide +kernel
theorem dX1_init_13 : decode cX1_init 13 = .ok (.putfield 15, 3) := by decide +kernel
theorem dX1_init_16 : decode cX1_init 16 = .ok (.aload_n 0, 1) := by decide +kernel
theorem dX1_init_17 : decode cX1_init 17 = .ok (.iconst 0, 1) := by decide +kernel
theorem dX1_init_18 : decode cX1_init 18 = .ok (.putfield 19, 3) := by decide +kernel
theorem dX1_init_21 : decode cX1_init 21 = .ok (.aload_n 0, 1) := by decide +kernel
theorem dX1_init_22 : decode cX1_init 22 = .ok (.bipush 20, 2) := by decide +kernel
theorem dX1_init_24 : decode cX1_init 24 = .ok (.newarray .long, 2) := by decide +kernel
theorem dX1_init_26 : decode cX1_init 26 = .ok (.putfield 23, 3) := by decide +kernel
theorem dX1_init_29 : decode cX1_init 29 = .ok (.aload_n 0, 1) := by decide +kernel
theorem dX1_init_30 : decode cX1_init 30 = .ok (.iconst 5, 1) := by decide +kernel
theorem dX1_init_31 : decode cX1_init 31 = .ok (.newarray .int, 2) := by decide +kernel
theorem dX1_init_33 : decode cX1_init 33 = .ok (.putfield 26, 3) := by decide +kernel
theorem dX1_init_36 : decode cX1_init 36 = .ok (.return_, 1) := by decide +kernel
theorem dX1_solve_0 : decode cX1_solve 0 = .ok (.aload_n 0, 1) := by decide +kernel
theorem dX1_solve_1 : decode cX1_solve 1 = .ok (.iconst 0, 1) := by decide +kernel
theorem dX1_solve_2 : decode cX1_solve 2 = .ok (.iload_n 2, 1) := by decide +kernel
theorem dX1_solve_3 : decode cX1_solve 3 = .ok (.iconst 4, 1) := by decide +kernel
theorem dX1_solve_4 : decode cX1_solve 4 = .ok (.invokestatic 30, 3) := by decide +kernel
theorem dX1_solve_7 : decode cX1_solve 7 = .ok (.invokestatic 36, 3) := by decide +kernel
theorem dX1_solve_10 : decode cX1_solve 10 = .ok (.putfield 19, 3) := by decide +kernel
theorem dX1_solve_13 : decode cX1_solve 13 = .ok (.aload_n 0, 1) := by decide +kernel
theorem dX1_solve_14 : decode cX1_solve 14 = .ok (.aload_n 1, 1) := by decide +kernel
theorem dX1_solve_15 : decode cX1_solve 15 = .ok (.iload_n 3, 1) := by decide +kernel
theorem dX1_solve_16 : decode cX1_solve 16 = .ok (.invokevirtual 39, 3) := by decide +kernel
theorem dX1_solve_19 : decode cX1_solve 19 = .ok (.aload_n 0, 1) := by decide +kernel
theorem dX1_solve_20 : decode cX1_solve 20 = .ok (.aload_n 0, 1) := by decide +kernel
theorem dX1_solve_21 : decode cX1_solve 21 = .ok (.getfield 23, 3) := by decide +kernel
theorem dX1_solve_24 : decode cX1_solve 24 = .ok (.aload_n 0, 1) := by decide +kernel
theorem dX1_solve_25 : decode cX1_solve 25 = .ok (.getfield 19, 3) := by decide +kernel
theorem dX1_solve_28 : decode cX1_solve 28 = .ok (.iconst 0, 1) := by decide +kernel
theorem dX1_solve_29 : decode cX1_solve 29 = .ok (.iconst 0, 1) := by decide +kernel
theorem dX1_solve_30 : decode cX1_solve 30 = .ok (.iconst (-1), 1) := by decide +kernel
theorem dX1_solve_31 : decode cX1_solve 31 = .ok (.invokestatic 43, 3) := by decide +kernel
theorem dX1_solve_34 : decode cX1_solve 34 = .ok (.putfield 15, 3) := by decide +kernel
theorem dX1_solve_37 : decode cX1_solve 37 = .ok (.aload_n 0, 1) := by decide +kernel
theorem dX1_solve_38 : decode cX1_solve 38 = .ok (.getfield 15, 3) := by decide +kernel
theorem dX1_solve_41 : decode cX1_solve 41 = .ok (.lconst 0, 1) := by decide +kernel
theorem dX1_solve_42 : decode cX1_solve 42 = .ok (.lcmp, 1) := by decide +kernel
theorem dX1_solve_43 : decode cX1_solve 43 = .ok (.ifCond .gt 5, 3) := by decide +kernel
theorem dX1_solve_46 : decode cX1_solve 46 = .ok (.iconst 0, 1) := by decide +kernel
theorem dX1_solve_47 : decode cX1_solve 47 = .ok (.ireturn, 1) := by decide +kernel
theorem dX1_solve_48 : decode cX1_solve 48 = .ok (.iconst 0, 1) := by decide +kernel
theorem dX1_solve_49 : decode cX1_solve 49 = .ok (.istore 4, 2) := by decide +kernel
theorem dX1_solve_51 : decode cX1_solve 51 = .ok (.iload 4, 2) := by decide +kernel
theorem dX1_solve_53 : decode cX1_solve 53 = .ok (.aload_n 0, 1) := by decide +kernel
theorem dX1_solve_54 : decode cX1_solve 54 = .ok (.getfield 19, 3) := by decide +kernel
theorem dX1_solve_57 : decode cX1_solve 57 = .ok (.if_icmp .ge 31, 3) := by decide +kernel
theorem dX1_solve_60 : decode cX1_solve 60 = .ok (.aload_n 0, 1) := by decide +kernel
theorem dX1_solve_61 : decode cX1_solve 61 = .ok (.getfield 11, 3) := by decide +kernel
theorem dX1_solve_64 : decode cX1_solve 64 = .ok (.iload 4, 2) := by decide +kernel
theorem dX1_solve_66 : decode cX1_solve 66 = .ok (.aload_n 0, 1) := by decide +kernel
theorem dX1_solve_67 : decode cX1_solve 67 = .ok (.getfield 23, 3) := by decide +kernel
theorem dX1_solve_70 : decode cX1_solve 70 = .ok (.aload_n 0, 1) := by decide +kernel
theorem dX1_solve_71 : decode cX1_solve 71 = .ok (.getfield 19, 3) := by decide +kernel
theorem dX1_solve_74 : decode cX1_solve 74 = .ok (.iconst 0, 1) := by decide +kernel
theorem dX1_solve_75 : decode cX1_solve 75 = .ok (.iconst 0, 1) := by decide +kernel
theorem dX1_solve_76 : decode cX1_solve 76 = .ok (.iload 4, 2) := by decide +kernel
theorem dX1_solve_78 : decode cX1_solve 78 = .ok (.invokestatic 43, 3) := by decide +kernel
theorem dX1_solve_81 : decode cX1_solve 81 = .ok (.lastore, 1) := by decide +kernel
theorem dX1_solve_82 : decode cX1_solve 82 = .ok (.iinc 4 1, 3) := by decide +kernel
theorem dX1_solve_85 : decode cX1_solve 85 = .ok (.goto (-34), 3) := by decide +kernel
theorem dX1_solve_88 : decode cX1_solve 88 = .ok (.iconst 1, 1) := by decide +kernel
theorem dX1_solve_89 : decode cX1_solve 89 = .ok (.ireturn, 1) := by decide +kernel
theorem dX1_gather_0 : decode cX1_gather 0 = .ok (.iconst 0, 1) := by decide +kernel
theorem dX1_gather_1 : decode cX1_gather 1 = .ok (.istore_n 3, 1) := by decide +kernel
theorem dX1_gather_2 : decode cX1_gather 2 = .ok (.iload_n 3, 1) := by decide +kernel
theorem dX1_gather_3 : decode cX1_gather 3 = .ok (.aload_n 0, 1) := by decide +kernel
theorem dX1_gather_4 : decode cX1_gather 4 = .ok (.getfield 23, 3) := by decide +kernel
theorem dX1_gather_7 : decode cX1_gather 7 = .ok (.arraylength, 1) := by decide +kernel
theorem dX1_gather_8 : decode cX1_gather 8 = .ok (.if_icmp .ge 16, 3) := by decide +kernel
theorem dX1_gather_11 : decode cX1_gather 11 = .ok (.aload_n 0, 1) := by decide +kernel
theorem dX1_gather_12 : decode cX1_gather 12 = .ok (.getfield 23, 3) := by decide +kernel
theorem dX1_gather_15 : decode cX1_gather 15 = .ok (.iload_n 3, 1) := by decide +kernel
theorem dX1_gather_16 : decode cX1_gather 16 = .ok (.lconst 0, 1) := by decide +kernel
theorem dX1_gather_17 : decode cX1_gather 17 = .ok (.lastore, 1) := by decide +kernel
theorem dX1_gather_18 : decode cX1_gather 18 = .ok (.iinc 3 1, 3) := by decide +kernel
theorem dX1_gather_21 : decode cX1_gather 21 = .ok (.goto (-19), 3) := by decide +kernel
theorem dX1_gather_24 : decode cX1_gather 24 = .ok (.iconst 0, 1) := by decide +kernel
theorem dX1_gather_25 : decode cX1_gather 25 = .ok (.istore_n 3, 1) := by decide +kernel
theorem dX1_gather_26 : decode cX1_gather 26 = .ok (.iload_n 3, 1) := by decide +kernel
theorem dX1_gather_27 : decode cX1_gather 27 = .ok (.aload_n 1, 1) := by decide +kernel
theorem dX1_gather_28 : decode cX1_gather 28 = .ok (.getfield 47, 3) := by decide +kernel
theorem dX1_gather_31 : decode cX1_gather 31 = .ok (.if_icmp .ge 31, 3) := by decide +kernel
theorem dX1_gather_34 : decode cX1_gather 34 = .ok (.aload_n 1, 1) := by decide +kernel
theorem dX1_gather_35 : decode cX1_gather 35 = .ok (.iload_n 3, 1) := by decide +kernel
theorem dX1_gather_36 : decode cX1_gather 36 = .ok (.iload_n 2, 1) := by decide +kernel
theorem dX1_gather_37 : decode cX1_gather 37 = .ok (.invokevirtual 52, 3) := by decide +kernel
theorem dX1_gather_40 : decode cX1_gather 40 = .ok (.ifCond .eq 16, 3) := by decide +kernel
theorem dX1_gather_43 : decode cX1_gather 43 = .ok (.aload_n 1, 1) := by decide +kernel
theorem dX1_gather_44 : decode cX1_gather 44 = .ok (.iload_n 3, 1) := by decide +kernel
theorem dX1_gather_45 : decode cX1_gather 45 = .ok (.aload_n 0, 1) := by decide +kernel
theorem dX1_gather_46 : decode cX1_gather 46 = .ok (.getfield 26, 3) := by decide +kernel
theorem dX1_gather_49 : decode cX1_gather 49 = .ok (.invokevirtual 56, 3) := by decide +kernel
theorem dX1_gather_52 : decode cX1_gather 52 = .ok (.aload_n 0, 1) := by decide +kernel
theorem dX1_gather_53 : decode cX1_gather 53 = .ok (.invokevirtual 60, 3) := by decide +kernel
theorem dX1_gather_56 : decode cX1_gather 56 = .ok (.iinc 3 1, 3) := by decide +kernel
theorem dX1_gather_59 : decode cX1_gather 59 = .ok (.goto (-33), 3) := by decide +kernel
theorem dX1_gather_62 : decode cX1_gather 62 = .ok (.return_, 1) := by decide +kernel
theorem dX1_addRow_0 : decode cX1_addRow 0 = .ok (.iconst 0, 1) := by decide +kernel
theorem dX1_addRow_1 : decode cX1_addRow 1 = .ok (.istore_n 1, 1) := by decide +kernel
theorem dX1_addRow_2 : decode cX1_addRow 2 = .ok (.iload_n 1, 1) := by decide +kernel
theorem dX1_addRow_3 : decode cX1_addRow 3 = .ok (.aload_n 0, 1) := by decide +kernel
theorem dX1_addRow_4 : decode cX1_addRow 4 = .ok (.getfield 19, 3) := by decide +kernel
theorem dX1_addRow_7 : decode cX1_addRow 7 = .ok (.if_icmp .ge 50, 3) := by decide +kernel
theorem dX1_addRow_10 : decode cX1_addRow 10 = .ok (.iconst 0, 1) := by decide +kernel
theorem dX1_addRow_11 : decode cX1_addRow 11 = .ok (.istore_n 2, 1) := by decide +kernel
theorem dX1_addRow_12 : decode cX1_addRow 12 = .ok (.iload_n 2, 1) := by decide +kernel
theorem dX1_addRow_13 : decode cX1_addRow 13 = .ok (.iconst 5, 1) := by decide +kernel
theorem dX1_addRow_14 : decode cX1_addRow 14 = .ok (.if_icmp .ge 37, 3) := by decide +kernel
theorem dX1_addRow_17 : decode cX1_addRow 17 = .ok (.aload_n 0, 1) := by decide +kernel
theorem dX1_addRow_18 : decode cX1_addRow 18 = .ok (.getfield 23, 3) := by decide +kernel
theorem dX1_addRow_21 : decode cX1_addRow 21 = .ok (.iload_n 1, 1) := by decide +kernel
theorem dX1_addRow_22 : decode cX1_addRow 22 = .ok (.iconst 5, 1) := by decide +kernel
theorem dX1_addRow_23 : decode cX1_addRow 23 = .ok (.imul, 1) := by decide +kernel
theorem dX1_addRow_24 : decode cX1_addRow 24 = .ok (.iload_n 2, 1) := by decide +kernel
theorem dX1_addRow_25 : decode cX1_addRow 25 = .ok (.iadd, 1) := by decide +kernel
theorem dX1_addRow_26 : decode cX1_addRow 26 = .ok (.dup2, 1) := by decide +kernel
theorem dX1_addRow_27 : decode cX1_addRow 27 = .ok (.laload, 1) := by decide +kernel
theorem dX1_addRow_28 : decode cX1_addRow 28 = .ok (.aload_n 0, 1) := by decide +kernel
theorem dX1_addRow_29 : decode cX1_addRow 29 = .ok (.getfield 26, 3) := by decide +kernel
theorem dX1_addRow_32 : decode cX1_addRow 32 = .ok (.iload_n 1, 1) := by decide +kernel
theorem dX1_addRow_33 : decode cX1_addRow 33 = .ok (.iaload, 1) := by decide +kernel
theorem dX1_addRow_34 : decode cX1_addRow 34 = .ok (.i2l, 1) := by decide +kernel
theorem dX1_addRow_35 : decode cX1_addRow 35 = .ok (.aload_n 0, 1) := by decide +kernel
theorem dX1_addRow_36 : decode cX1_addRow 36 = .ok (.getfield 26, 3) := by decide +kernel
theorem dX1_addRow_39 : decode cX1_addRow 39 = .ok (.iload_n 2, 1) := by decide +kernel
theorem dX1_addRow_40 : decode cX1_addRow 40 = .ok (.iaload, 1) := by decide +kernel
theorem dX1_addRow_41 : decode cX1_addRow 41 = .ok (.i2l, 1) := by decide +kernel
theorem dX1_addRow_42 : decode cX1_addRow 42 = .ok (.lmul, 1) := by decide +kernel
theorem dX1_addRow_43 : decode cX1_addRow 43 = .ok (.ladd, 1) := by decide +kernel
theorem dX1_addRow_44 : decode cX1_addRow 44 = .ok (.lastore, 1) := by decide +kernel
theorem dX1_addRow_45 : decode cX1_addRow 45 = .ok (.iinc 2 1, 3) := by decide +kernel
theorem dX1_addRow_48 : decode cX1_addRow 48 = .ok (.goto (-36), 3) := by decide +kernel
theorem dX1_addRow_51 : decode cX1_addRow 51 = .ok (.iinc 1 1, 3) := by decide +kernel
theorem dX1_addRow_54 : decode cX1_addRow 54 = .ok (.goto (-52), 3) := by decide +kernel
theorem dX1_addRow_57 : decode cX1_addRow 57 = .ok (.return_, 1) := by decide +kernel
theorem dX1_determinant_0 : decode cX1_determinant 0 = .ok (.iload_n 2, 1) := by decide +kernel
theorem dX1_determinant_1 : decode cX1_determinant 1 = .ok (.iload_n 1, 1) := by decide +kernel
theorem dX1_determinant_2 : decode cX1_determinant 2 = .ok (.if_icmp .lt 5, 3) := by decide +kernel
theorem dX1_determinant_5 : decode cX1_determinant 5 = .ok (.lconst 1, 1) := by decide +kernel
theorem dX1_determinant_6 : decode cX1_determinant 6 = .ok (.lreturn, 1) := by decide +kernel
theorem dX1_determinant_7 : decode cX1_determinant 7 = .ok (.lconst 0, 1) := by decide +kernel
theorem dX1_determinant_8 : decode cX1_determinant 8 = .ok (.lstore 5, 2) := by decide +kernel
theorem dX1_determinant_10 : decode cX1_determinant 10 = .ok (.lconst 1, 1) := by decide +kernel
theorem dX1_determinant_11 : decode cX1_determinant 11 = .ok (.lstore 7, 2) := by decide +kernel
theorem dX1_determinant_13 : decode cX1_determinant 13 = .ok (.iconst 0, 1) := by decide +kernel
theorem dX1_determinant_14 : decode cX1_determinant 14 = .ok (.istore 9, 2) := by decide +kernel
theorem dX1_determinant_16 : decode cX1_determinant 16 = .ok (.iload 9, 2) := by decide +kernel
theorem dX1_determinant_18 : decode cX1_determinant 18 = .ok (.iload_n 1, 1) := by decide +kernel
theorem dX1_determinant_19 : decode cX1_determinant 19 = .ok (.if_icmp .ge 78, 3) := by decide +kernel
theorem dX1_determinant_22 : decode cX1_determinant 22 = .ok (.iload_n 3, 1) := by decide +kernel
theorem dX1_determinant_23 : decode cX1_determinant 23 = .ok (.iload 9, 2) := by decide +kernel
theorem dX1_determinant_25 : decode cX1_determinant 25 = .ok (.ishr, 1) := by decide +kernel
theorem dX1_determinant_26 : decode cX1_determinant 26 = .ok (.iconst 1, 1) := by decide +kernel
theorem dX1_determinant_27 : decode cX1_determinant 27 = .ok (.iand, 1) := by decide +kernel
theorem dX1_determinant_28 : decode cX1_determinant 28 = .ok (.ifCond .ne 63, 3) := by decide +kernel
theorem dX1_determinant_31 : decode cX1_determinant 31 = .ok (.aload_n 0, 1) := by decide +kernel
theorem dX1_determinant_32 : decode cX1_determinant 32 = .ok (.iload_n 2, 1) := by decide +kernel
theorem dX1_determinant_33 : decode cX1_determinant 33 = .ok (.iconst 5, 1) := by decide +kernel
theorem dX1_determinant_34 : decode cX1_determinant 34 = .ok (.imul, 1) := by decide +kernel
theorem dX1_determinant_35 : decode cX1_determinant 35 = .ok (.iload 9, 2) := by decide +kernel
theorem dX1_determinant_37 : decode cX1_determinant 37 = .ok (.iload 4, 2) := by decide +kernel
theorem dX1_determinant_39 : decode cX1_determinant 39 = .ok (.if_icmp .ne 7, 3) := by decide +kernel
theorem dX1_determinant_42 : decode cX1_determinant 42 = .ok (.iconst 4, 1) := by decide +kernel
theorem dX1_determinant_43 : decode cX1_determinant 43 = .ok (.goto 5, 3) := by decide +kernel
theorem dX1_determinant_46 : decode cX1_determinant 46 = .ok (.iload 9, 2) := by decide +kernel
theorem dX1_determinant_48 : decode cX1_determinant 48 = .ok (.iadd, 1) := by decide +kernel
theorem dX1_determinant_49 : decode cX1_determinant 49 = .ok (.laload, 1) := by decide +kernel
theorem dX1_determinant_50 : decode cX1_determinant 50 = .ok (.lstore 10, 2) := by decide +kernel
theorem dX1_determinant_52 : decode cX1_determinant 52 = .ok (.lload 10, 2) := by decide +kernel
theorem dX1_determinant_54 : decode cX1_determinant 54 = .ok (.lconst 0, 1) := by decide +kernel
theorem dX1_determinant_55 : decode cX1_determinant 55 = .ok (.lcmp, 1) := by decide +kernel
theorem dX1_determinant_56 : decode cX1_determinant 56 = .ok (.ifCond .eq 30, 3) := by decide +kernel
theorem dX1_determinant_59 : decode cX1_determinant 59 = .ok (.lload 5, 2) := by decide +kernel
theorem dX1_determinant_61 : decode cX1_determinant 61 = .ok (.lload 7, 2) := by decide +kernel
theorem dX1_determinant_63 : decode cX1_determinant 63 = .ok (.lload 10, 2) := by decide +kernel
theorem dX1_determinant_65 : decode cX1_determinant 65 = .ok (.lmul, 1) := by decide +kernel
theorem dX1_determinant_66 : decode cX1_determinant 66 = .ok (.aload_n 0, 1) := by decide +kernel
theorem dX1_determinant_67 : decode cX1_determinant 67 = .ok (.iload_n 1, 1) := by decide +kernel
theorem dX1_determinant_68 : decode cX1_determinant 68 = .ok (.iload_n 2, 1) := by decide +kernel
theorem dX1_determinant_69 : decode cX1_determinant 69 = .ok (.iconst 1, 1) := by decide +kernel
theorem dX1_determinant_70 : decode cX1_determinant 70 = .ok (.iadd, 1) := by decide +kernel
theorem dX1_determinant_71 : decode cX1_determinant 71 = .ok (.iload_n 3, 1) := by decide +kernel
theorem dX1_determinant_72 : decode cX1_determinant 72 = .ok (.iconst 1, 1) := by decide +kernel
theorem dX1_determinant_73 : decode cX1_determinant 73 = .ok (.iload 9, 2) := by decide +kernel
theorem dX1_determinant_75 : decode cX1_determinant 75 = .ok (.ishl, 1) := by decide +kernel
theorem dX1_determinant_76 : decode cX1_determinant 76 = .ok (.ior, 1) := by decide +kernel
theorem dX1_determinant_77 : decode cX1_determinant 77 = .ok (.iload 4, 2) := by decide +kernel
theorem dX1_determinant_79 : decode cX1_determinant 79 = .ok (.invokestatic 43, 3) := by decide +kernel
theorem dX1_determinant_82 : decode cX1_determinant 82 = .ok (.lmul, 1) := by decide +kernel
theorem dX1_determinant_83 : decode cX1_determinant 83 = .ok (.ladd, 1) := by decide +kernel
theorem dX1_determinant_84 : decode cX1_determinant 84 = .ok (.lstore 5, 2) := by decide +kernel
theorem dX1_determinant_86 : decode cX1_determinant 86 = .ok (.lload 7, 2) := by decide +kernel
theorem dX1_determinant_88 : decode cX1_determinant 88 = .ok (.lneg, 1) := by decide +kernel
theorem dX1_determinant_89 : decode cX1_determinant 89 = .ok (.lstore 7, 2) := by decide +kernel
theorem dX1_determinant_91 : decode cX1_determinant 91 = .ok (.iinc 9 1, 3) := by decide +kernel
theorem dX1_determinant_94 : decode cX1_determinant 94 = .ok (.goto (-78), 3) := by decide +kernel
theorem dX1_determinant_97 : decode cX1_determinant 97 = .ok (.lload 5, 2) := by decide +kernel
theorem dX1_determinant_99 : decode cX1_determinant 99 = .ok (.lreturn, 1) := by decide +kernel
theorem dX1_mostOff_0 : decode cX1_mostOff 0 = .ok (.lconst 0, 1) := by decide +kernel
theorem dX1_mostOff_1 : decode cX1_mostOff 1 = .ok (.lstore_n 3, 1) := by decide +kernel
theorem dX1_mostOff_2 : decode cX1_mostOff 2 = .ok (.iconst 0, 1) := by decide +kernel
theorem dX1_mostOff_3 : decode cX1_mostOff 3 = .ok (.istore 5, 2) := by decide +kernel
theorem dX1_mostOff_5 : decode cX1_mostOff 5 = .ok (.iload 5, 2) := by decide +kernel
theorem dX1_mostOff_7 : decode cX1_mostOff 7 = .ok (.aload_n 1, 1) := by decide +kernel
theorem dX1_mostOff_8 : decode cX1_mostOff 8 = .ok (.getfield 47, 3) := by decide +kernel
theorem dX1_mostOff_11 : decode cX1_mostOff 11 = .ok (.if_icmp .ge 92, 3) := by decide +kernel
theorem dX1_mostOff_14 : decode cX1_mostOff 14 = .ok (.aload_n 1, 1) := by decide +kernel
theorem dX1_mostOff_15 : decode cX1_mostOff 15 = .ok (.iload 5, 2) := by decide +kernel
theorem dX1_mostOff_17 : decode cX1_mostOff 17 = .ok (.iload_n 2, 1) := by decide +kernel
theorem dX1_mostOff_18 : decode cX1_mostOff 18 = .ok (.invokevirtual 52, 3) := by decide +kernel
theorem dX1_mostOff_21 : decode cX1_mostOff 21 = .ok (.ifCond .eq 76, 3) := by decide +kernel
theorem dX1_mostOff_24 : decode cX1_mostOff 24 = .ok (.aload_n 1, 1) := by decide +kernel
theorem dX1_mostOff_25 : decode cX1_mostOff 25 = .ok (.iload 5, 2) := by decide +kernel
theorem dX1_mostOff_27 : decode cX1_mostOff 27 = .ok (.aload_n 0, 1) := by decide +kernel
theorem dX1_mostOff_28 : decode cX1_mostOff 28 = .ok (.getfield 26, 3) := by decide +kernel
theorem dX1_mostOff_31 : decode cX1_mostOff 31 = .ok (.invokevirtual 56, 3) := by decide +kernel
theorem dX1_mostOff_34 : decode cX1_mostOff 34 = .ok (.aload_n 0, 1) := by decide +kernel
theorem dX1_mostOff_35 : decode cX1_mostOff 35 = .ok (.getfield 26, 3) := by decide +kernel
theorem dX1_mostOff_38 : decode cX1_mostOff 38 = .ok (.iconst 4, 1) := by decide +kernel
theorem dX1_mostOff_39 : decode cX1_mostOff 39 = .ok (.iaload, 1) := by decide +kernel
theorem dX1_mostOff_40 : decode cX1_mostOff 40 = .ok (.i2l, 1) := by decide +kernel
theorem dX1_mostOff_41 : decode cX1_mostOff 41 = .ok (.aload_n 0, 1) := by decide +kernel
theorem dX1_mostOff_42 : decode cX1_mostOff 42 = .ok (.getfield 15, 3) := by decide +kernel
theorem dX1_mostOff_45 : decode cX1_mostOff 45 = .ok (.lmul, 1) := by decide +kernel
theorem dX1_mostOff_46 : decode cX1_mostOff 46 = .ok (.lstore 6, 2) := by decide +kernel
theorem dX1_mostOff_48 : decode cX1_mostOff 48 = .ok (.iconst 0, 1) := by decide +kernel
theorem dX1_mostOff_49 : decode cX1_mostOff 49 = .ok (.istore 8, 2) := by decide +kernel
theorem dX1_mostOff_51 : decode cX1_mostOff 51 = .ok (.iload 8, 2) := by decide +kernel
theorem dX1_mostOff_53 : decode cX1_mostOff 53 = .ok (.aload_n 0, 1) := by decide +kernel
theorem dX1_mostOff_54 : decode cX1_mostOff 54 = .ok (.getfield 19, 3) := by decide +kernel
theorem dX1_mostOff_57 : decode cX1_mostOff 57 = .ok (.if_icmp .ge 30, 3) := by decide +kernel
theorem dX1_mostOff_60 : decode cX1_mostOff 60 = .ok (.lload 6, 2) := by decide +kernel
theorem dX1_mostOff_62 : decode cX1_mostOff 62 = .ok (.aload_n 0, 1) := by decide +kernel
theorem dX1_mostOff_63 : decode cX1_mostOff 63 = .ok (.getfield 26, 3) := by decide +kernel
theorem dX1_mostOff_66 : decode cX1_mostOff 66 = .ok (.iload 8, 2) := by decide +kernel
theorem dX1_mostOff_68 : decode cX1_mostOff 68 = .ok (.iaload, 1) := by decide +kernel
theorem dX1_mostOff_69 : decode cX1_mostOff 69 = .ok (.i2l, 1) := by decide +kernel
theorem dX1_mostOff_70 : decode cX1_mostOff 70 = .ok (.aload_n 0, 1) := by decide +kernel
theorem dX1_mostOff_71 : decode cX1_mostOff 71 = .ok (.getfield 11, 3) := by decide +kernel
theorem dX1_mostOff_74 : decode cX1_mostOff 74 = .ok (.iload 8, 2) := by decide +kernel
theorem dX1_mostOff_76 : decode cX1_mostOff 76 = .ok (.laload, 1) := by decide +kernel
theorem dX1_mostOff_77 : decode cX1_mostOff 77 = .ok (.lmul, 1) := by decide +kernel
theorem dX1_mostOff_78 : decode cX1_mostOff 78 = .ok (.lsub, 1) := by decide +kernel
theorem dX1_mostOff_79 : decode cX1_mostOff 79 = .ok (.lstore 6, 2) := by decide +kernel
theorem dX1_mostOff_81 : decode cX1_mostOff 81 = .ok (.iinc 8 1, 3) := by decide +kernel
theorem dX1_mostOff_84 : decode cX1_mostOff 84 = .ok (.goto (-33), 3) := by decide +kernel
theorem dX1_mostOff_87 : decode cX1_mostOff 87 = .ok (.lload_n 3, 1) := by decide +kernel
theorem dX1_mostOff_88 : decode cX1_mostOff 88 = .ok (.lload 6, 2) := by decide +kernel
theorem dX1_mostOff_90 : decode cX1_mostOff 90 = .ok (.invokestatic 63, 3) := by decide +kernel
theorem dX1_mostOff_93 : decode cX1_mostOff 93 = .ok (.invokestatic 67, 3) := by decide +kernel
theorem dX1_mostOff_96 : decode cX1_mostOff 96 = .ok (.lstore_n 3, 1) := by decide +kernel
theorem dX1_mostOff_97 : decode cX1_mostOff 97 = .ok (.iinc 5 1, 3) := by decide +kernel
theorem dX1_mostOff_100 : decode cX1_mostOff 100 = .ok (.goto (-95), 3) := by decide +kernel
theorem dX1_mostOff_103 : decode cX1_mostOff 103 = .ok (.lload_n 3, 1) := by decide +kernel
theorem dX1_mostOff_104 : decode cX1_mostOff 104 = .ok (.lreturn, 1) := by decide +kernel
theorem dX2_init_0 : decode cX2_init 0 = .ok (.aload_n 0, 1) := by decide +kernel
theorem dX2_init_1 : decode cX2_init 1 = .ok (.invokespecial 3, 3) := by decide +kernel
theorem dX2_init_4 : decode cX2_init 4 = .ok (.aload_n 0, 1) := by decide +kernel
theorem dX2_init_5 : decode cX2_init 5 = .ok (.iconst 0, 1) := by decide +kernel
theorem dX2_init_6 : decode cX2_init 6 = .ok (.putfield 9, 3) := by decide +kernel
theorem dX2_init_9 : decode cX2_init 9 = .ok (.aload_n 0, 1) := by decide +kernel
theorem dX2_init_10 : decode cX2_init 10 = .ok (.bipush 12, 2) := by decide +kernel
theorem dX2_init_12 : decode cX2_init 12 = .ok (.newarray .long, 2) := by decide +kernel
theorem dX2_init_14 : decode cX2_init 14 = .ok (.putfield 15, 3) := by decide +kernel
theorem dX2_init_17 : decode cX2_init 17 = .ok (.aload_n 0, 1) := by decide +kernel
theorem dX2_init_18 : decode cX2_init 18 = .ok (.bipush 12, 2) := by decide +kernel
theorem dX2_init_20 : decode cX2_init 20 = .ok (.newarray .long, 2) := by decide +kernel
theorem dX2_init_22 : decode cX2_init 22 = .ok (.putfield 19, 3) := by decide +kernel
theorem dX2_init_25 : decode cX2_init 25 = .ok (.aload_n 0, 1) := by decide +kernel
theorem dX2_init_26 : decode cX2_init 26 = .ok (.bipush 12, 2) := by decide +kernel
theorem dX2_init_28 : decode cX2_init 28 = .ok (.newarray .long, 2) := by decide +kernel
theorem dX2_init_30 : decode cX2_init 30 = .ok (.putfield 22, 3) := by decide +kernel
theorem dX2_init_33 : decode cX2_init 33 = .ok (.aload_n 0, 1) := by decide +kernel
theorem dX2_init_34 : decode cX2_init 34 = .ok (.bipush 12, 2) := by decide +kernel
theorem dX2_init_36 : decode cX2_init 36 = .ok (.newarray .int, 2) := by decide +kernel
theorem dX2_init_38 : decode cX2_init 38 = .ok (.putfield 25, 3) := by decide +kernel
theorem dX2_init_41 : decode cX2_init 41 = .ok (.aload_n 0, 1) := by decide +kernel
theorem dX2_init_42 : decode cX2_init 42 = .ok (.bipush 12, 2) := by decide +kernel
theorem dX2_init_44 : decode cX2_init 44 = .ok (.newarray .int, 2) := by decide +kernel
theorem dX2_init_46 : decode cX2_init 46 = .ok (.putfield 29, 3) := by decide +kernel
theorem dX2_init_49 : decode cX2_init 49 = .ok (.aload_n 0, 1) := by decide +kernel
theorem dX2_init_50 : decode cX2_init 50 = .ok (.bipush 12, 2) := by decide +kernel
theorem dX2_init_52 : decode cX2_init 52 = .ok (.newarray .int, 2) := by decide +kernel
theorem dX2_init_54 : decode cX2_init 54 = .ok (.putfield 32, 3) := by decide +kernel
theorem dX2_init_57 : decode cX2_init 57 = .ok (.return_, 1) := by decide +kernel
theorem dX2_read_0 : decode cX2_read 0 = .ok (.aload_n 0, 1) := by decide +kernel
theorem dX2_read_1 : decode cX2_read 1 = .ok (.iconst 0, 1) := by decide +kernel
theorem dX2_read_2 : decode cX2_read 2 = .ok (.putfield 9, 3) := by decide +kernel
theorem dX2_read_5 : decode cX2_read 5 = .ok (.iconst 0, 1) := by decide +kernel
theorem dX2_read_6 : decode cX2_read 6 = .ok (.istore_n 2, 1) := by decide +kernel
theorem dX2_read_7 : decode cX2_read 7 = .ok (.iload_n 2, 1) := by decide +kernel
theorem dX2_read_8 : decode cX2_read 8 = .ok (.bipush 12, 2) := by decide +kernel
theorem dX2_read_10 : decode cX2_read 10 = .ok (.if_icmp .gt 38, 3) := by decide +kernel
theorem dX2_read_13 : decode cX2_read 13 = .ok (.aload_n 1, 1) := by decide +kernel
theorem dX2_read_14 : decode cX2_read 14 = .ok (.getfield 35, 3) := by decide +kernel
theorem dX2_read_17 : decode cX2_read 17 = .ok (.ifCond .ne 5, 3) := by decide +kernel
theorem dX2_read_20 : decode cX2_read 20 = .ok (.iconst 1, 1) := by decide +kernel
theorem dX2_read_21 : decode cX2_read 21 = .ok (.ireturn, 1) := by decide +kernel
theorem dX2_read_22 : decode cX2_read 22 = .ok (.aload_n 0, 1) := by decide +kernel
theorem dX2_read_23 : decode cX2_read 23 = .ok (.aload_n 1, 1) := by decide +kernel
theorem dX2_read_24 : decode cX2_read 24 = .ok (.invokevirtual 40, 3) := by decide +kernel
theorem dX2_read_27 : decode cX2_read 27 = .ok (.ifCond .ne 5, 3) := by decide +kernel
theorem dX2_read_30 : decode cX2_read 30 = .ok (.iconst 0, 1) := by decide +kernel
theorem dX2_read_31 : decode cX2_read 31 = .ok (.ireturn, 1) := by decide +kernel
theorem dX2_read_32 : decode cX2_read 32 = .ok (.aload_n 0, 1) := by decide +kernel
theorem dX2_read_33 : decode cX2_read 33 = .ok (.dup, 1) := by decide +kernel
theorem dX2_read_34 : decode cX2_read 34 = .ok (.getfield 9, 3) := by decide +kernel
theorem dX2_read_37 : decode cX2_read 37 = .ok (.iconst 1, 1) := by decide +kernel
theorem dX2_read_38 : decode cX2_read 38 = .ok (.iadd, 1) := by decide +kernel
theorem dX2_read_39 : decode cX2_read 39 = .ok (.putfield 9, 3) := by decide +kernel
theorem dX2_read_42 : decode cX2_read 42 = .ok (.iinc 2 1, 3) := by decide +kernel
theorem dX2_read_45 : decode cX2_read 45 = .ok (.goto (-38), 3) := by decide +kernel
theorem dX2_read_48 : decode cX2_read 48 = .ok (.iconst 0, 1) := by decide +kernel
theorem dX2_read_49 : decode cX2_read 49 = .ok (.ireturn, 1) := by decide +kernel
theorem dX2_readHouse_0 : decode cX2_readHouse 0 = .ok (.aload_n 0, 1) := by decide +kernel
theorem dX2_readHouse_1 : decode cX2_readHouse 1 = .ok (.getfield 9, 3) := by decide +kernel
theorem dX2_readHouse_4 : decode cX2_readHouse 4 = .ok (.bipush 12, 2) := by decide +kernel
theorem dX2_readHouse_6 : decode cX2_readHouse 6 = .ok (.if_icmp .lt 9, 3) := by decide +kernel
theorem dX2_readHouse_9 : decode cX2_readHouse 9 = .ok (.aload_n 1, 1) := by decide +kernel
theorem dX2_readHouse_10 : decode cX2_readHouse 10 = .ok (.iconst 2, 1) := by decide +kernel
theorem dX2_readHouse_11 : decode cX2_readHouse 11 = .ok (.invokevirtual 44, 3) := by decide +kernel
theorem dX2_readHouse_14 : decode cX2_readHouse 14 = .ok (.ireturn, 1) := by decide +kernel
theorem dX2_readHouse_15 : decode cX2_readHouse 15 = .ok (.aload_n 1, 1) := by decide +kernel
theorem dX2_readHouse_16 : decode cX2_readHouse 16 = .ok (.sipush 270, 3) := by decide +kernel
theorem dX2_readHouse_19 : decode cX2_readHouse 19 = .ok (.invokevirtual 48, 3) := by decide +kernel
theorem dX2_readHouse_22 : decode cX2_readHouse 22 = .ok (.ifCond .eq 18, 3) := by decide +kernel
theorem dX2_readHouse_25 : decode cX2_readHouse 25 = .ok (.aload_n 1, 1) := by decide +kernel
theorem dX2_readHouse_26 : decode cX2_readHouse 26 = .ok (.aload_n 0, 1) := by decide +kernel
theorem dX2_readHouse_27 : decode cX2_readHouse 27 = .ok (.getfield 15, 3) := by decide +kernel
theorem dX2_readHouse_30 : decode cX2_readHouse 30 = .ok (.aload_n 0, 1) := by decide +kernel
theorem dX2_readHouse_31 : decode cX2_readHouse 31 = .ok (.getfield 9, 3) := by decide +kernel
theorem dX2_readHouse_34 : decode cX2_readHouse 34 = .ok (.invokevirtual 51, 3) := by decide +kernel
theorem dX2_readHouse_37 : decode cX2_readHouse 37 = .ok (.ifCond .ne 5, 3) := by decide +kernel
theorem dX2_readHouse_40 : decode cX2_readHouse 40 = .ok (.iconst 0, 1) := by decide +kernel
theorem dX2_readHouse_41 : decode cX2_readHouse 41 = .ok (.ireturn, 1) := by decide +kernel
theorem dX2_readHouse_42 : decode cX2_readHouse 42 = .ok (.aload_n 1, 1) := by decide +kernel
theorem dX2_readHouse_43 : decode cX2_readHouse 43 = .ok (.sipush 271, 3) := by decide +kernel
theorem dX2_readHouse_46 : decode cX2_readHouse 46 = .ok (.invokevirtual 48, 3) := by decide +kernel
theorem dX2_readHouse_49 : decode cX2_readHouse 49 = .ok (.ifCond .eq 14, 3) := by decide +kernel
theorem dX2_readHouse_52 : decode cX2_readHouse 52 = .ok (.aload_n 1, 1) := by decide +kernel
theorem dX2_readHouse_53 : decode cX2_readHouse 53 = .ok (.iconst 0, 1) := by decide +kernel
theorem dX2_readHouse_54 : decode cX2_readHouse 54 = .ok (.sipush 9999, 3) := by decide +kernel
theorem dX2_readHouse_57 : decode cX2_readHouse 57 = .ok (.invokevirtual 55, 3) := by decide +kernel
theorem dX2_readHouse_60 : decode cX2_readHouse 60 = .ok (.ifCond .ne 5, 3) := by decide +kernel
theorem dX2_readHouse_63 : decode cX2_readHouse 63 = .ok (.iconst 0, 1) := by decide +kernel
theorem dX2_readHouse_64 : decode cX2_readHouse 64 = .ok (.ireturn, 1) := by decide +kernel
theorem dX2_readHouse_65 : decode cX2_readHouse 65 = .ok (.aload_n 1, 1) := by decide +kernel
theorem dX2_readHouse_66 : decode cX2_readHouse 66 = .ok (.getfield 59, 3) := by decide +kernel
theorem dX2_readHouse_69 : decode cX2_readHouse 69 = .ok (.istore_n 2, 1) := by decide +kernel
theorem dX2_readHouse_70 : decode cX2_readHouse 70 = .ok (.aload_n 1, 1) := by decide +kernel
theorem dX2_readHouse_71 : decode cX2_readHouse 71 = .ok (.sipush 272, 3) := by decide +kernel
theorem dX2_readHouse_74 : decode cX2_readHouse 74 = .ok (.invokevirtual 48, 3) := by decide +kernel
theorem dX2_readHouse_77 : decode cX2_readHouse 77 = .ok (.ifCond .eq 14, 3) := by decide +kernel
theorem dX2_readHouse_80 : decode cX2_readHouse 80 = .ok (.aload_n 1, 1) := by decide +kernel
theorem dX2_readHouse_81 : decode cX2_readHouse 81 = .ok (.iconst 0, 1) := by decide +kernel
theorem dX2_readHouse_82 : decode cX2_readHouse 82 = .ok (.sipush 999, 3) := by decide +kernel
theorem dX2_readHouse_85 : decode cX2_readHouse 85 = .ok (.invokevirtual 55, 3) := by decide +kernel
theorem dX2_readHouse_88 : decode cX2_readHouse 88 = .ok (.ifCond .ne 5, 3) := by decide +kernel
theorem dX2_readHouse_91 : decode cX2_readHouse 91 = .ok (.iconst 0, 1) := by decide +kernel
theorem dX2_readHouse_92 : decode cX2_readHouse 92 = .ok (.ireturn, 1) := by decide +kernel
theorem dX2_readHouse_93 : decode cX2_readHouse 93 = .ok (.aload_n 0, 1) := by decide +kernel
theorem dX2_readHouse_94 : decode cX2_readHouse 94 = .ok (.getfield 25, 3) := by decide +kernel
theorem dX2_readHouse_97 : decode cX2_readHouse 97 = .ok (.aload_n 0, 1) := by decide +kernel
theorem dX2_readHouse_98 : decode cX2_readHouse 98 = .ok (.getfield 9, 3) := by decide +kernel
theorem dX2_readHouse_101 : decode cX2_readHouse 101 = .ok (.iload_n 2, 1) := by decide +kernel
theorem dX2_readHouse_102 : decode cX2_readHouse 102 = .ok (.aload_n 1, 1) := by decide +kernel
theorem dX2_readHouse_103 : decode cX2_readHouse 103 = .ok (.getfield 59, 3) := by decide +kernel
theorem dX2_readHouse_106 : decode cX2_readHouse 106 = .ok (.isub, 1) := by decide +kernel
theorem dX2_readHouse_107 : decode cX2_readHouse 107 = .ok (.iastore, 1) := by decide +kernel
theorem dX2_readHouse_108 : decode cX2_readHouse 108 = .ok (.aload_n 0, 1) := by decide +kernel
theorem dX2_readHouse_109 : decode cX2_readHouse 109 = .ok (.getfield 29, 3) := by decide +kernel
theorem dX2_readHouse_112 : decode cX2_readHouse 112 = .ok (.aload_n 0, 1) := by decide +kernel
theorem dX2_readHouse_113 : decode cX2_readHouse 113 = .ok (.getfield 9, 3) := by decide +kernel
theorem dX2_readHouse_116 : decode cX2_readHouse 116 = .ok (.iload_n 2, 1) := by decide +kernel
theorem dX2_readHouse_117 : decode cX2_readHouse 117 = .ok (.aload_n 1, 1) := by decide +kernel
theorem dX2_readHouse_118 : decode cX2_readHouse 118 = .ok (.getfield 59, 3) := by decide +kernel
theorem dX2_readHouse_121 : decode cX2_readHouse 121 = .ok (.iadd, 1) := by decide +kernel
theorem dX2_readHouse_122 : decode cX2_readHouse 122 = .ok (.iastore, 1) := by decide +kernel
theorem dX2_readHouse_123 : decode cX2_readHouse 123 = .ok (.aload_n 1, 1) := by decide +kernel
theorem dX2_readHouse_124 : decode cX2_readHouse 124 = .ok (.sipush 260, 3) := by decide +kernel
theorem dX2_readHouse_127 : decode cX2_readHouse 127 = .ok (.invokevirtual 48, 3) := by decide +kernel
theorem dX2_readHouse_130 : decode cX2_readHouse 130 = .ok (.ifCond .eq 10, 3) := by decide +kernel
theorem dX2_readHouse_133 : decode cX2_readHouse 133 = .ok (.aload_n 1, 1) := by decide +kernel
theorem dX2_readHouse_134 : decode cX2_readHouse 134 = .ok (.invokevirtual 62, 3) := by decide +kernel
theorem dX2_readHouse_137 : decode cX2_readHouse 137 = .ok (.ifCond .ne 5, 3) := by decide +kernel
theorem dX2_readHouse_140 : decode cX2_readHouse 140 = .ok (.iconst 0, 1) := by decide +kernel
theorem dX2_readHouse_141 : decode cX2_readHouse 141 = .ok (.ireturn, 1) := by decide +kernel
theorem dX2_readHouse_142 : decode cX2_readHouse 142 = .ok (.aload_n 0, 1) := by decide +kernel
theorem dX2_readHouse_143 : decode cX2_readHouse 143 = .ok (.getfield 19, 3) := by decide +kernel
theorem dX2_readHouse_146 : decode cX2_readHouse 146 = .ok (.aload_n 0, 1) := by decide +kernel
theorem dX2_readHouse_147 : decode cX2_readHouse 147 = .ok (.getfield 9, 3) := by decide +kernel
theorem dX2_readHouse_150 : decode cX2_readHouse 150 = .ok (.aload_n 1, 1) := by decide +kernel
theorem dX2_readHouse_151 : decode cX2_readHouse 151 = .ok (.getfield 66, 3) := by decide +kernel
theorem dX2_readHouse_154 : decode cX2_readHouse 154 = .ok (.lastore, 1) := by decide +kernel
theorem dX2_readHouse_155 : decode cX2_readHouse 155 = .ok (.aload_n 1, 1) := by decide +kernel
theorem dX2_readHouse_156 : decode cX2_readHouse 156 = .ok (.sipush 273, 3) := by decide +kernel
theorem dX2_readHouse_159 : decode cX2_readHouse 159 = .ok (.invokevirtual 48, 3) := by decide +kernel
theorem dX2_readHouse_162 : decode cX2_readHouse 162 = .ok (.ifCond .eq 10, 3) := by decide +kernel
theorem dX2_readHouse_165 : decode cX2_readHouse 165 = .ok (.aload_n 1, 1) := by decide +kernel
theorem dX2_readHouse_166 : decode cX2_readHouse 166 = .ok (.invokevirtual 62, 3) := by decide +kernel
theorem dX2_readHouse_169 : decode cX2_readHouse 169 = .ok (.ifCond .ne 5, 3) := by decide +kernel
theorem dX2_readHouse_172 : decode cX2_readHouse 172 = .ok (.iconst 0, 1) := by decide +kernel
theorem dX2_readHouse_173 : decode cX2_readHouse 173 = .ok (.ireturn, 1) := by decide +kernel
theorem dX2_readHouse_174 : decode cX2_readHouse 174 = .ok (.aload_n 0, 1) := by decide +kernel
theorem dX2_readHouse_175 : decode cX2_readHouse 175 = .ok (.getfield 22, 3) := by decide +kernel
theorem dX2_readHouse_178 : decode cX2_readHouse 178 = .ok (.aload_n 0, 1) := by decide +kernel
theorem dX2_readHouse_179 : decode cX2_readHouse 179 = .ok (.getfield 9, 3) := by decide +kernel
theorem dX2_readHouse_182 : decode cX2_readHouse 182 = .ok (.aload_n 1, 1) := by decide +kernel
theorem dX2_readHouse_183 : decode cX2_readHouse 183 = .ok (.getfield 66, 3) := by decide +kernel
theorem dX2_readHouse_186 : decode cX2_readHouse 186 = .ok (.lastore, 1) := by decide +kernel
theorem dX2_readHouse_187 : decode cX2_readHouse 187 = .ok (.aload_n 1, 1) := by decide +kernel
theorem dX2_readHouse_188 : decode cX2_readHouse 188 = .ok (.bipush 59, 2) := by decide +kernel
theorem dX2_readHouse_190 : decode cX2_readHouse 190 = .ok (.invokevirtual 48, 3) := by decide +kernel
theorem dX2_readHouse_193 : decode cX2_readHouse 193 = .ok (.ireturn, 1) := by decide +kernel
theorem dX2_more_0 : decode cX2_more 0 = .ok (.aload_n 0, 1) := by decide +kernel
theorem dX2_more_1 : decode cX2_more 1 = .ok (.getfield 25, 3) := by decide +kernel
theorem dX2_more_4 : decode cX2_more 4 = .ok (.iconst 0, 1) := by decide +kernel
theorem dX2_more_5 : decode cX2_more 5 = .ok (.iaload, 1) := by decide +kernel
theorem dX2_more_6 : decode cX2_more 6 = .ok (.istore_n 1, 1) := by decide +kernel
theorem dX2_more_7 : decode cX2_more 7 = .ok (.aload_n 0, 1) := by decide +kernel
theorem dX2_more_8 : decode cX2_more 8 = .ok (.getfield 29, 3) := by decide +kernel
theorem dX2_more_11 : decode cX2_more 11 = .ok (.iconst 0, 1) := by decide +kernel
theorem dX2_more_12 : decode cX2_more 12 = .ok (.iaload, 1) := by decide +kernel
theorem dX2_more_13 : decode cX2_more 13 = .ok (.istore_n 2, 1) := by decide +kernel
theorem dX2_more_14 : decode cX2_more 14 = .ok (.iconst 1, 1) := by decide +kernel
theorem dX2_more_15 : decode cX2_more 15 = .ok (.istore_n 3, 1) := by decide +kernel
theorem dX2_more_16 : decode cX2_more 16 = .ok (.iload_n 3, 1) := by decide +kernel
theorem dX2_more_17 : decode cX2_more 17 = .ok (.aload_n 0, 1) := by decide +kernel
theorem dX2_more_18 : decode cX2_more 18 = .ok (.getfield 9, 3) := by decide +kernel
theorem dX2_more_21 : decode cX2_more 21 = .ok (.if_icmp .ge 31, 3) := by decide +kernel
theorem dX2_more_24 : decode cX2_more 24 = .ok (.iload_n 1, 1) := by decide +kernel
theorem dX2_more_25 : decode cX2_more 25 = .ok (.aload_n 0, 1) := by decide +kernel
theorem dX2_more_26 : decode cX2_more 26 = .ok (.getfield 25, 3) := by decide +kernel
theorem dX2_more_29 : decode cX2_more 29 = .ok (.iload_n 3, 1) := by decide +kernel
theorem dX2_more_30 : decode cX2_more 30 = .ok (.iaload, 1) := by decide +kernel
theorem dX2_more_31 : decode cX2_more 31 = .ok (.invokestatic 70, 3) := by decide +kernel
theorem dX2_more_34 : decode cX2_more 34 = .ok (.istore_n 1, 1) := by decide +kernel
theorem dX2_more_35 : decode cX2_more 35 = .ok (.iload_n 2, 1) := by decide +kernel
theorem dX2_more_36 : decode cX2_more 36 = .ok (.aload_n 0, 1) := by decide +kernel
theorem dX2_more_37 : decode cX2_more 37 = .ok (.getfield 29, 3) := by decide +kernel
theorem dX2_more_40 : decode cX2_more 40 = .ok (.iload_n 3, 1) := by decide +kernel
theorem dX2_more_41 : decode cX2_more 41 = .ok (.iaload, 1) := by decide +kernel
theorem dX2_more_42 : decode cX2_more 42 = .ok (.invokestatic 76, 3) := by decide +kernel
theorem dX2_more_45 : decode cX2_more 45 = .ok (.istore_n 2, 1) := by decide +kernel
theorem dX2_more_46 : decode cX2_more 46 = .ok (.iinc 3 1, 3) := by decide +kernel
theorem dX2_more_49 : decode cX2_more 49 = .ok (.goto (-33), 3) := by decide +kernel
theorem dX2_more_52 : decode cX2_more 52 = .ok (.iconst 0, 1) := by decide +kernel
theorem dX2_more_53 : decode cX2_more 53 = .ok (.iload_n 1, 1) := by decide +kernel
theorem dX2_more_54 : decode cX2_more 54 = .ok (.iload_n 2, 1) := by decide +kernel
theorem dX2_more_55 : decode cX2_more 55 = .ok (.isub, 1) := by decide +kernel
theorem dX2_more_56 : decode cX2_more 56 = .ok (.iconst 1, 1) := by decide +kernel
theorem dX2_more_57 : decode cX2_more 57 = .ok (.iadd, 1) := by decide +kernel
theorem dX2_more_58 : decode cX2_more 58 = .ok (.iconst 1, 1) := by decide +kernel
theorem dX2_more_59 : decode cX2_more 59 = .ok (.ishr, 1) := by decide +kernel
theorem dX2_more_60 : decode cX2_more 60 = .ok (.invokestatic 70, 3) := by decide +kernel
theorem dX2_more_63 : decode cX2_more 63 = .ok (.ireturn, 1) := by decide +kernel
theorem dX2_out_0 : decode cX2_out 0 = .ok (.iconst 0, 1) := by decide +kernel
theorem dX2_out_1 : decode cX2_out 1 = .ok (.istore_n 1, 1) := by decide +kernel
theorem dX2_out_2 : decode cX2_out 2 = .ok (.aload_n 0, 1) := by decide +kernel
theorem dX2_out_3 : decode cX2_out 3 = .ok (.getfield 9, 3) := by decide +kernel
theorem dX2_out_6 : decode cX2_out 6 = .ok (.iconst 1, 1) := by decide +kernel
theorem dX2_out_7 : decode cX2_out 7 = .ok (.iadd, 1) := by decide +kernel
theorem dX2_out_8 : decode cX2_out 8 = .ok (.istore_n 2, 1) := by decide +kernel
theorem dX2_out_9 : decode cX2_out 9 = .ok (.iconst 0, 1) := by decide +kernel
theorem dX2_out_10 : decode cX2_out 10 = .ok (.istore_n 3, 1) := by decide +kernel
theorem dX2_out_11 : decode cX2_out 11 = .ok (.iload_n 3, 1) := by decide +kernel
theorem dX2_out_12 : decode cX2_out 12 = .ok (.aload_n 0, 1) := by decide +kernel
theorem dX2_out_13 : decode cX2_out 13 = .ok (.getfield 9, 3) := by decide +kernel
theorem dX2_out_16 : decode cX2_out 16 = .ok (.if_icmp .ge 52, 3) := by decide +kernel
theorem dX2_out_19 : decode cX2_out 19 = .ok (.aload_n 0, 1) := by decide +kernel
theorem dX2_out_20 : decode cX2_out 20 = .ok (.aload_n 0, 1) := by decide +kernel
theorem dX2_out_21 : decode cX2_out 21 = .ok (.getfield 25, 3) := by decide +kernel
theorem dX2_out_24 : decode cX2_out 24 = .ok (.iload_n 3, 1) := by decide +kernel
theorem dX2_out_25 : decode cX2_out 25 = .ok (.iaload, 1) := by decide +kernel
theorem dX2_out_26 : decode cX2_out 26 = .ok (.invokevirtual 79, 3) := by decide +kernel
theorem dX2_out_29 : decode cX2_out 29 = .ok (.istore 4, 2) := by decide +kernel
theorem dX2_out_31 : decode cX2_out 31 = .ok (.iload 4, 2) := by decide +kernel
theorem dX2_out_33 : decode cX2_out 33 = .ok (.invokestatic 83, 3) := by decide +kernel
theorem dX2_out_36 : decode cX2_out 36 = .ok (.istore 5, 2) := by decide +kernel
theorem dX2_out_38 : decode cX2_out 38 = .ok (.iload 5, 2) := by decide +kernel
theorem dX2_out_40 : decode cX2_out 40 = .ok (.iload_n 2, 1) := by decide +kernel
theorem dX2_out_41 : decode cX2_out 41 = .ok (.if_icmp .lt 15, 3) := by decide +kernel
theorem dX2_out_44 : decode cX2_out 44 = .ok (.iload 5, 2) := by decide +kernel
theorem dX2_out_46 : decode cX2_out 46 = .ok (.iload_n 2, 1) := by decide +kernel
theorem dX2_out_47 : decode cX2_out 47 = .ok (.if_icmp .ne 15, 3) := by decide +kernel
theorem dX2_out_50 : decode cX2_out 50 = .ok (.iload 4, 2) := by decide +kernel
theorem dX2_out_52 : decode cX2_out 52 = .ok (.iload_n 1, 1) := by decide +kernel
theorem dX2_out_53 : decode cX2_out 53 = .ok (.if_icmp .ge 9, 3) := by decide +kernel
theorem dX2_out_56 : decode cX2_out 56 = .ok (.iload 4, 2) := by decide +kernel
theorem dX2_out_58 : decode cX2_out 58 = .ok (.istore_n 1, 1) := by decide +kernel
theorem dX2_out_59 : decode cX2_out 59 = .ok (.iload 5, 2) := by decide +kernel
theorem dX2_out_61 : decode cX2_out 61 = .ok (.istore_n 2, 1) := by decide +kernel
theorem dX2_out_62 : decode cX2_out 62 = .ok (.iinc 3 1, 3) := by decide +kernel
theorem dX2_out_65 : decode cX2_out 65 = .ok (.goto (-54), 3) := by decide +kernel
theorem dX2_out_68 : decode cX2_out 68 = .ok (.iload_n 1, 1) := by decide +kernel
theorem dX2_out_69 : decode cX2_out 69 = .ok (.ireturn, 1) := by decide +kernel
theorem dX2_notLetting_0 : decode cX2_notLetting 0 = .ok (.iconst 0, 1) := by decide +kernel
theorem dX2_notLetting_1 : decode cX2_notLetting 1 = .ok (.istore_n 2, 1) := by decide +kernel
theorem dX2_notLetting_2 : decode cX2_notLetting 2 = .ok (.iconst 0, 1) := by decide +kernel
theorem dX2_notLetting_3 : decode cX2_notLetting 3 = .ok (.istore_n 3, 1) := by decide +kernel
theorem dX2_notLetting_4 : decode cX2_notLetting 4 = .ok (.iload_n 3, 1) := by decide +kernel
theorem dX2_notLetting_5 : decode cX2_notLetting 5 = .ok (.aload_n 0, 1) := by decide +kernel
theorem dX2_notLetting_6 : decode cX2_notLetting 6 = .ok (.getfield 9, 3) := by decide +kernel
theorem dX2_notLetting_9 : decode cX2_notLetting 9 = .ok (.if_icmp .ge 34, 3) := by decide +kernel
theorem dX2_notLetting_12 : decode cX2_notLetting 12 = .ok (.iload_n 1, 1) := by decide +kernel
theorem dX2_notLetting_13 : decode cX2_notLetting 13 = .ok (.aload_n 0, 1) := by decide +kernel
theorem dX2_notLetting_14 : decode cX2_notLetting 14 = .ok (.getfield 25, 3) := by decide +kernel
theorem dX2_notLetting_17 : decode cX2_notLetting 17 = .ok (.iload_n 3, 1) := by decide +kernel
theorem dX2_notLetting_18 : decode cX2_notLetting 18 = .ok (.iaload, 1) := by decide +kernel
theorem dX2_notLetting_19 : decode cX2_notLetting 19 = .ok (.aload_n 0, 1) := by decide +kernel
theorem dX2_notLetting_20 : decode cX2_notLetting 20 = .ok (.getfield 29, 3) := by decide +kernel
theorem dX2_notLetting_23 : decode cX2_notLetting 23 = .ok (.iload_n 3, 1) := by decide +kernel
theorem dX2_notLetting_24 : decode cX2_notLetting 24 = .ok (.iaload, 1) := by decide +kernel
theorem dX2_notLetting_25 : decode cX2_notLetting 25 = .ok (.invokestatic 88, 3) := by decide +kernel
theorem dX2_notLetting_28 : decode cX2_notLetting 28 = .ok (.ifCond .ne 9, 3) := by decide +kernel
theorem dX2_notLetting_31 : decode cX2_notLetting 31 = .ok (.iload_n 2, 1) := by decide +kernel
theorem dX2_notLetting_32 : decode cX2_notLetting 32 = .ok (.iconst 1, 1) := by decide +kernel
theorem dX2_notLetting_33 : decode cX2_notLetting 33 = .ok (.iload_n 3, 1) := by decide +kernel
theorem dX2_notLetting_34 : decode cX2_notLetting 34 = .ok (.ishl, 1) := by decide +kernel
theorem dX2_notLetting_35 : decode cX2_notLetting 35 = .ok (.ior, 1) := by decide +kernel
theorem dX2_notLetting_36 : decode cX2_notLetting 36 = .ok (.istore_n 2, 1) := by decide +kernel
theorem dX2_notLetting_37 : decode cX2_notLetting 37 = .ok (.iinc 3 1, 3) := by decide +kernel
theorem dX2_notLetting_40 : decode cX2_notLetting 40 = .ok (.goto (-36), 3) := by decide +kernel
theorem dX2_notLetting_43 : decode cX2_notLetting 43 = .ok (.iload_n 2, 1) := by decide +kernel
theorem dX2_notLetting_44 : decode cX2_notLetting 44 = .ok (.ireturn, 1) := by decide +kernel
theorem dX2_apart_0 : decode cX2_apart 0 = .ok (.aload_n 0, 1) := by decide +kernel
theorem dX2_apart_1 : decode cX2_apart 1 = .ok (.getfield 9, 3) := by decide +kernel
theorem dX2_apart_4 : decode cX2_apart 4 = .ok (.istore_n 1, 1) := by decide +kernel
theorem dX2_apart_5 : decode cX2_apart 5 = .ok (.iconst 0, 1) := by decide +kernel
theorem dX2_apart_6 : decode cX2_apart 6 = .ok (.istore_n 2, 1) := by decide +kernel
theorem dX2_apart_7 : decode cX2_apart 7 = .ok (.iload_n 2, 1) := by decide +kernel
theorem dX2_apart_8 : decode cX2_apart 8 = .ok (.aload_n 0, 1) := by decide +kernel
theorem dX2_apart_9 : decode cX2_apart 9 = .ok (.getfield 9, 3) := by decide +kernel
theorem dX2_apart_12 : decode cX2_apart 12 = .ok (.if_icmp .ge 16, 3) := by decide +kernel
theorem dX2_apart_15 : decode cX2_apart 15 = .ok (.aload_n 0, 1) := by decide +kernel
theorem dX2_apart_16 : decode cX2_apart 16 = .ok (.getfield 32, 3) := by decide +kernel
theorem dX2_apart_19 : decode cX2_apart 19 = .ok (.iload_n 2, 1) := by decide +kernel
theorem dX2_apart_20 : decode cX2_apart 20 = .ok (.iload_n 2, 1) := by decide +kernel
theorem dX2_apart_21 : decode cX2_apart 21 = .ok (.iastore, 1) := by decide +kernel
theorem dX2_apart_22 : decode cX2_apart 22 = .ok (.iinc 2 1, 3) := by decide +kernel
theorem dX2_apart_25 : decode cX2_apart 25 = .ok (.goto (-18), 3) := by decide +kernel
theorem dX2_apart_28 : decode cX2_apart 28 = .ok (.iconst 0, 1) := by decide +kernel
theorem dX2_apart_29 : decode cX2_apart 29 = .ok (.istore_n 2, 1) := by decide +kernel
theorem dX2_apart_30 : decode cX2_apart 30 = .ok (.iload_n 2, 1) := by decide +kernel
theorem dX2_apart_31 : decode cX2_apart 31 = .ok (.aload_n 0, 1) := by decide +kernel
theorem dX2_apart_32 : decode cX2_apart 32 = .ok (.getfield 9, 3) := by decide +kernel
theorem dX2_apart_35 : decode cX2_apart 35 = .ok (.if_icmp .ge 100, 3) := by decide +kernel
theorem dX2_apart_38 : decode cX2_apart 38 = .ok (.iconst 0, 1) := by decide +kernel
theorem dX2_apart_39 : decode cX2_apart 39 = .ok (.istore_n 3, 1) := by decide +kernel
theorem dX2_apart_40 : decode cX2_apart 40 = .ok (.iload_n 3, 1) := by decide +kernel
theorem dX2_apart_41 : decode cX2_apart 41 = .ok (.iload_n 2, 1) := by decide +kernel
theorem dX2_apart_42 : decode cX2_apart 42 = .ok (.if_icmp .ge 87, 3) := by decide +kernel
theorem dX2_apart_45 : decode cX2_apart 45 = .ok (.aload_n 0, 1) := by decide +kernel
theorem dX2_apart_46 : decode cX2_apart 46 = .ok (.getfield 19, 3) := by decide +kernel
theorem dX2_apart_49 : decode cX2_apart 49 = .ok (.iload_n 2, 1) := by decide +kernel
theorem dX2_apart_50 : decode cX2_apart 50 = .ok (.laload, 1) := by decide +kernel
theorem dX2_apart_51 : decode cX2_apart 51 = .ok (.aload_n 0, 1) := by decide +kernel
theorem dX2_apart_52 : decode cX2_apart 52 = .ok (.getfield 19, 3) := by decide +kernel
theorem dX2_apart_55 : decode cX2_apart 55 = .ok (.iload_n 3, 1) := by decide +kernel
theorem dX2_apart_56 : decode cX2_apart 56 = .ok (.laload, 1) := by decide +kernel
theorem dX2_apart_57 : decode cX2_apart 57 = .ok (.lcmp, 1) := by decide +kernel
theorem dX2_apart_58 : decode cX2_apart 58 = .ok (.ifCond .eq 19, 3) := by decide +kernel
theorem dX2_apart_61 : decode cX2_apart 61 = .ok (.aload_n 0, 1) := by decide +kernel
theorem dX2_apart_62 : decode cX2_apart 62 = .ok (.getfield 22, 3) := by decide +kernel
theorem dX2_apart_65 : decode cX2_apart 65 = .ok (.iload_n 2, 1) := by decide +kernel
theorem dX2_apart_66 : decode cX2_apart 66 = .ok (.laload, 1) := by decide +kernel
theorem dX2_apart_67 : decode cX2_apart 67 = .ok (.aload_n 0, 1) := by decide +kernel
theorem dX2_apart_68 : decode cX2_apart 68 = .ok (.getfield 22, 3) := by decide +kernel
theorem dX2_apart_71 : decode cX2_apart 71 = .ok (.iload_n 3, 1) := by decide +kernel
theorem dX2_apart_72 : decode cX2_apart 72 = .ok (.laload, 1) := by decide +kernel
theorem dX2_apart_73 : decode cX2_apart 73 = .ok (.lcmp, 1) := by decide +kernel
theorem dX2_apart_74 : decode cX2_apart 74 = .ok (.ifCond .ne 7, 3) := by decide +kernel
theorem dX2_apart_77 : decode cX2_apart 77 = .ok (.iconst 1, 1) := by decide +kernel
theorem dX2_apart_78 : decode cX2_apart 78 = .ok (.goto 4, 3) := by decide +kernel
theorem dX2_apart_81 : decode cX2_apart 81 = .ok (.iconst 0, 1) := by decide +kernel
theorem dX2_apart_82 : decode cX2_apart 82 = .ok (.istore 4, 2) := by decide +kernel
theorem dX2_apart_84 : decode cX2_apart 84 = .ok (.iload 4, 2) := by decide +kernel
theorem dX2_apart_86 : decode cX2_apart 86 = .ok (.ifCond .eq 37, 3) := by decide +kernel
theorem dX2_apart_89 : decode cX2_apart 89 = .ok (.aload_n 0, 1) := by decide +kernel
theorem dX2_apart_90 : decode cX2_apart 90 = .ok (.getfield 32, 3) := by decide +kernel
theorem dX2_apart_93 : decode cX2_apart 93 = .ok (.iload_n 2, 1) := by decide +kernel
theorem dX2_apart_94 : decode cX2_apart 94 = .ok (.iaload, 1) := by decide +kernel
theorem dX2_apart_95 : decode cX2_apart 95 = .ok (.aload_n 0, 1) := by decide +kernel
theorem dX2_apart_96 : decode cX2_apart 96 = .ok (.getfield 32, 3) := by decide +kernel
theorem dX2_apart_99 : decode cX2_apart 99 = .ok (.iload_n 3, 1) := by decide +kernel
theorem dX2_apart_100 : decode cX2_apart 100 = .ok (.iaload, 1) := by decide +kernel
theorem dX2_apart_101 : decode cX2_apart 101 = .ok (.if_icmp .eq 22, 3) := by decide +kernel
theorem dX2_apart_104 : decode cX2_apart 104 = .ok (.aload_n 0, 1) := by decide +kernel
theorem dX2_apart_105 : decode cX2_apart 105 = .ok (.aload_n 0, 1) := by decide +kernel
theorem dX2_apart_106 : decode cX2_apart 106 = .ok (.getfield 32, 3) := by decide +kernel
theorem dX2_apart_109 : decode cX2_apart 109 = .ok (.iload_n 2, 1) := by decide +kernel
theorem dX2_apart_110 : decode cX2_apart 110 = .ok (.iaload, 1) := by decide +kernel
theorem dX2_apart_111 : decode cX2_apart 111 = .ok (.aload_n 0, 1) := by decide +kernel
theorem dX2_apart_112 : decode cX2_apart 112 = .ok (.getfield 32, 3) := by decide +kernel
theorem dX2_apart_115 : decode cX2_apart 115 = .ok (.iload_n 3, 1) := by decide +kernel
theorem dX2_apart_116 : decode cX2_apart 116 = .ok (.iaload, 1) := by decide +kernel
theorem dX2_apart_117 : decode cX2_apart 117 = .ok (.invokevirtual 92, 3) := by decide +kernel
theorem dX2_apart_120 : decode cX2_apart 120 = .ok (.iinc 1 (-1), 3) := by decide +kernel
theorem dX2_apart_123 : decode cX2_apart 123 = .ok (.iinc 3 1, 3) := by decide +kernel
theorem dX2_apart_126 : decode cX2_apart 126 = .ok (.goto (-86), 3) := by decide +kernel
theorem dX2_apart_129 : decode cX2_apart 129 = .ok (.iinc 2 1, 3) := by decide +kernel
theorem dX2_apart_132 : decode cX2_apart 132 = .ok (.goto (-102), 3) := by decide +kernel
theorem dX2_apart_135 : decode cX2_apart 135 = .ok (.iload_n 1, 1) := by decide +kernel
theorem dX2_apart_136 : decode cX2_apart 136 = .ok (.ireturn, 1) := by decide +kernel
theorem dX2_join_0 : decode cX2_join 0 = .ok (.iconst 0, 1) := by decide +kernel
theorem dX2_join_1 : decode cX2_join 1 = .ok (.istore_n 3, 1) := by decide +kernel
theorem dX2_join_2 : decode cX2_join 2 = .ok (.iload_n 3, 1) := by decide +kernel
theorem dX2_join_3 : decode cX2_join 3 = .ok (.aload_n 0, 1) := by decide +kernel
theorem dX2_join_4 : decode cX2_join 4 = .ok (.getfield 9, 3) := by decide +kernel
theorem dX2_join_7 : decode cX2_join 7 = .ok (.if_icmp .ge 26, 3) := by decide +kernel
theorem dX2_join_10 : decode cX2_join 10 = .ok (.aload_n 0, 1) := by decide +kernel
theorem dX2_join_11 : decode cX2_join 11 = .ok (.getfield 32, 3) := by decide +kernel
theorem dX2_join_14 : decode cX2_join 14 = .ok (.iload_n 3, 1) := by decide +kernel
theorem dX2_join_15 : decode cX2_join 15 = .ok (.iaload, 1) := by decide +kernel
theorem dX2_join_16 : decode cX2_join 16 = .ok (.iload_n 1, 1) := by decide +kernel
theorem dX2_join_17 : decode cX2_join 17 = .ok (.if_icmp .ne 10, 3) := by decide +kernel
theorem dX2_join_20 : decode cX2_join 20 = .ok (.aload_n 0, 1) := by decide +kernel
theorem dX2_join_21 : decode cX2_join 21 = .ok (.getfield 32, 3) := by decide +kernel
theorem dX2_join_24 : decode cX2_join 24 = .ok (.iload_n 3, 1) := by decide +kernel
theorem dX2_join_25 : decode cX2_join 25 = .ok (.iload_n 2, 1) := by decide +kernel
theorem dX2_join_26 : decode cX2_join 26 = .ok (.iastore, 1) := by decide +kernel
theorem dX2_join_27 : decode cX2_join 27 = .ok (.iinc 3 1, 3) := by decide +kernel
theorem dX2_join_30 : decode cX2_join 30 = .ok (.goto (-28), 3) := by decide +kernel
theorem dX2_join_33 : decode cX2_join 33 = .ok (.return_, 1) := by decide +kernel
theorem dX3_init_0 : decode cX3_init 0 = .ok (.aload_n 0, 1) := by decide +kernel
theorem dX3_init_1 : decode cX3_init 1 = .ok (.invokespecial 3, 3) := by decide +kernel
theorem dX3_init_4 : decode cX3_init 4 = .ok (.aload_n 0, 1) := by decide +kernel
theorem dX3_init_5 : decode cX3_init 5 = .ok (.aload_n 1, 1) := by decide +kernel
theorem dX3_init_6 : decode cX3_init 6 = .ok (.putfield 9, 3) := by decide +kernel
theorem dX3_init_9 : decode cX3_init 9 = .ok (.aload_n 0, 1) := by decide +kernel
theorem dX3_init_10 : decode cX3_init 10 = .ok (.bipush 20, 2) := by decide +kernel
theorem dX3_init_12 : decode cX3_init 12 = .ok (.newarray .long, 2) := by decide +kernel
theorem dX3_init_14 : decode cX3_init 14 = .ok (.putfield 15, 3) := by decide +kernel
theorem dX3_init_17 : decode cX3_init 17 = .ok (.aload_n 0, 1) := by decide +kernel
theorem dX3_init_18 : decode cX3_init 18 = .ok (.iconst 0, 1) := by decide +kernel
theorem dX3_init_19 : decode cX3_init 19 = .ok (.putfield 19, 3) := by decide +kernel
theorem dX3_init_22 : decode cX3_init 22 = .ok (.aload_n 0, 1) := by decide +kernel
theorem dX3_init_23 : decode cX3_init 23 = .ok (.iconst (-1), 1) := by decide +kernel
theorem dX3_init_24 : decode cX3_init 24 = .ok (.putfield 23, 3) := by decide +kernel
theorem dX3_init_27 : decode cX3_init 27 = .ok (.lconst 0, 1) := by decide +kernel
theorem dX3_init_28 : decode cX3_init 28 = .ok (.lstore_n 2, 1) := by decide +kernel
theorem dX3_init_29 : decode cX3_init 29 = .ok (.iconst 0, 1) := by decide +kernel
theorem dX3_init_30 : decode cX3_init 30 = .ok (.istore 4, 2) := by decide +kernel
theorem dX3_init_32 : decode cX3_init 32 = .ok (.iconst 0, 1) := by decide +kernel
theorem dX3_init_33 : decode cX3_init 33 = .ok (.istore 5, 2) := by decide +kernel
theorem dX3_init_35 : decode cX3_init 35 = .ok (.iload 5, 2) := by decide +kernel
theorem dX3_init_37 : decode cX3_init 37 = .ok (.ldc 26, 2) := by decide +kernel
theorem dX3_init_39 : decode cX3_init 39 = .ok (.invokevirtual 28, 3) := by decide +kernel
theorem dX3_init_42 : decode cX3_init 42 = .ok (.if_icmp .ge 64, 3) := by decide +kernel
theorem dX3_init_45 : decode cX3_init 45 = .ok (.iload 4, 2) := by decide +kernel
theorem dX3_init_47 : decode cX3_init 47 = .ok (.bipush 20, 2) := by decide +kernel
theorem dX3_init_49 : decode cX3_init 49 = .ok (.if_icmp .ge 57, 3) := by decide +kernel
theorem dX3_init_52 : decode cX3_init 52 = .ok (.ldc 26, 2) := by decide +kernel
theorem dX3_init_54 : decode cX3_init 54 = .ok (.iload 5, 2) := by decide +kernel
theorem dX3_init_56 : decode cX3_init 56 = .ok (.invokevirtual 34, 3) := by decide +kernel
theorem dX3_init_59 : decode cX3_init 59 = .ok (.bipush 32, 2) := by decide +kernel
theorem dX3_init_61 : decode cX3_init 61 = .ok (.if_icmp .ne 19, 3) := by decide +kernel
theorem dX3_init_64 : decode cX3_init 64 = .ok (.aload_n 0, 1) := by decide +kernel
theorem dX3_init_65 : decode cX3_init 65 = .ok (.getfield 15, 3) := by decide +kernel
theorem dX3_init_68 : decode cX3_init 68 = .ok (.iload 4, 2) := by decide +kernel
theorem dX3_init_70 : decode cX3_init 70 = .ok (.lload_n 2, 1) := by decide +kernel
theorem dX3_init_71 : decode cX3_init 71 = .ok (.lastore, 1) := by decide +kernel
theorem dX3_init_72 : decode cX3_init 72 = .ok (.iinc 4 1, 3) := by decide +kernel
theorem dX3_init_75 : decode cX3_init 75 = .ok (.lconst 0, 1) := by decide +kernel
theorem dX3_init_76 : decode cX3_init 76 = .ok (.lstore_n 2, 1) := by decide +kernel
theorem dX3_init_77 : decode cX3_init 77 = .ok (.goto 23, 3) := by decide +kernel
theorem dX3_init_80 : decode cX3_init 80 = .ok (.lload_n 2, 1) := by decide +kernel
theorem dX3_init_81 : decode cX3_init 81 = .ok (.ldc2_w 38, 3) := by decide +kernel
theorem dX3_init_84 : decode cX3_init 84 = .ok (.lmul, 1) := by decide +kernel
theorem dX3_init_85 : decode cX3_init 85 = .ok (.ldc 26, 2) := by decide +kernel
theorem dX3_init_87 : decode cX3_init 87 = .ok (.iload 5, 2) := by decide +kernel
theorem dX3_init_89 : decode cX3_init 89 = .ok (.invokevirtual 34, 3) := by decide +kernel
theorem dX3_init_92 : decode cX3_init 92 = .ok (.bipush 97, 2) := by decide +kernel
theorem dX3_init_94 : decode cX3_init 94 = .ok (.isub, 1) := by decide +kernel
theorem dX3_init_95 : decode cX3_init 95 = .ok (.iconst 1, 1) := by decide +kernel
theorem dX3_init_96 : decode cX3_init 96 = .ok (.iadd, 1) := by decide +kernel
theorem dX3_init_97 : decode cX3_init 97 = .ok (.i2l, 1) := by decide +kernel
theorem dX3_init_98 : decode cX3_init 98 = .ok (.ladd, 1) := by decide +kernel
theorem dX3_init_99 : decode cX3_init 99 = .ok (.lstore_n 2, 1) := by decide +kernel
theorem dX3_init_100 : decode cX3_init 100 = .ok (.iinc 5 1, 3) := by decide +kernel
theorem dX3_init_103 : decode cX3_init 103 = .ok (.goto (-68), 3) := by decide +kernel
theorem dX3_init_106 : decode cX3_init 106 = .ok (.return_, 1) := by decide +kernel
theorem dX3_open_0 : decode cX3_open 0 = .ok (.aload_n 0, 1) := by decide +kernel
theorem dX3_open_1 : decode cX3_open 1 = .ok (.iload_n 1, 1) := by decide +kernel
theorem dX3_open_2 : decode cX3_open 2 = .ok (.putfield 40, 3) := by decide +kernel
theorem dX3_open_5 : decode cX3_open 5 = .ok (.aload_n 0, 1) := by decide +kernel
theorem dX3_open_6 : decode cX3_open 6 = .ok (.iconst 0, 1) := by decide +kernel
theorem dX3_open_7 : decode cX3_open 7 = .ok (.putfield 44, 3) := by decide +kernel
theorem dX3_open_10 : decode cX3_open 10 = .ok (.aload_n 0, 1) := by decide +kernel
theorem dX3_open_11 : decode cX3_open 11 = .ok (.iconst 0, 1) := by decide +kernel
theorem dX3_open_12 : decode cX3_open 12 = .ok (.putfield 19, 3) := by decide +kernel
theorem dX3_open_15 : decode cX3_open 15 = .ok (.aload_n 0, 1) := by decide +kernel
theorem dX3_open_16 : decode cX3_open 16 = .ok (.iconst (-1), 1) := by decide +kernel
theorem dX3_open_17 : decode cX3_open 17 = .ok (.putfield 23, 3) := by decide +kernel
theorem dX3_open_20 : decode cX3_open 20 = .ok (.aload_n 0, 1) := by decide +kernel
theorem dX3_open_21 : decode cX3_open 21 = .ok (.invokevirtual 47, 3) := by decide +kernel
theorem dX3_open_24 : decode cX3_open 24 = .ok (.return_, 1) := by decide +kernel
theorem dX3_advance_0 : decode cX3_advance 0 = .ok (.aload_n 0, 1) := by decide +kernel
theorem dX3_advance_1 : decode cX3_advance 1 = .ok (.getfield 44, 3) := by decide +kernel
theorem dX3_advance_4 : decode cX3_advance 4 = .ok (.aload_n 0, 1) := by decide +kernel
theorem dX3_advance_5 : decode cX3_advance 5 = .ok (.getfield 9, 3) := by decide +kernel
theorem dX3_advance_8 : decode cX3_advance 8 = .ok (.getfield 50, 3) := by decide +kernel
theorem dX3_advance_11 : decode cX3_advance 11 = .ok (.if_icmp .ge 50, 3) := by decide +kernel
theorem dX3_advance_14 : decode cX3_advance 14 = .ok (.aload_n 0, 1) := by decide +kernel
theorem dX3_advance_15 : decode cX3_advance 15 = .ok (.getfield 9, 3) := by decide +kernel
theorem dX3_advance_18 : decode cX3_advance 18 = .ok (.getfield 54, 3) := by decide +kernel
theorem dX3_advance_21 : decode cX3_advance 21 = .ok (.aload_n 0, 1) := by decide +kernel
theorem dX3_advance_22 : decode cX3_advance 22 = .ok (.getfield 44, 3) := by decide +kernel
theorem dX3_advance_25 : decode cX3_advance 25 = .ok (.baload, 1) := by decide +kernel
theorem dX3_advance_26 : decode cX3_advance 26 = .ok (.bipush 32, 2) := by decide +kernel
theorem dX3_advance_28 : decode cX3_advance 28 = .ok (.if_icmp .eq 20, 3) := by decide +kernel
theorem dX3_advance_31 : decode cX3_advance 31 = .ok (.aload_n 0, 1) := by decide +kernel
theorem dX3_advance_32 : decode cX3_advance 32 = .ok (.getfield 9, 3) := by decide +kernel
theorem dX3_advance_35 : decode cX3_advance 35 = .ok (.getfield 54, 3) := by decide +kernel
theorem dX3_advance_38 : decode cX3_advance 38 = .ok (.aload_n 0, 1) := by decide +kernel
theorem dX3_advance_39 : decode cX3_advance 39 = .ok (.getfield 44, 3) := by decide +kernel
theorem dX3_advance_42 : decode cX3_advance 42 = .ok (.baload, 1) := by decide +kernel
theorem dX3_advance_43 : decode cX3_advance 43 = .ok (.bipush 10, 2) := by decide +kernel
theorem dX3_advance_45 : decode cX3_advance 45 = .ok (.if_icmp .ne 16, 3) := by decide +kernel
theorem dX3_advance_48 : decode cX3_advance 48 = .ok (.aload_n 0, 1) := by decide +kernel
theorem dX3_advance_49 : decode cX3_advance 49 = .ok (.dup, 1) := by decide +kernel
theorem dX3_advance_50 : decode cX3_advance 50 = .ok (.getfield 44, 3) := by decide +kernel
theorem dX3_advance_53 : decode cX3_advance 53 = .ok (.iconst 1, 1) := by decide +kernel
theorem dX3_advance_54 : decode cX3_advance 54 = .ok (.iadd, 1) := by decide +kernel
theorem dX3_advance_55 : decode cX3_advance 55 = .ok (.putfield 44, 3) := by decide +kernel
theorem dX3_advance_58 : decode cX3_advance 58 = .ok (.goto (-58), 3) := by decide +kernel
theorem dX3_advance_61 : decode cX3_advance 61 = .ok (.aload_n 0, 1) := by decide +kernel
theorem dX3_advance_62 : decode cX3_advance 62 = .ok (.aload_n 0, 1) := by decide +kernel
theorem dX3_advance_63 : decode cX3_advance 63 = .ok (.getfield 44, 3) := by decide +kernel
theorem dX3_advance_66 : decode cX3_advance 66 = .ok (.putfield 58, 3) := by decide +kernel
theorem dX3_advance_69 : decode cX3_advance 69 = .ok (.aload_n 0, 1) := by decide +kernel
theorem dX3_advance_70 : decode cX3_advance 70 = .ok (.getfield 44, 3) := by decide +kernel
theorem dX3_advance_73 : decode cX3_advance 73 = .ok (.aload_n 0, 1) := by decide +kernel
theorem dX3_advance_74 : decode cX3_advance 74 = .ok (.getfield 9, 3) := by decide +kernel
theorem dX3_advance_77 : decode cX3_advance 77 = .ok (.getfield 50, 3) := by decide +kernel
theorem dX3_advance_80 : decode cX3_advance 80 = .ok (.if_icmp .lt 9, 3) := by decide +kernel
theorem dX3_advance_83 : decode cX3_advance 83 = .ok (.aload_n 0, 1) := by decide +kernel
theorem dX3_advance_84 : decode cX3_advance 84 = .ok (.iconst 0, 1) := by decide +kernel
theorem dX3_advance_85 : decode cX3_advance 85 = .ok (.putfield 61, 3) := by decide +kernel
theorem dX3_advance_88 : decode cX3_advance 88 = .ok (.return_, 1) := by decide +kernel
theorem dX3_advance_89 : decode cX3_advance 89 = .ok (.aload_n 0, 1) := by decide +kernel
theorem dX3_advance_90 : decode cX3_advance 90 = .ok (.getfield 9, 3) := by decide +kernel
theorem dX3_advance_93 : decode cX3_advance 93 = .ok (.getfield 54, 3) := by decide +kernel
theorem dX3_advance_96 : decode cX3_advance 96 = .ok (.aload_n 0, 1) := by decide +kernel
theorem dX3_advance_97 : decode cX3_advance 97 = .ok (.getfield 44, 3) := by decide +kernel
theorem dX3_advance_100 : decode cX3_advance 100 = .ok (.baload, 1) := by decide +kernel
theorem dX3_advance_101 : decode cX3_advance 101 = .ok (.istore_n 1, 1) := by decide +kernel
theorem dX3_advance_102 : decode cX3_advance 102 = .ok (.iload_n 1, 1) := by decide +kernel
theorem dX3_advance_103 : decode cX3_advance 103 = .ok (.bipush 97, 2) := by decide +kernel
theorem dX3_advance_105 : decode cX3_advance 105 = .ok (.if_icmp .lt 16, 3) := by decide +kernel
theorem dX3_advance_108 : decode cX3_advance 108 = .ok (.iload_n 1, 1) := by decide +kernel
theorem dX3_advance_109 : decode cX3_advance 109 = .ok (.bipush 122, 2) := by decide +kernel
theorem dX3_advance_111 : decode cX3_advance 111 = .ok (.if_icmp .gt 10, 3) := by decide +kernel
theorem dX3_advance_114 : decode cX3_advance 114 = .ok (.aload_n 0, 1) := by decide +kernel
theorem dX3_advance_115 : decode cX3_advance 115 = .ok (.invokevirtual 64, 3) := by decide +kernel
theorem dX3_advance_118 : decode cX3_advance 118 = .ok (.goto 49, 3) := by decide +kernel
theorem dX3_advance_121 : decode cX3_advance 121 = .ok (.iload_n 1, 1) := by decide +kernel
theorem dX3_advance_122 : decode cX3_advance 122 = .ok (.bipush 48, 2) := by decide +kernel
theorem dX3_advance_124 : decode cX3_advance 124 = .ok (.if_icmp .lt 16, 3) := by decide +kernel
theorem dX3_advance_127 : decode cX3_advance 127 = .ok (.iload_n 1, 1) := by decide +kernel
theorem dX3_advance_128 : decode cX3_advance 128 = .ok (.bipush 57, 2) := by decide +kernel
theorem dX3_advance_130 : decode cX3_advance 130 = .ok (.if_icmp .gt 10, 3) := by decide +kernel
theorem dX3_advance_133 : decode cX3_advance 133 = .ok (.aload_n 0, 1) := by decide +kernel
theorem dX3_advance_134 : decode cX3_advance 134 = .ok (.invokevirtual 67, 3) := by decide +kernel
theorem dX3_advance_137 : decode cX3_advance 137 = .ok (.goto 30, 3) := by decide +kernel
theorem dX3_advance_140 : decode cX3_advance 140 = .ok (.aload_n 0, 1) := by decide +kernel
theorem dX3_advance_141 : decode cX3_advance 141 = .ok (.aload_n 0, 1) := by decide +kernel
theorem dX3_advance_142 : decode cX3_advance 142 = .ok (.iload_n 1, 1) := by decide +kernel
theorem dX3_advance_143 : decode cX3_advance 143 = .ok (.invokevirtual 70, 3) := by decide +kernel
theorem dX3_advance_146 : decode cX3_advance 146 = .ok (.ifCond .eq 7, 3) := by decide +kernel
theorem dX3_advance_149 : decode cX3_advance 149 = .ok (.iload_n 1, 1) := by decide +kernel
theorem dX3_advance_150 : decode cX3_advance 150 = .ok (.goto 4, 3) := by decide +kernel
theorem dX3_advance_153 : decode cX3_advance 153 = .ok (.iconst 1, 1) := by decide +kernel
theorem dX3_advance_154 : decode cX3_advance 154 = .ok (.putfield 61, 3) := by decide +kernel
theorem dX3_advance_157 : decode cX3_advance 157 = .ok (.aload_n 0, 1) := by decide +kernel
theorem dX3_advance_158 : decode cX3_advance 158 = .ok (.dup, 1) := by decide +kernel
theorem dX3_advance_159 : decode cX3_advance 159 = .ok (.getfield 44, 3) := by decide +kernel
theorem dX3_advance_162 : decode cX3_advance 162 = .ok (.iconst 1, 1) := by decide +kernel
theorem dX3_advance_163 : decode cX3_advance 163 = .ok (.iadd, 1) := by decide +kernel
theorem dX3_advance_164 : decode cX3_advance 164 = .ok (.putfield 44, 3) := by decide +kernel
theorem dX3_advance_167 : decode cX3_advance 167 = .ok (.return_, 1) := by decide +kernel
theorem dX3_isSign_0 : decode cX3_isSign 0 = .ok (.iload_n 1, 1) := by decide +kernel
theorem dX3_isSign_1 : decode cX3_isSign 1 = .ok (.tableswitch 102 40 59 #[97, 97, 97, 97, 102, 95, 102, 97, 102, 102, 102, 102, 102, 102, 102, 102, 102, 102, 102, 95], 95) := by decide +kernel
theorem dX3_isSign_96 : decode cX3_isSign 96 = .ok (.iconst 1, 1) := by decide +kernel
theorem dX3_isSign_97 : decode cX3_isSign 97 = .ok (.ireturn, 1) := by decide +kernel
theorem dX3_isSign_98 : decode cX3_isSign 98 = .ok (.aload_n 0, 1) := by decide +kernel
theorem dX3_isSign_99 : decode cX3_isSign 99 = .ok (.getfield 40, 3) := by decide +kernel
theorem dX3_isSign_102 : decode cX3_isSign 102 = .ok (.ireturn, 1) := by decide +kernel
theorem dX3_isSign_103 : decode cX3_isSign 103 = .ok (.iconst 0, 1) := by decide +kernel
theorem dX3_isSign_104 : decode cX3_isSign 104 = .ok (.ireturn, 1) := by decide +kernel
theorem dX3_readWord_0 : decode cX3_readWord 0 = .ok (.lconst 0, 1) := by decide +kernel
theorem dX3_readWord_1 : decode cX3_readWord 1 = .ok (.lstore_n 1, 1) := by decide +kernel
theorem dX3_readWord_2 : decode cX3_readWord 2 = .ok (.aload_n 0, 1) := by decide +kernel
theorem dX3_readWord_3 : decode cX3_readWord 3 = .ok (.getfield 44, 3) := by decide +kernel
theorem dX3_readWord_6 : decode cX3_readWord 6 = .ok (.aload_n 0, 1) := by decide +kernel
theorem dX3_readWord_7 : decode cX3_readWord 7 = .ok (.getfield 9, 3) := by decide +kernel
theorem dX3_readWord_10 : decode cX3_readWord 10 = .ok (.getfield 50, 3) := by decide +kernel
theorem dX3_readWord_13 : decode cX3_readWord 13 = .ok (.if_icmp .ge 75, 3) := by decide +kernel
theorem dX3_readWord_16 : decode cX3_readWord 16 = .ok (.aload_n 0, 1) := by decide +kernel
theorem dX3_readWord_17 : decode cX3_readWord 17 = .ok (.getfield 9, 3) := by decide +kernel
theorem dX3_readWord_20 : decode cX3_readWord 20 = .ok (.getfield 54, 3) := by decide +kernel
theorem dX3_readWord_23 : decode cX3_readWord 23 = .ok (.aload_n 0, 1) := by decide +kernel
theorem dX3_readWord_24 : decode cX3_readWord 24 = .ok (.getfield 44, 3) := by decide +kernel
theorem dX3_readWord_27 : decode cX3_readWord 27 = .ok (.baload, 1) := by decide +kernel
theorem dX3_readWord_28 : decode cX3_readWord 28 = .ok (.bipush 97, 2) := by decide +kernel
theorem dX3_readWord_30 : decode cX3_readWord 30 = .ok (.if_icmp .lt 58, 3) := by decide +kernel
theorem dX3_readWord_33 : decode cX3_readWord 33 = .ok (.aload_n 0, 1) := by decide +kernel
theorem dX3_readWord_34 : decode cX3_readWord 34 = .ok (.getfield 9, 3) := by decide +kernel
theorem dX3_readWord_37 : decode cX3_readWord 37 = .ok (.getfield 54, 3) := by decide +kernel
theorem dX3_readWord_40 : decode cX3_readWord 40 = .ok (.aload_n 0, 1) := by decide +kernel
theorem dX3_readWord_41 : decode cX3_readWord 41 = .ok (.getfield 44, 3) := by decide +kernel
theorem dX3_readWord_44 : decode cX3_readWord 44 = .ok (.baload, 1) := by decide +kernel
theorem dX3_readWord_45 : decode cX3_readWord 45 = .ok (.bipush 122, 2) := by decide +kernel
theorem dX3_readWord_47 : decode cX3_readWord 47 = .ok (.if_icmp .gt 41, 3) := by decide +kernel
theorem dX3_readWord_50 : decode cX3_readWord 50 = .ok (.lload_n 1, 1) := by decide +kernel
theorem dX3_readWord_51 : decode cX3_readWord 51 = .ok (.ldc2_w 38, 3) := by decide +kernel
theorem dX3_readWord_54 : decode cX3_readWord 54 = .ok (.lmul, 1) := by decide +kernel
theorem dX3_readWord_55 : decode cX3_readWord 55 = .ok (.aload_n 0, 1) := by decide +kernel
theorem dX3_readWord_56 : decode cX3_readWord 56 = .ok (.getfield 9, 3) := by decide +kernel
theorem dX3_readWord_59 : decode cX3_readWord 59 = .ok (.getfield 54, 3) := by decide +kernel
theorem dX3_readWord_62 : decode cX3_readWord 62 = .ok (.aload_n 0, 1) := by decide +kernel
theorem dX3_readWord_63 : decode cX3_readWord 63 = .ok (.getfield 44, 3) := by decide +kernel
theorem dX3_readWord_66 : decode cX3_readWord 66 = .ok (.baload, 1) := by decide +kernel
theorem dX3_readWord_67 : decode cX3_readWord 67 = .ok (.bipush 97, 2) := by decide +kernel
theorem dX3_readWord_69 : decode cX3_readWord 69 = .ok (.isub, 1) := by decide +kernel
theorem dX3_readWord_70 : decode cX3_readWord 70 = .ok (.iconst 1, 1) := by decide +kernel
theorem dX3_readWord_71 : decode cX3_readWord 71 = .ok (.iadd, 1) := by decide +kernel
theorem dX3_readWord_72 : decode cX3_readWord 72 = .ok (.i2l, 1) := by decide +kernel
theorem dX3_readWord_73 : decode cX3_readWord 73 = .ok (.ladd, 1) := by decide +kernel
theorem dX3_readWord_74 : decode cX3_readWord 74 = .ok (.lstore_n 1, 1) := by decide +kernel
theorem dX3_readWord_75 : decode cX3_readWord 75 = .ok (.aload_n 0, 1) := by decide +kernel
theorem dX3_readWord_76 : decode cX3_readWord 76 = .ok (.dup, 1) := by decide +kernel
theorem dX3_readWord_77 : decode cX3_readWord 77 = .ok (.getfield 44, 3) := by decide +kernel
theorem dX3_readWord_80 : decode cX3_readWord 80 = .ok (.iconst 1, 1) := by decide +kernel
theorem dX3_readWord_81 : decode cX3_readWord 81 = .ok (.iadd, 1) := by decide +kernel
theorem dX3_readWord_82 : decode cX3_readWord 82 = .ok (.putfield 44, 3) := by decide +kernel
theorem dX3_readWord_85 : decode cX3_readWord 85 = .ok (.goto (-83), 3) := by decide +kernel
theorem dX3_readWord_88 : decode cX3_readWord 88 = .ok (.aload_n 0, 1) := by decide +kernel
theorem dX3_readWord_89 : decode cX3_readWord 89 = .ok (.getfield 44, 3) := by decide +kernel
theorem dX3_readWord_92 : decode cX3_readWord 92 = .ok (.aload_n 0, 1) := by decide +kernel
theorem dX3_readWord_93 : decode cX3_readWord 93 = .ok (.getfield 58, 3) := by decide +kernel
theorem dX3_readWord_96 : decode cX3_readWord 96 = .ok (.isub, 1) := by decide +kernel
theorem dX3_readWord_97 : decode cX3_readWord 97 = .ok (.bipush 8, 2) := by decide +kernel
theorem dX3_readWord_99 : decode cX3_readWord 99 = .ok (.if_icmp .le 9, 3) := by decide +kernel
theorem dX3_readWord_102 : decode cX3_readWord 102 = .ok (.aload_n 0, 1) := by decide +kernel
theorem dX3_readWord_103 : decode cX3_readWord 103 = .ok (.iconst 1, 1) := by decide +kernel
theorem dX3_readWord_104 : decode cX3_readWord 104 = .ok (.putfield 61, 3) := by decide +kernel
theorem dX3_readWord_107 : decode cX3_readWord 107 = .ok (.return_, 1) := by decide +kernel
theorem dX3_readWord_108 : decode cX3_readWord 108 = .ok (.aload_n 0, 1) := by decide +kernel
theorem dX3_readWord_109 : decode cX3_readWord 109 = .ok (.lload_n 1, 1) := by decide +kernel
theorem dX3_readWord_110 : decode cX3_readWord 110 = .ok (.putfield 74, 3) := by decide +kernel
theorem dX3_readWord_113 : decode cX3_readWord 113 = .ok (.aload_n 0, 1) := by decide +kernel
theorem dX3_readWord_114 : decode cX3_readWord 114 = .ok (.iconst 2, 1) := by decide +kernel
theorem dX3_readWord_115 : decode cX3_readWord 115 = .ok (.putfield 61, 3) := by decide +kernel
theorem dX3_readWord_118 : decode cX3_readWord 118 = .ok (.iconst 0, 1) := by decide +kernel
theorem dX3_readWord_119 : decode cX3_readWord 119 = .ok (.istore_n 3, 1) := by decide +kernel
theorem dX3_readWord_120 : decode cX3_readWord 120 = .ok (.iload_n 3, 1) := by decide +kernel
theorem dX3_readWord_121 : decode cX3_readWord 121 = .ok (.bipush 20, 2) := by decide +kernel
theorem dX3_readWord_123 : decode cX3_readWord 123 = .ok (.if_icmp .ge 29, 3) := by decide +kernel
theorem dX3_readWord_126 : decode cX3_readWord 126 = .ok (.aload_n 0, 1) := by decide +kernel
theorem dX3_readWord_127 : decode cX3_readWord 127 = .ok (.getfield 15, 3) := by decide +kernel
theorem dX3_readWord_130 : decode cX3_readWord 130 = .ok (.iload_n 3, 1) := by decide +kernel
theorem dX3_readWord_131 : decode cX3_readWord 131 = .ok (.laload, 1) := by decide +kernel
theorem dX3_readWord_132 : decode cX3_readWord 132 = .ok (.lload_n 1, 1) := by decide +kernel
theorem dX3_readWord_133 : decode cX3_readWord 133 = .ok (.lcmp, 1) := by decide +kernel
theorem dX3_readWord_134 : decode cX3_readWord 134 = .ok (.ifCond .ne 12, 3) := by decide +kernel
theorem dX3_readWord_137 : decode cX3_readWord 137 = .ok (.aload_n 0, 1) := by decide +kernel
theorem dX3_readWord_138 : decode cX3_readWord 138 = .ok (.sipush 256, 3) := by decide +kernel
theorem dX3_readWord_141 : decode cX3_readWord 141 = .ok (.iload_n 3, 1) := by decide +kernel
theorem dX3_readWord_142 : decode cX3_readWord 142 = .ok (.iadd, 1) := by decide +kernel
theorem dX3_readWord_143 : decode cX3_readWord 143 = .ok (.putfield 61, 3) := by decide +kernel
theorem dX3_readWord_146 : decode cX3_readWord 146 = .ok (.iinc 3 1, 3) := by decide +kernel
theorem dX3_readWord_149 : decode cX3_readWord 149 = .ok (.goto (-29), 3) := by decide +kernel
theorem dX3_readWord_152 : decode cX3_readWord 152 = .ok (.return_, 1) := by decide +kernel
theorem dX3_readNumber_0 : decode cX3_readNumber 0 = .ok (.iconst 0, 1) := by decide +kernel
theorem dX3_readNumber_1 : decode cX3_readNumber 1 = .ok (.istore_n 1, 1) := by decide +kernel
theorem dX3_readNumber_2 : decode cX3_readNumber 2 = .ok (.aload_n 0, 1) := by decide +kernel
theorem dX3_readNumber_3 : decode cX3_readNumber 3 = .ok (.getfield 44, 3) := by decide +kernel
theorem dX3_readNumber_6 : decode cX3_readNumber 6 = .ok (.aload_n 0, 1) := by decide +kernel
theorem dX3_readNumber_7 : decode cX3_readNumber 7 = .ok (.getfield 9, 3) := by decide +kernel
theorem dX3_readNumber_10 : decode cX3_readNumber 10 = .ok (.getfield 50, 3) := by decide +kernel
theorem dX3_readNumber_13 : decode cX3_readNumber 13 = .ok (.if_icmp .ge 71, 3) := by decide +kernel
theorem dX3_readNumber_16 : decode cX3_readNumber 16 = .ok (.aload_n 0, 1) := by decide +kernel
theorem dX3_readNumber_17 : decode cX3_readNumber 17 = .ok (.getfield 9, 3) := by decide +kernel
theorem dX3_readNumber_20 : decode cX3_readNumber 20 = .ok (.getfield 54, 3) := by decide +kernel
theorem dX3_readNumber_23 : decode cX3_readNumber 23 = .ok (.aload_n 0, 1) := by decide +kernel
theorem dX3_readNumber_24 : decode cX3_readNumber 24 = .ok (.getfield 44, 3) := by decide +kernel
theorem dX3_readNumber_27 : decode cX3_readNumber 27 = .ok (.baload, 1) := by decide +kernel
theorem dX3_readNumber_28 : decode cX3_readNumber 28 = .ok (.bipush 48, 2) := by decide +kernel
theorem dX3_readNumber_30 : decode cX3_readNumber 30 = .ok (.if_icmp .lt 54, 3) := by decide +kernel
theorem dX3_readNumber_33 : decode cX3_readNumber 33 = .ok (.aload_n 0, 1) := by decide +kernel
theorem dX3_readNumber_34 : decode cX3_readNumber 34 = .ok (.getfield 9, 3) := by decide +kernel
theorem dX3_readNumber_37 : decode cX3_readNumber 37 = .ok (.getfield 54, 3) := by decide +kernel
theorem dX3_readNumber_40 : decode cX3_readNumber 40 = .ok (.aload_n 0, 1) := by decide +kernel
theorem dX3_readNumber_41 : decode cX3_readNumber 41 = .ok (.getfield 44, 3) := by decide +kernel
theorem dX3_readNumber_44 : decode cX3_readNumber 44 = .ok (.baload, 1) := by decide +kernel
theorem dX3_readNumber_45 : decode cX3_readNumber 45 = .ok (.bipush 57, 2) := by decide +kernel
theorem dX3_readNumber_47 : decode cX3_readNumber 47 = .ok (.if_icmp .gt 37, 3) := by decide +kernel
theorem dX3_readNumber_50 : decode cX3_readNumber 50 = .ok (.iload_n 1, 1) := by decide +kernel
theorem dX3_readNumber_51 : decode cX3_readNumber 51 = .ok (.bipush 10, 2) := by decide +kernel
theorem dX3_readNumber_53 : decode cX3_readNumber 53 = .ok (.imul, 1) := by decide +kernel
theorem dX3_readNumber_54 : decode cX3_readNumber 54 = .ok (.aload_n 0, 1) := by decide +kernel
theorem dX3_readNumber_55 : decode cX3_readNumber 55 = .ok (.getfield 9, 3) := by decide +kernel
theorem dX3_readNumber_58 : decode cX3_readNumber 58 = .ok (.getfield 54, 3) := by decide +kernel
theorem dX3_readNumber_61 : decode cX3_readNumber 61 = .ok (.aload_n 0, 1) := by decide +kernel
theorem dX3_readNumber_62 : decode cX3_readNumber 62 = .ok (.getfield 44, 3) := by decide +kernel
theorem dX3_readNumber_65 : decode cX3_readNumber 65 = .ok (.baload, 1) := by decide +kernel
theorem dX3_readNumber_66 : decode cX3_readNumber 66 = .ok (.bipush 48, 2) := by decide +kernel
theorem dX3_readNumber_68 : decode cX3_readNumber 68 = .ok (.isub, 1) := by decide +kernel
theorem dX3_readNumber_69 : decode cX3_readNumber 69 = .ok (.iadd, 1) := by decide +kernel
theorem dX3_readNumber_70 : decode cX3_readNumber 70 = .ok (.istore_n 1, 1) := by decide +kernel
theorem dX3_readNumber_71 : decode cX3_readNumber 71 = .ok (.aload_n 0, 1) := by decide +kernel
theorem dX3_readNumber_72 : decode cX3_readNumber 72 = .ok (.dup, 1) := by decide +kernel
theorem dX3_readNumber_73 : decode cX3_readNumber 73 = .ok (.getfield 44, 3) := by decide +kernel
theorem dX3_readNumber_76 : decode cX3_readNumber 76 = .ok (.iconst 1, 1) := by decide +kernel
theorem dX3_readNumber_77 : decode cX3_readNumber 77 = .ok (.iadd, 1) := by decide +kernel
theorem dX3_readNumber_78 : decode cX3_readNumber 78 = .ok (.putfield 44, 3) := by decide +kernel
theorem dX3_readNumber_81 : decode cX3_readNumber 81 = .ok (.goto (-79), 3) := by decide +kernel
theorem dX3_readNumber_84 : decode cX3_readNumber 84 = .ok (.aload_n 0, 1) := by decide +kernel
theorem dX3_readNumber_85 : decode cX3_readNumber 85 = .ok (.getfield 44, 3) := by decide +kernel
theorem dX3_readNumber_88 : decode cX3_readNumber 88 = .ok (.aload_n 0, 1) := by decide +kernel
theorem dX3_readNumber_89 : decode cX3_readNumber 89 = .ok (.getfield 9, 3) := by decide +kernel
theorem dX3_readNumber_92 : decode cX3_readNumber 92 = .ok (.getfield 50, 3) := by decide +kernel
theorem dX3_readNumber_95 : decode cX3_readNumber 95 = .ok (.if_icmp .ge 41, 3) := by decide +kernel
theorem dX3_readNumber_98 : decode cX3_readNumber 98 = .ok (.aload_n 0, 1) := by decide +kernel
theorem dX3_readNumber_99 : decode cX3_readNumber 99 = .ok (.getfield 9, 3) := by decide +kernel
theorem dX3_readNumber_102 : decode cX3_readNumber 102 = .ok (.getfield 54, 3) := by decide +kernel
theorem dX3_readNumber_105 : decode cX3_readNumber 105 = .ok (.aload_n 0, 1) := by decide +kernel
theorem dX3_readNumber_106 : decode cX3_readNumber 106 = .ok (.getfield 44, 3) := by decide +kernel
theorem dX3_readNumber_109 : decode cX3_readNumber 109 = .ok (.baload, 1) := by decide +kernel
theorem dX3_readNumber_110 : decode cX3_readNumber 110 = .ok (.bipush 97, 2) := by decide +kernel
theorem dX3_readNumber_112 : decode cX3_readNumber 112 = .ok (.if_icmp .lt 24, 3) := by decide +kernel
theorem dX3_readNumber_115 : decode cX3_readNumber 115 = .ok (.aload_n 0, 1) := by decide +kernel
theorem dX3_readNumber_116 : decode cX3_readNumber 116 = .ok (.getfield 9, 3) := by decide +kernel
theorem dX3_readNumber_119 : decode cX3_readNumber 119 = .ok (.getfield 54, 3) := by decide +kernel
theorem dX3_readNumber_122 : decode cX3_readNumber 122 = .ok (.aload_n 0, 1) := by decide +kernel
theorem dX3_readNumber_123 : decode cX3_readNumber 123 = .ok (.getfield 44, 3) := by decide +kernel
theorem dX3_readNumber_126 : decode cX3_readNumber 126 = .ok (.baload, 1) := by decide +kernel
theorem dX3_readNumber_127 : decode cX3_readNumber 127 = .ok (.bipush 122, 2) := by decide +kernel
theorem dX3_readNumber_129 : decode cX3_readNumber 129 = .ok (.if_icmp .gt 7, 3) := by decide +kernel
theorem dX3_readNumber_132 : decode cX3_readNumber 132 = .ok (.iconst 1, 1) := by decide +kernel
theorem dX3_readNumber_133 : decode cX3_readNumber 133 = .ok (.goto 4, 3) := by decide +kernel
theorem dX3_readNumber_136 : decode cX3_readNumber 136 = .ok (.iconst 0, 1) := by decide +kernel
theorem dX3_readNumber_137 : decode cX3_readNumber 137 = .ok (.istore_n 2, 1) := by decide +kernel
theorem dX3_readNumber_138 : decode cX3_readNumber 138 = .ok (.aload_n 0, 1) := by decide +kernel
theorem dX3_readNumber_139 : decode cX3_readNumber 139 = .ok (.iload_n 1, 1) := by decide +kernel
theorem dX3_readNumber_140 : decode cX3_readNumber 140 = .ok (.putfield 78, 3) := by decide +kernel
theorem dX3_readNumber_143 : decode cX3_readNumber 143 = .ok (.aload_n 0, 1) := by decide +kernel
theorem dX3_readNumber_144 : decode cX3_readNumber 144 = .ok (.iload_n 2, 1) := by decide +kernel
theorem dX3_readNumber_145 : decode cX3_readNumber 145 = .ok (.ifCond .ne 16, 3) := by decide +kernel
theorem dX3_readNumber_148 : decode cX3_readNumber 148 = .ok (.aload_n 0, 1) := by decide +kernel
theorem dX3_readNumber_149 : decode cX3_readNumber 149 = .ok (.getfield 44, 3) := by decide +kernel
theorem dX3_readNumber_152 : decode cX3_readNumber 152 = .ok (.aload_n 0, 1) := by decide +kernel
theorem dX3_readNumber_153 : decode cX3_readNumber 153 = .ok (.getfield 58, 3) := by decide +kernel
theorem dX3_readNumber_156 : decode cX3_readNumber 156 = .ok (.isub, 1) := by decide +kernel
theorem dX3_readNumber_157 : decode cX3_readNumber 157 = .ok (.iconst 4, 1) := by decide +kernel
theorem dX3_readNumber_158 : decode cX3_readNumber 158 = .ok (.if_icmp .le 7, 3) := by decide +kernel
theorem dX3_readNumber_161 : decode cX3_readNumber 161 = .ok (.iconst 1, 1) := by decide +kernel
theorem dX3_readNumber_162 : decode cX3_readNumber 162 = .ok (.goto 4, 3) := by decide +kernel
theorem dX3_readNumber_165 : decode cX3_readNumber 165 = .ok (.iconst 3, 1) := by decide +kernel
theorem dX3_readNumber_166 : decode cX3_readNumber 166 = .ok (.putfield 61, 3) := by decide +kernel
theorem dX3_readNumber_169 : decode cX3_readNumber 169 = .ok (.return_, 1) := by decide +kernel
theorem dX3_refuse_0 : decode cX3_refuse 0 = .ok (.aload_n 0, 1) := by decide +kernel
theorem dX3_refuse_1 : decode cX3_refuse 1 = .ok (.iload_n 1, 1) := by decide +kernel
theorem dX3_refuse_2 : decode cX3_refuse 2 = .ok (.aload_n 0, 1) := by decide +kernel
theorem dX3_refuse_3 : decode cX3_refuse 3 = .ok (.getfield 58, 3) := by decide +kernel
theorem dX3_refuse_6 : decode cX3_refuse 6 = .ok (.invokevirtual 81, 3) := by decide +kernel
theorem dX3_refuse_9 : decode cX3_refuse 9 = .ok (.ireturn, 1) := by decide +kernel
theorem dX3_refuseAt_0 : decode cX3_refuseAt 0 = .ok (.aload_n 0, 1) := by decide +kernel
theorem dX3_refuseAt_1 : decode cX3_refuseAt 1 = .ok (.aload_n 0, 1) := by decide +kernel
theorem dX3_refuseAt_2 : decode cX3_refuseAt 2 = .ok (.getfield 61, 3) := by decide +kernel
theorem dX3_refuseAt_5 : decode cX3_refuseAt 5 = .ok (.iconst 1, 1) := by decide +kernel
theorem dX3_refuseAt_6 : decode cX3_refuseAt 6 = .ok (.if_icmp .ne 7, 3) := by decide +kernel
theorem dX3_refuseAt_9 : decode cX3_refuseAt 9 = .ok (.iconst 1, 1) := by decide +kernel
theorem dX3_refuseAt_10 : decode cX3_refuseAt 10 = .ok (.goto 4, 3) := by decide +kernel
theorem dX3_refuseAt_13 : decode cX3_refuseAt 13 = .ok (.iload_n 1, 1) := by decide +kernel
theorem dX3_refuseAt_14 : decode cX3_refuseAt 14 = .ok (.putfield 19, 3) := by decide +kernel
theorem dX3_refuseAt_17 : decode cX3_refuseAt 17 = .ok (.aload_n 0, 1) := by decide +kernel
theorem dX3_refuseAt_18 : decode cX3_refuseAt 18 = .ok (.iload_n 2, 1) := by decide +kernel
theorem dX3_refuseAt_19 : decode cX3_refuseAt 19 = .ok (.putfield 23, 3) := by decide +kernel
theorem dX3_refuseAt_22 : decode cX3_refuseAt 22 = .ok (.iconst 0, 1) := by decide +kernel
theorem dX3_refuseAt_23 : decode cX3_refuseAt 23 = .ok (.ireturn, 1) := by decide +kernel
theorem dX3_take_0 : decode cX3_take 0 = .ok (.aload_n 0, 1) := by decide +kernel
theorem dX3_take_1 : decode cX3_take 1 = .ok (.getfield 61, 3) := by decide +kernel
theorem dX3_take_4 : decode cX3_take 4 = .ok (.iload_n 1, 1) := by decide +kernel
theorem dX3_take_5 : decode cX3_take 5 = .ok (.if_icmp .eq 9, 3) := by decide +kernel
theorem dX3_take_8 : decode cX3_take 8 = .ok (.aload_n 0, 1) := by decide +kernel
theorem dX3_take_9 : decode cX3_take 9 = .ok (.iconst 2, 1) := by decide +kernel
theorem dX3_take_10 : decode cX3_take 10 = .ok (.invokevirtual 85, 3) := by decide +kernel
theorem dX3_take_13 : decode cX3_take 13 = .ok (.ireturn, 1) := by decide +kernel
theorem dX3_take_14 : decode cX3_take 14 = .ok (.aload_n 0, 1) := by decide +kernel
theorem dX3_take_15 : decode cX3_take 15 = .ok (.invokevirtual 47, 3) := by decide +kernel
theorem dX3_take_18 : decode cX3_take 18 = .ok (.iconst 1, 1) := by decide +kernel
theorem dX3_take_19 : decode cX3_take 19 = .ok (.ireturn, 1) := by decide +kernel
theorem dX3_takeName_0 : decode cX3_takeName 0 = .ok (.aload_n 0, 1) := by decide +kernel
theorem dX3_takeName_1 : decode cX3_takeName 1 = .ok (.getfield 61, 3) := by decide +kernel
theorem dX3_takeName_4 : decode cX3_takeName 4 = .ok (.iconst 2, 1) := by decide +kernel
theorem dX3_takeName_5 : decode cX3_takeName 5 = .ok (.if_icmp .eq 9, 3) := by decide +kernel
theorem dX3_takeName_8 : decode cX3_takeName 8 = .ok (.aload_n 0, 1) := by decide +kernel
theorem dX3_takeName_9 : decode cX3_takeName 9 = .ok (.iconst 2, 1) := by decide +kernel
theorem dX3_takeName_10 : decode cX3_takeName 10 = .ok (.invokevirtual 85, 3) := by decide +kernel
theorem dX3_takeName_13 : decode cX3_takeName 13 = .ok (.ireturn, 1) := by decide +kernel
theorem dX3_takeName_14 : decode cX3_takeName 14 = .ok (.aload_n 0, 1) := by decide +kernel
theorem dX3_takeName_15 : decode cX3_takeName 15 = .ok (.aload_n 0, 1) := by decide +kernel
theorem dX3_takeName_16 : decode cX3_takeName 16 = .ok (.getfield 74, 3) := by decide +kernel
theorem dX3_takeName_19 : decode cX3_takeName 19 = .ok (.putfield 88, 3) := by decide +kernel
theorem dX3_takeName_22 : decode cX3_takeName 22 = .ok (.aload_n 0, 1) := by decide +kernel
theorem dX3_takeName_23 : decode cX3_takeName 23 = .ok (.invokevirtual 47, 3) := by decide +kernel
theorem dX3_takeName_26 : decode cX3_takeName 26 = .ok (.iconst 1, 1) := by decide +kernel
theorem dX3_takeName_27 : decode cX3_takeName 27 = .ok (.ireturn, 1) := by decide +kernel
theorem dX3_takeNewName_0 : decode cX3_takeNewName 0 = .ok (.aload_n 0, 1) := by decide +kernel
theorem dX3_takeNewName_1 : decode cX3_takeNewName 1 = .ok (.getfield 61, 3) := by decide +kernel
theorem dX3_takeNewName_4 : decode cX3_takeNewName 4 = .ok (.iconst 2, 1) := by decide +kernel
theorem dX3_takeNewName_5 : decode cX3_takeNewName 5 = .ok (.if_icmp .ne 13, 3) := by decide +kernel
theorem dX3_takeNewName_8 : decode cX3_takeNewName 8 = .ok (.iload_n 2, 1) := by decide +kernel
theorem dX3_takeNewName_9 : decode cX3_takeNewName 9 = .ok (.ifCond .lt 9, 3) := by decide +kernel
theorem dX3_takeNewName_12 : decode cX3_takeNewName 12 = .ok (.iload_n 2, 1) := by decide +kernel
theorem dX3_takeNewName_13 : decode cX3_takeNewName 13 = .ok (.aload_n 1, 1) := by decide +kernel
theorem dX3_takeNewName_14 : decode cX3_takeNewName 14 = .ok (.arraylength, 1) := by decide +kernel
theorem dX3_takeNewName_15 : decode cX3_takeNewName 15 = .ok (.if_icmp .lt 9, 3) := by decide +kernel
theorem dX3_takeNewName_18 : decode cX3_takeNewName 18 = .ok (.aload_n 0, 1) := by decide +kernel
theorem dX3_takeNewName_19 : decode cX3_takeNewName 19 = .ok (.iconst 2, 1) := by decide +kernel
theorem dX3_takeNewName_20 : decode cX3_takeNewName 20 = .ok (.invokevirtual 85, 3) := by decide +kernel
theorem dX3_takeNewName_23 : decode cX3_takeNewName 23 = .ok (.ireturn, 1) := by decide +kernel
theorem dX3_takeNewName_24 : decode cX3_takeNewName 24 = .ok (.aload_n 1, 1) := by decide +kernel
theorem dX3_takeNewName_25 : decode cX3_takeNewName 25 = .ok (.iload_n 2, 1) := by decide +kernel
theorem dX3_takeNewName_26 : decode cX3_takeNewName 26 = .ok (.aload_n 0, 1) := by decide +kernel
theorem dX3_takeNewName_27 : decode cX3_takeNewName 27 = .ok (.getfield 74, 3) := by decide +kernel
theorem dX3_takeNewName_30 : decode cX3_takeNewName 30 = .ok (.invokestatic 91, 3) := by decide +kernel
theorem dX3_takeNewName_33 : decode cX3_takeNewName 33 = .ok (.iconst (-1), 1) := by decide +kernel
theorem dX3_takeNewName_34 : decode cX3_takeNewName 34 = .ok (.if_icmp .eq 9, 3) := by decide +kernel
theorem dX3_takeNewName_37 : decode cX3_takeNewName 37 = .ok (.aload_n 0, 1) := by decide +kernel
theorem dX3_takeNewName_38 : decode cX3_takeNewName 38 = .ok (.iconst 3, 1) := by decide +kernel
theorem dX3_takeNewName_39 : decode cX3_takeNewName 39 = .ok (.invokevirtual 85, 3) := by decide +kernel
theorem dX3_takeNewName_42 : decode cX3_takeNewName 42 = .ok (.ireturn, 1) := by decide +kernel
theorem dX3_takeNewName_43 : decode cX3_takeNewName 43 = .ok (.aload_n 1, 1) := by decide +kernel
theorem dX3_takeNewName_44 : decode cX3_takeNewName 44 = .ok (.iload_n 2, 1) := by decide +kernel
theorem dX3_takeNewName_45 : decode cX3_takeNewName 45 = .ok (.aload_n 0, 1) := by decide +kernel
theorem dX3_takeNewName_46 : decode cX3_takeNewName 46 = .ok (.getfield 74, 3) := by decide +kernel
theorem dX3_takeNewName_49 : decode cX3_takeNewName 49 = .ok (.lastore, 1) := by decide +kernel
theorem dX3_takeNewName_50 : decode cX3_takeNewName 50 = .ok (.aload_n 0, 1) := by decide +kernel
theorem dX3_takeNewName_51 : decode cX3_takeNewName 51 = .ok (.invokevirtual 47, 3) := by decide +kernel
theorem dX3_takeNewName_54 : decode cX3_takeNewName 54 = .ok (.iconst 1, 1) := by decide +kernel
theorem dX3_takeNewName_55 : decode cX3_takeNewName 55 = .ok (.ireturn, 1) := by decide +kernel
theorem dX3_takeNumber_0 : decode cX3_takeNumber 0 = .ok (.aload_n 0, 1) := by decide +kernel
theorem dX3_takeNumber_1 : decode cX3_takeNumber 1 = .ok (.getfield 61, 3) := by decide +kernel
theorem dX3_takeNumber_4 : decode cX3_takeNumber 4 = .ok (.iconst 3, 1) := by decide +kernel
theorem dX3_takeNumber_5 : decode cX3_takeNumber 5 = .ok (.if_icmp .eq 9, 3) := by decide +kernel
theorem dX3_takeNumber_8 : decode cX3_takeNumber 8 = .ok (.aload_n 0, 1) := by decide +kernel
theorem dX3_takeNumber_9 : decode cX3_takeNumber 9 = .ok (.iconst 2, 1) := by decide +kernel
theorem dX3_takeNumber_10 : decode cX3_takeNumber 10 = .ok (.invokevirtual 85, 3) := by decide +kernel
theorem dX3_takeNumber_13 : decode cX3_takeNumber 13 = .ok (.ireturn, 1) := by decide +kernel
theorem dX3_takeNumber_14 : decode cX3_takeNumber 14 = .ok (.aload_n 0, 1) := by decide +kernel
theorem dX3_takeNumber_15 : decode cX3_takeNumber 15 = .ok (.getfield 78, 3) := by decide +kernel
theorem dX3_takeNumber_18 : decode cX3_takeNumber 18 = .ok (.iload_n 1, 1) := by decide +kernel
theorem dX3_takeNumber_19 : decode cX3_takeNumber 19 = .ok (.iload_n 2, 1) := by decide +kernel
theorem dX3_takeNumber_20 : decode cX3_takeNumber 20 = .ok (.invokestatic 95, 3) := by decide +kernel
theorem dX3_takeNumber_23 : decode cX3_takeNumber 23 = .ok (.ifCond .ne 9, 3) := by decide +kernel
theorem dX3_takeNumber_26 : decode cX3_takeNumber 26 = .ok (.aload_n 0, 1) := by decide +kernel
theorem dX3_takeNumber_27 : decode cX3_takeNumber 27 = .ok (.iconst 4, 1) := by decide +kernel
theorem dX3_takeNumber_28 : decode cX3_takeNumber 28 = .ok (.invokevirtual 85, 3) := by decide +kernel
theorem dX3_takeNumber_31 : decode cX3_takeNumber 31 = .ok (.ireturn, 1) := by decide +kernel
theorem dX3_takeNumber_32 : decode cX3_takeNumber 32 = .ok (.aload_n 0, 1) := by decide +kernel
theorem dX3_takeNumber_33 : decode cX3_takeNumber 33 = .ok (.aload_n 0, 1) := by decide +kernel
theorem dX3_takeNumber_34 : decode cX3_takeNumber 34 = .ok (.getfield 78, 3) := by decide +kernel
theorem dX3_takeNumber_37 : decode cX3_takeNumber 37 = .ok (.putfield 99, 3) := by decide +kernel
theorem dX3_takeNumber_40 : decode cX3_takeNumber 40 = .ok (.aload_n 0, 1) := by decide +kernel
theorem dX3_takeNumber_41 : decode cX3_takeNumber 41 = .ok (.invokevirtual 47, 3) := by decide +kernel
theorem dX3_takeNumber_44 : decode cX3_takeNumber 44 = .ok (.iconst 1, 1) := by decide +kernel
theorem dX3_takeNumber_45 : decode cX3_takeNumber 45 = .ok (.ireturn, 1) := by decide +kernel
theorem dX3_takeSigned_0 : decode cX3_takeSigned 0 = .ok (.aload_n 0, 1) := by decide +kernel
theorem dX3_takeSigned_1 : decode cX3_takeSigned 1 = .ok (.getfield 58, 3) := by decide +kernel
theorem dX3_takeSigned_4 : decode cX3_takeSigned 4 = .ok (.istore_n 3, 1) := by decide +kernel
theorem dX3_takeSigned_5 : decode cX3_takeSigned 5 = .ok (.aload_n 0, 1) := by decide +kernel
theorem dX3_takeSigned_6 : decode cX3_takeSigned 6 = .ok (.getfield 61, 3) := by decide +kernel
theorem dX3_takeSigned_9 : decode cX3_takeSigned 9 = .ok (.bipush 45, 2) := by decide +kernel
theorem dX3_takeSigned_11 : decode cX3_takeSigned 11 = .ok (.if_icmp .ne 7, 3) := by decide +kernel
theorem dX3_takeSigned_14 : decode cX3_takeSigned 14 = .ok (.iconst 1, 1) := by decide +kernel
theorem dX3_takeSigned_15 : decode cX3_takeSigned 15 = .ok (.goto 4, 3) := by decide +kernel
theorem dX3_takeSigned_18 : decode cX3_takeSigned 18 = .ok (.iconst 0, 1) := by decide +kernel
theorem dX3_takeSigned_19 : decode cX3_takeSigned 19 = .ok (.istore 4, 2) := by decide +kernel
theorem dX3_takeSigned_21 : decode cX3_takeSigned 21 = .ok (.iload 4, 2) := by decide +kernel
theorem dX3_takeSigned_23 : decode cX3_takeSigned 23 = .ok (.ifCond .eq 7, 3) := by decide +kernel
theorem dX3_takeSigned_26 : decode cX3_takeSigned 26 = .ok (.aload_n 0, 1) := by decide +kernel
theorem dX3_takeSigned_27 : decode cX3_takeSigned 27 = .ok (.invokevirtual 47, 3) := by decide +kernel
theorem dX3_takeSigned_30 : decode cX3_takeSigned 30 = .ok (.aload_n 0, 1) := by decide +kernel
theorem dX3_takeSigned_31 : decode cX3_takeSigned 31 = .ok (.getfield 61, 3) := by decide +kernel
theorem dX3_takeSigned_34 : decode cX3_takeSigned 34 = .ok (.iconst 3, 1) := by decide +kernel
theorem dX3_takeSigned_35 : decode cX3_takeSigned 35 = .ok (.if_icmp .eq 9, 3) := by decide +kernel
theorem dX3_takeSigned_38 : decode cX3_takeSigned 38 = .ok (.aload_n 0, 1) := by decide +kernel
theorem dX3_takeSigned_39 : decode cX3_takeSigned 39 = .ok (.iconst 2, 1) := by decide +kernel
theorem dX3_takeSigned_40 : decode cX3_takeSigned 40 = .ok (.invokevirtual 85, 3) := by decide +kernel
theorem dX3_takeSigned_43 : decode cX3_takeSigned 43 = .ok (.ireturn, 1) := by decide +kernel
theorem dX3_takeSigned_44 : decode cX3_takeSigned 44 = .ok (.iload 4, 2) := by decide +kernel
theorem dX3_takeSigned_46 : decode cX3_takeSigned 46 = .ok (.ifCond .eq 11, 3) := by decide +kernel
theorem dX3_takeSigned_49 : decode cX3_takeSigned 49 = .ok (.aload_n 0, 1) := by decide +kernel
theorem dX3_takeSigned_50 : decode cX3_takeSigned 50 = .ok (.getfield 78, 3) := by decide +kernel
theorem dX3_takeSigned_53 : decode cX3_takeSigned 53 = .ok (.ineg, 1) := by decide +kernel
theorem dX3_takeSigned_54 : decode cX3_takeSigned 54 = .ok (.goto 7, 3) := by decide +kernel
theorem dX3_takeSigned_57 : decode cX3_takeSigned 57 = .ok (.aload_n 0, 1) := by decide +kernel
theorem dX3_takeSigned_58 : decode cX3_takeSigned 58 = .ok (.getfield 78, 3) := by decide +kernel
theorem dX3_takeSigned_61 : decode cX3_takeSigned 61 = .ok (.istore 5, 2) := by decide +kernel
theorem dX3_takeSigned_63 : decode cX3_takeSigned 63 = .ok (.iload 5, 2) := by decide +kernel
theorem dX3_takeSigned_65 : decode cX3_takeSigned 65 = .ok (.iload_n 1, 1) := by decide +kernel
theorem dX3_takeSigned_66 : decode cX3_takeSigned 66 = .ok (.iload_n 2, 1) := by decide +kernel
theorem dX3_takeSigned_67 : decode cX3_takeSigned 67 = .ok (.invokestatic 95, 3) := by decide +kernel
theorem dX3_takeSigned_70 : decode cX3_takeSigned 70 = .ok (.ifCond .ne 10, 3) := by decide +kernel
theorem dX3_takeSigned_73 : decode cX3_takeSigned 73 = .ok (.aload_n 0, 1) := by decide +kernel
theorem dX3_takeSigned_74 : decode cX3_takeSigned 74 = .ok (.iconst 4, 1) := by decide +kernel
theorem dX3_takeSigned_75 : decode cX3_takeSigned 75 = .ok (.iload_n 3, 1) := by decide +kernel
theorem dX3_takeSigned_76 : decode cX3_takeSigned 76 = .ok (.invokevirtual 81, 3) := by decide +kernel
theorem dX3_takeSigned_79 : decode cX3_takeSigned 79 = .ok (.ireturn, 1) := by decide +kernel
theorem dX3_takeSigned_80 : decode cX3_takeSigned 80 = .ok (.aload_n 0, 1) := by decide +kernel
theorem dX3_takeSigned_81 : decode cX3_takeSigned 81 = .ok (.iload 5, 2) := by decide +kernel
theorem dX3_takeSigned_83 : decode cX3_takeSigned 83 = .ok (.putfield 99, 3) := by decide +kernel
theorem dX3_takeSigned_86 : decode cX3_takeSigned 86 = .ok (.aload_n 0, 1) := by decide +kernel
theorem dX3_takeSigned_87 : decode cX3_takeSigned 87 = .ok (.invokevirtual 47, 3) := by decide +kernel
theorem dX3_takeSigned_90 : decode cX3_takeSigned 90 = .ok (.iconst 1, 1) := by decide +kernel
theorem dX3_takeSigned_91 : decode cX3_takeSigned 91 = .ok (.ireturn, 1) := by decide +kernel
theorem dX4_init_0 : decode cX4_init 0 = .ok (.aload_n 0, 1) := by decide +kernel
theorem dX4_init_1 : decode cX4_init 1 = .ok (.invokespecial 3, 3) := by decide +kernel
theorem dX4_init_4 : decode cX4_init 4 = .ok (.aload_n 0, 1) := by decide +kernel
theorem dX4_init_5 : decode cX4_init 5 = .ok (.iconst 0, 1) := by decide +kernel
theorem dX4_init_6 : decode cX4_init 6 = .ok (.putfield 9, 3) := by decide +kernel
theorem dX4_init_9 : decode cX4_init 9 = .ok (.aload_n 0, 1) := by decide +kernel
theorem dX4_init_10 : decode cX4_init 10 = .ok (.iconst 0, 1) := by decide +kernel
theorem dX4_init_11 : decode cX4_init 11 = .ok (.putfield 15, 3) := by decide +kernel
theorem dX4_init_14 : decode cX4_init 14 = .ok (.aload_n 0, 1) := by decide +kernel
theorem dX4_init_15 : decode cX4_init 15 = .ok (.bipush 40, 2) := by decide +kernel
theorem dX4_init_17 : decode cX4_init 17 = .ok (.newarray .int, 2) := by decide +kernel
theorem dX4_init_19 : decode cX4_init 19 = .ok (.putfield 18, 3) := by decide +kernel
theorem dX4_init_22 : decode cX4_init 22 = .ok (.aload_n 0, 1) := by decide +kernel
theorem dX4_init_23 : decode cX4_init 23 = .ok (.bipush 40, 2) := by decide +kernel
theorem dX4_init_25 : decode cX4_init 25 = .ok (.newarray .int, 2) := by decide +kernel
theorem dX4_init_27 : decode cX4_init 27 = .ok (.putfield 22, 3) := by decide +kernel
theorem dX4_init_30 : decode cX4_init 30 = .ok (.aload_n 0, 1) := by decide +kernel
theorem dX4_init_31 : decode cX4_init 31 = .ok (.bipush 40, 2) := by decide +kernel
theorem dX4_init_33 : decode cX4_init 33 = .ok (.newarray .int, 2) := by decide +kernel
theorem dX4_init_35 : decode cX4_init 35 = .ok (.putfield 25, 3) := by decide +kernel
theorem dX4_init_38 : decode cX4_init 38 = .ok (.aload_n 0, 1) := by decide +kernel
theorem dX4_init_39 : decode cX4_init 39 = .ok (.bipush 40, 2) := by decide +kernel
theorem dX4_init_41 : decode cX4_init 41 = .ok (.newarray .int, 2) := by decide +kernel
theorem dX4_init_43 : decode cX4_init 43 = .ok (.putfield 28, 3) := by decide +kernel
theorem dX4_init_46 : decode cX4_init 46 = .ok (.aload_n 0, 1) := by decide +kernel
theorem dX4_init_47 : decode cX4_init 47 = .ok (.bipush 40, 2) := by decide +kernel
theorem dX4_init_49 : decode cX4_init 49 = .ok (.newarray .int, 2) := by decide +kernel
theorem dX4_init_51 : decode cX4_init 51 = .ok (.putfield 31, 3) := by decide +kernel
theorem dX4_init_54 : decode cX4_init 54 = .ok (.return_, 1) := by decide +kernel
theorem dX4_tell_0 : decode cX4_tell 0 = .ok (.iload_n 1, 1) := by decide +kernel
theorem dX4_tell_1 : decode cX4_tell 1 = .ok (.iconst 0, 1) := by decide +kernel
theorem dX4_tell_2 : decode cX4_tell 2 = .ok (.sipush 199, 3) := by decide +kernel
theorem dX4_tell_5 : decode cX4_tell 5 = .ok (.invokestatic 34, 3) := by decide +kernel
theorem dX4_tell_8 : decode cX4_tell 8 = .ok (.ifCond .eq 34, 3) := by decide +kernel
theorem dX4_tell_11 : decode cX4_tell 11 = .ok (.iload_n 2, 1) := by decide +kernel
theorem dX4_tell_12 : decode cX4_tell 12 = .ok (.iconst (-1), 1) := by decide +kernel
theorem dX4_tell_13 : decode cX4_tell 13 = .ok (.iconst 1, 1) := by decide +kernel
theorem dX4_tell_14 : decode cX4_tell 14 = .ok (.invokestatic 34, 3) := by decide +kernel
theorem dX4_tell_17 : decode cX4_tell 17 = .ok (.ifCond .eq 25, 3) := by decide +kernel
theorem dX4_tell_20 : decode cX4_tell 20 = .ok (.iload_n 3, 1) := by decide +kernel
theorem dX4_tell_21 : decode cX4_tell 21 = .ok (.sipush (-999), 3) := by decide +kernel
theorem dX4_tell_24 : decode cX4_tell 24 = .ok (.sipush 999, 3) := by decide +kernel
theorem dX4_tell_27 : decode cX4_tell 27 = .ok (.invokestatic 34, 3) := by decide +kernel
theorem dX4_tell_30 : decode cX4_tell 30 = .ok (.ifCond .eq 12, 3) := by decide +kernel
theorem dX4_tell_33 : decode cX4_tell 33 = .ok (.aload_n 0, 1) := by decide +kernel
theorem dX4_tell_34 : decode cX4_tell 34 = .ok (.getfield 9, 3) := by decide +kernel
theorem dX4_tell_37 : decode cX4_tell 37 = .ok (.bipush 40, 2) := by decide +kernel
theorem dX4_tell_39 : decode cX4_tell 39 = .ok (.if_icmp .lt 5, 3) := by decide +kernel
theorem dX4_tell_42 : decode cX4_tell 42 = .ok (.iconst (-1), 1) := by decide +kernel
theorem dX4_tell_43 : decode cX4_tell 43 = .ok (.ireturn, 1) := by decide +kernel
theorem dX4_tell_44 : decode cX4_tell 44 = .ok (.aload_n 0, 1) := by decide +kernel
theorem dX4_tell_45 : decode cX4_tell 45 = .ok (.getfield 18, 3) := by decide +kernel
theorem dX4_tell_48 : decode cX4_tell 48 = .ok (.aload_n 0, 1) := by decide +kernel
theorem dX4_tell_49 : decode cX4_tell 49 = .ok (.getfield 9, 3) := by decide +kernel
theorem dX4_tell_52 : decode cX4_tell 52 = .ok (.iload_n 1, 1) := by decide +kernel
theorem dX4_tell_53 : decode cX4_tell 53 = .ok (.iastore, 1) := by decide +kernel
theorem dX4_tell_54 : decode cX4_tell 54 = .ok (.aload_n 0, 1) := by decide +kernel
theorem dX4_tell_55 : decode cX4_tell 55 = .ok (.getfield 22, 3) := by decide +kernel
theorem dX4_tell_58 : decode cX4_tell 58 = .ok (.aload_n 0, 1) := by decide +kernel
theorem dX4_tell_59 : decode cX4_tell 59 = .ok (.getfield 9, 3) := by decide +kernel
theorem dX4_tell_62 : decode cX4_tell 62 = .ok (.iload_n 2, 1) := by decide +kernel
theorem dX4_tell_63 : decode cX4_tell 63 = .ok (.iastore, 1) := by decide +kernel
theorem dX4_tell_64 : decode cX4_tell 64 = .ok (.aload_n 0, 1) := by decide +kernel
theorem dX4_tell_65 : decode cX4_tell 65 = .ok (.getfield 25, 3) := by decide +kernel
theorem dX4_tell_68 : decode cX4_tell 68 = .ok (.aload_n 0, 1) := by decide +kernel
theorem dX4_tell_69 : decode cX4_tell 69 = .ok (.getfield 9, 3) := by decide +kernel
theorem dX4_tell_72 : decode cX4_tell 72 = .ok (.iload_n 3, 1) := by decide +kernel
theorem dX4_tell_73 : decode cX4_tell 73 = .ok (.iastore, 1) := by decide +kernel
theorem dX4_tell_74 : decode cX4_tell 74 = .ok (.aload_n 0, 1) := by decide +kernel
theorem dX4_tell_75 : decode cX4_tell 75 = .ok (.getfield 28, 3) := by decide +kernel
theorem dX4_tell_78 : decode cX4_tell 78 = .ok (.aload_n 0, 1) := by decide +kernel
theorem dX4_tell_79 : decode cX4_tell 79 = .ok (.getfield 9, 3) := by decide +kernel
theorem dX4_tell_82 : decode cX4_tell 82 = .ok (.aload_n 0, 1) := by decide +kernel
theorem dX4_tell_83 : decode cX4_tell 83 = .ok (.getfield 15, 3) := by decide +kernel
theorem dX4_tell_86 : decode cX4_tell 86 = .ok (.iastore, 1) := by decide +kernel
theorem dX4_tell_87 : decode cX4_tell 87 = .ok (.aload_n 0, 1) := by decide +kernel
theorem dX4_tell_88 : decode cX4_tell 88 = .ok (.getfield 31, 3) := by decide +kernel
theorem dX4_tell_91 : decode cX4_tell 91 = .ok (.aload_n 0, 1) := by decide +kernel
theorem dX4_tell_92 : decode cX4_tell 92 = .ok (.getfield 9, 3) := by decide +kernel
theorem dX4_tell_95 : decode cX4_tell 95 = .ok (.iconst (-1), 1) := by decide +kernel
theorem dX4_tell_96 : decode cX4_tell 96 = .ok (.iastore, 1) := by decide +kernel
theorem dX4_tell_97 : decode cX4_tell 97 = .ok (.aload_n 0, 1) := by decide +kernel
theorem dX4_tell_98 : decode cX4_tell 98 = .ok (.dup, 1) := by decide +kernel
theorem dX4_tell_99 : decode cX4_tell 99 = .ok (.getfield 9, 3) := by decide +kernel
theorem dX4_tell_102 : decode cX4_tell 102 = .ok (.iconst 1, 1) := by decide +kernel
theorem dX4_tell_103 : decode cX4_tell 103 = .ok (.iadd, 1) := by decide +kernel
theorem dX4_tell_104 : decode cX4_tell 104 = .ok (.putfield 9, 3) := by decide +kernel
theorem dX4_tell_107 : decode cX4_tell 107 = .ok (.aload_n 0, 1) := by decide +kernel
theorem dX4_tell_108 : decode cX4_tell 108 = .ok (.getfield 9, 3) := by decide +kernel
theorem dX4_tell_111 : decode cX4_tell 111 = .ok (.iconst 1, 1) := by decide +kernel
theorem dX4_tell_112 : decode cX4_tell 112 = .ok (.isub, 1) := by decide +kernel
theorem dX4_tell_113 : decode cX4_tell 113 = .ok (.ireturn, 1) := by decide +kernel
theorem dX4_takeBack_0 : decode cX4_takeBack 0 = .ok (.iload_n 1, 1) := by decide +kernel
theorem dX4_takeBack_1 : decode cX4_takeBack 1 = .ok (.iconst 0, 1) := by decide +kernel
theorem dX4_takeBack_2 : decode cX4_takeBack 2 = .ok (.aload_n 0, 1) := by decide +kernel
theorem dX4_takeBack_3 : decode cX4_takeBack 3 = .ok (.getfield 9, 3) := by decide +kernel
theorem dX4_takeBack_6 : decode cX4_takeBack 6 = .ok (.iconst 1, 1) := by decide +kernel
theorem dX4_takeBack_7 : decode cX4_takeBack 7 = .ok (.isub, 1) := by decide +kernel
theorem dX4_takeBack_8 : decode cX4_takeBack 8 = .ok (.invokestatic 34, 3) := by decide +kernel
theorem dX4_takeBack_11 : decode cX4_takeBack 11 = .ok (.ifCond .eq 13, 3) := by decide +kernel
theorem dX4_takeBack_14 : decode cX4_takeBack 14 = .ok (.aload_n 0, 1) := by decide +kernel
theorem dX4_takeBack_15 : decode cX4_takeBack 15 = .ok (.getfield 31, 3) := by decide +kernel
theorem dX4_takeBack_18 : decode cX4_takeBack 18 = .ok (.iload_n 1, 1) := by decide +kernel
theorem dX4_takeBack_19 : decode cX4_takeBack 19 = .ok (.iaload, 1) := by decide +kernel
theorem dX4_takeBack_20 : decode cX4_takeBack 20 = .ok (.iconst (-1), 1) := by decide +kernel
theorem dX4_takeBack_21 : decode cX4_takeBack 21 = .ok (.if_icmp .eq 5, 3) := by decide +kernel
theorem dX4_takeBack_24 : decode cX4_takeBack 24 = .ok (.iconst 0, 1) := by decide +kernel
theorem dX4_takeBack_25 : decode cX4_takeBack 25 = .ok (.ireturn, 1) := by decide +kernel
theorem dX4_takeBack_26 : decode cX4_takeBack 26 = .ok (.aload_n 0, 1) := by decide +kernel
theorem dX4_takeBack_27 : decode cX4_takeBack 27 = .ok (.getfield 31, 3) := by decide +kernel
theorem dX4_takeBack_30 : decode cX4_takeBack 30 = .ok (.iload_n 1, 1) := by decide +kernel
theorem dX4_takeBack_31 : decode cX4_takeBack 31 = .ok (.aload_n 0, 1) := by decide +kernel
theorem dX4_takeBack_32 : decode cX4_takeBack 32 = .ok (.getfield 15, 3) := by decide +kernel
theorem dX4_takeBack_35 : decode cX4_takeBack 35 = .ok (.iastore, 1) := by decide +kernel
theorem dX4_takeBack_36 : decode cX4_takeBack 36 = .ok (.iconst 1, 1) := by decide +kernel
theorem dX4_takeBack_37 : decode cX4_takeBack 37 = .ok (.ireturn, 1) := by decide +kernel
theorem dX4_goOn_0 : decode cX4_goOn 0 = .ok (.iload_n 1, 1) := by decide +kernel
theorem dX4_goOn_1 : decode cX4_goOn 1 = .ok (.iconst 0, 1) := by decide +kernel
theorem dX4_goOn_2 : decode cX4_goOn 2 = .ok (.sipush 1000, 3) := by decide +kernel
theorem dX4_goOn_5 : decode cX4_goOn 5 = .ok (.invokestatic 34, 3) := by decide +kernel
theorem dX4_goOn_8 : decode cX4_goOn 8 = .ok (.ifCond .eq 14, 3) := by decide +kernel
theorem dX4_goOn_11 : decode cX4_goOn 11 = .ok (.aload_n 0, 1) := by decide +kernel
theorem dX4_goOn_12 : decode cX4_goOn 12 = .ok (.getfield 15, 3) := by decide +kernel
theorem dX4_goOn_15 : decode cX4_goOn 15 = .ok (.iload_n 1, 1) := by decide +kernel
theorem dX4_goOn_16 : decode cX4_goOn 16 = .ok (.iadd, 1) := by decide +kernel
theorem dX4_goOn_17 : decode cX4_goOn 17 = .ok (.ldc 38, 2) := by decide +kernel
theorem dX4_goOn_19 : decode cX4_goOn 19 = .ok (.if_icmp .le 5, 3) := by decide +kernel
theorem dX4_goOn_22 : decode cX4_goOn 22 = .ok (.iconst (-1), 1) := by decide +kernel
theorem dX4_goOn_23 : decode cX4_goOn 23 = .ok (.ireturn, 1) := by decide +kernel
theorem dX4_goOn_24 : decode cX4_goOn 24 = .ok (.aload_n 0, 1) := by decide +kernel
theorem dX4_goOn_25 : decode cX4_goOn 25 = .ok (.dup, 1) := by decide +kernel
theorem dX4_goOn_26 : decode cX4_goOn 26 = .ok (.getfield 15, 3) := by decide +kernel
theorem dX4_goOn_29 : decode cX4_goOn 29 = .ok (.iload_n 1, 1) := by decide +kernel
theorem dX4_goOn_30 : decode cX4_goOn 30 = .ok (.iadd, 1) := by decide +kernel
theorem dX4_goOn_31 : decode cX4_goOn 31 = .ok (.putfield 15, 3) := by decide +kernel
theorem dX4_goOn_34 : decode cX4_goOn 34 = .ok (.aload_n 0, 1) := by decide +kernel
theorem dX4_goOn_35 : decode cX4_goOn 35 = .ok (.getfield 15, 3) := by decide +kernel
theorem dX4_goOn_38 : decode cX4_goOn 38 = .ok (.ireturn, 1) := by decide +kernel
theorem dX4_counts_0 : decode cX4_counts 0 = .ok (.aload_n 0, 1) := by decide +kernel
theorem dX4_counts_1 : decode cX4_counts 1 = .ok (.getfield 28, 3) := by decide +kernel
theorem dX4_counts_4 : decode cX4_counts 4 = .ok (.iload_n 1, 1) := by decide +kernel
theorem dX4_counts_5 : decode cX4_counts 5 = .ok (.iaload, 1) := by decide +kernel
theorem dX4_counts_6 : decode cX4_counts 6 = .ok (.iload_n 2, 1) := by decide +kernel
theorem dX4_counts_7 : decode cX4_counts 7 = .ok (.if_icmp .gt 27, 3) := by decide +kernel
theorem dX4_counts_10 : decode cX4_counts 10 = .ok (.aload_n 0, 1) := by decide +kernel
theorem dX4_counts_11 : decode cX4_counts 11 = .ok (.getfield 31, 3) := by decide +kernel
theorem dX4_counts_14 : decode cX4_counts 14 = .ok (.iload_n 1, 1) := by decide +kernel
theorem dX4_counts_15 : decode cX4_counts 15 = .ok (.iaload, 1) := by decide +kernel
theorem dX4_counts_16 : decode cX4_counts 16 = .ok (.iconst (-1), 1) := by decide +kernel
theorem dX4_counts_17 : decode cX4_counts 17 = .ok (.if_icmp .eq 13, 3) := by decide +kernel
theorem dX4_counts_20 : decode cX4_counts 20 = .ok (.aload_n 0, 1) := by decide +kernel
theorem dX4_counts_21 : decode cX4_counts 21 = .ok (.getfield 31, 3) := by decide +kernel
theorem dX4_counts_24 : decode cX4_counts 24 = .ok (.iload_n 1, 1) := by decide +kernel
theorem dX4_counts_25 : decode cX4_counts 25 = .ok (.iaload, 1) := by decide +kernel
theorem dX4_counts_26 : decode cX4_counts 26 = .ok (.iload_n 2, 1) := by decide +kernel
theorem dX4_counts_27 : decode cX4_counts 27 = .ok (.if_icmp .le 7, 3) := by decide +kernel
theorem dX4_counts_30 : decode cX4_counts 30 = .ok (.iconst 1, 1) := by decide +kernel
theorem dX4_counts_31 : decode cX4_counts 31 = .ok (.goto 4, 3) := by decide +kernel
theorem dX4_counts_34 : decode cX4_counts 34 = .ok (.iconst 0, 1) := by decide +kernel
theorem dX4_counts_35 : decode cX4_counts 35 = .ok (.ireturn, 1) := by decide +kernel
theorem dX4_row_0 : decode cX4_row 0 = .ok (.aload_n 2, 1) := by decide +kernel
theorem dX4_row_1 : decode cX4_row 1 = .ok (.iconst 0, 1) := by decide +kernel
theorem dX4_row_2 : decode cX4_row 2 = .ok (.iconst 1, 1) := by decide +kernel
theorem dX4_row_3 : decode cX4_row 3 = .ok (.iastore, 1) := by decide +kernel
theorem dX4_row_4 : decode cX4_row 4 = .ok (.aload_n 2, 1) := by decide +kernel
theorem dX4_row_5 : decode cX4_row 5 = .ok (.iconst 1, 1) := by decide +kernel
theorem dX4_row_6 : decode cX4_row 6 = .ok (.aload_n 0, 1) := by decide +kernel
theorem dX4_row_7 : decode cX4_row 7 = .ok (.getfield 22, 3) := by decide +kernel
theorem dX4_row_10 : decode cX4_row 10 = .ok (.iload_n 1, 1) := by decide +kernel
theorem dX4_row_11 : decode cX4_row 11 = .ok (.iaload, 1) := by decide +kernel
theorem dX4_row_12 : decode cX4_row 12 = .ok (.iastore, 1) := by decide +kernel
theorem dX4_row_13 : decode cX4_row 13 = .ok (.aload_n 2, 1) := by decide +kernel
theorem dX4_row_14 : decode cX4_row 14 = .ok (.iconst 2, 1) := by decide +kernel
theorem dX4_row_15 : decode cX4_row 15 = .ok (.aload_n 0, 1) := by decide +kernel
theorem dX4_row_16 : decode cX4_row 16 = .ok (.getfield 18, 3) := by decide +kernel
theorem dX4_row_19 : decode cX4_row 19 = .ok (.iload_n 1, 1) := by decide +kernel
theorem dX4_row_20 : decode cX4_row 20 = .ok (.iaload, 1) := by decide +kernel
theorem dX4_row_21 : decode cX4_row 21 = .ok (.iastore, 1) := by decide +kernel
theorem dX4_row_22 : decode cX4_row 22 = .ok (.aload_n 2, 1) := by decide +kernel
theorem dX4_row_23 : decode cX4_row 23 = .ok (.iconst 3, 1) := by decide +kernel
theorem dX4_row_24 : decode cX4_row 24 = .ok (.aload_n 0, 1) := by decide +kernel
theorem dX4_row_25 : decode cX4_row 25 = .ok (.getfield 22, 3) := by decide +kernel
theorem dX4_row_28 : decode cX4_row 28 = .ok (.iload_n 1, 1) := by decide +kernel
theorem dX4_row_29 : decode cX4_row 29 = .ok (.iaload, 1) := by decide +kernel
theorem dX4_row_30 : decode cX4_row 30 = .ok (.aload_n 0, 1) := by decide +kernel
theorem dX4_row_31 : decode cX4_row 31 = .ok (.getfield 22, 3) := by decide +kernel
theorem dX4_row_34 : decode cX4_row 34 = .ok (.iload_n 1, 1) := by decide +kernel
theorem dX4_row_35 : decode cX4_row 35 = .ok (.iaload, 1) := by decide +kernel
theorem dX4_row_36 : decode cX4_row 36 = .ok (.imul, 1) := by decide +kernel
theorem dX4_row_37 : decode cX4_row 37 = .ok (.iastore, 1) := by decide +kernel
theorem dX4_row_38 : decode cX4_row 38 = .ok (.aload_n 2, 1) := by decide +kernel
theorem dX4_row_39 : decode cX4_row 39 = .ok (.iconst 4, 1) := by decide +kernel
theorem dX4_row_40 : decode cX4_row 40 = .ok (.aload_n 0, 1) := by decide +kernel
theorem dX4_row_41 : decode cX4_row 41 = .ok (.getfield 25, 3) := by decide +kernel
theorem dX4_row_44 : decode cX4_row 44 = .ok (.iload_n 1, 1) := by decide +kernel
theorem dX4_row_45 : decode cX4_row 45 = .ok (.iaload, 1) := by decide +kernel
theorem dX4_row_46 : decode cX4_row 46 = .ok (.iastore, 1) := by decide +kernel
theorem dX4_row_47 : decode cX4_row 47 = .ok (.return_, 1) := by decide +kernel
theorem dX5_init_0 : decode cX5_init 0 = .ok (.aload_n 0, 1) := by decide +kernel
theorem dX5_init_1 : decode cX5_init 1 = .ok (.invokespecial 3, 3) := by decide +kernel
theorem dX5_init_4 : decode cX5_init 4 = .ok (.aload_n 0, 1) := by decide +kernel
theorem dX5_init_5 : decode cX5_init 5 = .ok (.iconst 0, 1) := by decide +kernel
theorem dX5_init_6 : decode cX5_init 6 = .ok (.putfield 9, 3) := by decide +kernel
theorem dX5_init_9 : decode cX5_init 9 = .ok (.aload_n 0, 1) := by decide +kernel
theorem dX5_init_10 : decode cX5_init 10 = .ok (.new 15, 3) := by decide +kernel
theorem dX5_init_13 : decode cX5_init 13 = .ok (.dup, 1) := by decide +kernel
theorem dX5_init_14 : decode cX5_init 14 = .ok (.invokespecial 17, 3) := by decide +kernel
theorem dX5_init_17 : decode cX5_init 17 = .ok (.putfield 18, 3) := by decide +kernel
theorem dX5_init_20 : decode cX5_init 20 = .ok (.aload_n 0, 1) := by decide +kernel
theorem dX5_init_21 : decode cX5_init 21 = .ok (.getstatic 22, 3) := by decide +kernel
theorem dX5_init_24 : decode cX5_init 24 = .ok (.invokevirtual 26, 3) := by decide +kernel
theorem dX5_init_27 : decode cX5_init 27 = .ok (.checkcast 27, 3) := by decide +kernel
theorem dX5_init_30 : decode cX5_init 30 = .ok (.putfield 31, 3) := by decide +kernel
theorem dX5_init_33 : decode cX5_init 33 = .ok (.aload_n 0, 1) := by decide +kernel
theorem dX5_init_34 : decode cX5_init 34 = .ok (.iconst 0, 1) := by decide +kernel
theorem dX5_init_35 : decode cX5_init 35 = .ok (.putfield 34, 3) := by decide +kernel
theorem dX5_init_38 : decode cX5_init 38 = .ok (.return_, 1) := by decide +kernel
theorem dX5_read_0 : decode cX5_read 0 = .ok (.aload_n 0, 1) := by decide +kernel
theorem dX5_read_1 : decode cX5_read 1 = .ok (.iconst 0, 1) := by decide +kernel
theorem dX5_read_2 : decode cX5_read 2 = .ok (.putfield 9, 3) := by decide +kernel
theorem dX5_read_5 : decode cX5_read 5 = .ok (.aload_n 0, 1) := by decide +kernel
theorem dX5_read_6 : decode cX5_read 6 = .ok (.iconst 0, 1) := by decide +kernel
theorem dX5_read_7 : decode cX5_read 7 = .ok (.putfield 34, 3) := by decide +kernel
theorem dX5_read_10 : decode cX5_read 10 = .ok (.getstatic 22, 3) := by decide +kernel
theorem dX5_read_13 : decode cX5_read 13 = .ok (.iconst 0, 1) := by decide +kernel
theorem dX5_read_14 : decode cX5_read 14 = .ok (.aload_n 0, 1) := by decide +kernel
theorem dX5_read_15 : decode cX5_read 15 = .ok (.getfield 31, 3) := by decide +kernel
theorem dX5_read_18 : decode cX5_read 18 = .ok (.iconst 0, 1) := by decide +kernel
theorem dX5_read_19 : decode cX5_read 19 = .ok (.bipush 11, 2) := by decide +kernel
theorem dX5_read_21 : decode cX5_read 21 = .ok (.invokestatic 37, 3) := by decide +kernel
theorem dX5_read_24 : decode cX5_read 24 = .ok (.aload_n 0, 1) := by decide +kernel
theorem dX5_read_25 : decode cX5_read 25 = .ok (.getfield 18, 3) := by decide +kernel
theorem dX5_read_28 : decode cX5_read 28 = .ok (.invokevirtual 43, 3) := by decide +kernel
theorem dX5_read_31 : decode cX5_read 31 = .ok (.iconst 0, 1) := by decide +kernel
theorem dX5_read_32 : decode cX5_read 32 = .ok (.istore_n 2, 1) := by decide +kernel
theorem dX5_read_33 : decode cX5_read 33 = .ok (.iload_n 2, 1) := by decide +kernel
theorem dX5_read_34 : decode cX5_read 34 = .ok (.sipush 800, 3) := by decide +kernel
theorem dX5_read_37 : decode cX5_read 37 = .ok (.if_icmp .gt 45, 3) := by decide +kernel
theorem dX5_read_40 : decode cX5_read 40 = .ok (.aload_n 1, 1) := by decide +kernel
theorem dX5_read_41 : decode cX5_read 41 = .ok (.getfield 46, 3) := by decide +kernel
theorem dX5_read_44 : decode cX5_read 44 = .ok (.ifCond .ne 12, 3) := by decide +kernel
theorem dX5_read_47 : decode cX5_read 47 = .ok (.aload_n 0, 1) := by decide +kernel
theorem dX5_read_48 : decode cX5_read 48 = .ok (.getfield 18, 3) := by decide +kernel
theorem dX5_read_51 : decode cX5_read 51 = .ok (.invokevirtual 51, 3) := by decide +kernel
theorem dX5_read_54 : decode cX5_read 54 = .ok (.iconst 1, 1) := by decide +kernel
theorem dX5_read_55 : decode cX5_read 55 = .ok (.ireturn, 1) := by decide +kernel
theorem dX5_read_56 : decode cX5_read 56 = .ok (.aload_n 0, 1) := by decide +kernel
theorem dX5_read_57 : decode cX5_read 57 = .ok (.aload_n 1, 1) := by decide +kernel
theorem dX5_read_58 : decode cX5_read 58 = .ok (.invokevirtual 54, 3) := by decide +kernel
theorem dX5_read_61 : decode cX5_read 61 = .ok (.ifCond .ne 5, 3) := by decide +kernel
theorem dX5_read_64 : decode cX5_read 64 = .ok (.iconst 0, 1) := by decide +kernel
theorem dX5_read_65 : decode cX5_read 65 = .ok (.ireturn, 1) := by decide +kernel
theorem dX5_read_66 : decode cX5_read 66 = .ok (.aload_n 0, 1) := by decide +kernel
theorem dX5_read_67 : decode cX5_read 67 = .ok (.dup, 1) := by decide +kernel
theorem dX5_read_68 : decode cX5_read 68 = .ok (.getfield 9, 3) := by decide +kernel
theorem dX5_read_71 : decode cX5_read 71 = .ok (.iconst 1, 1) := by decide +kernel
theorem dX5_read_72 : decode cX5_read 72 = .ok (.iadd, 1) := by decide +kernel
theorem dX5_read_73 : decode cX5_read 73 = .ok (.putfield 9, 3) := by decide +kernel
theorem dX5_read_76 : decode cX5_read 76 = .ok (.iinc 2 1, 3) := by decide +kernel
theorem dX5_read_79 : decode cX5_read 79 = .ok (.goto (-46), 3) := by decide +kernel
theorem dX5_read_82 : decode cX5_read 82 = .ok (.iconst 0, 1) := by decide +kernel
theorem dX5_read_83 : decode cX5_read 83 = .ok (.ireturn, 1) := by decide +kernel
theorem dX5_readLine_0 : decode cX5_readLine 0 = .ok (.aload_n 1, 1) := by decide +kernel
theorem dX5_readLine_1 : decode cX5_readLine 1 = .ok (.getfield 46, 3) := by decide +kernel
theorem dX5_readLine_4 : decode cX5_readLine 4 = .ok (.tableswitch 133 256 268 #[68, 133, 133, 96, 96, 96, 96, 96, 96, 96, 96, 109, 121], 68) := by decide +kernel
theorem dX5_readLine_72 : decode cX5_readLine 72 = .ok (.aload_n 0, 1) := by decide +kernel
theorem dX5_readLine_73 : decode cX5_readLine 73 = .ok (.aload_n 1, 1) := by decide +kernel
theorem dX5_readLine_74 : decode cX5_readLine 74 = .ok (.sipush 256, 3) := by decide +kernel
theorem dX5_readLine_77 : decode cX5_readLine 77 = .ok (.invokevirtual 58, 3) := by decide +kernel
theorem dX5_readLine_80 : decode cX5_readLine 80 = .ok (.ifCond .eq 15, 3) := by decide +kernel
theorem dX5_readLine_83 : decode cX5_readLine 83 = .ok (.aload_n 0, 1) := by decide +kernel
theorem dX5_readLine_84 : decode cX5_readLine 84 = .ok (.aload_n 1, 1) := by decide +kernel
theorem dX5_readLine_85 : decode cX5_readLine 85 = .ok (.invokevirtual 62, 3) := by decide +kernel
theorem dX5_readLine_88 : decode cX5_readLine 88 = .ok (.ifCond .eq 7, 3) := by decide +kernel
theorem dX5_readLine_91 : decode cX5_readLine 91 = .ok (.iconst 1, 1) := by decide +kernel
theorem dX5_readLine_92 : decode cX5_readLine 92 = .ok (.goto 4, 3) := by decide +kernel
theorem dX5_readLine_95 : decode cX5_readLine 95 = .ok (.iconst 0, 1) := by decide +kernel
theorem dX5_readLine_96 : decode cX5_readLine 96 = .ok (.istore_n 2, 1) := by decide +kernel
theorem dX5_readLine_97 : decode cX5_readLine 97 = .ok (.goto 46, 3) := by decide +kernel
theorem dX5_readLine_100 : decode cX5_readLine 100 = .ok (.aload_n 0, 1) := by decide +kernel
theorem dX5_readLine_101 : decode cX5_readLine 101 = .ok (.aload_n 1, 1) := by decide +kernel
theorem dX5_readLine_102 : decode cX5_readLine 102 = .ok (.aload_n 1, 1) := by decide +kernel
theorem dX5_readLine_103 : decode cX5_readLine 103 = .ok (.getfield 46, 3) := by decide +kernel
theorem dX5_readLine_106 : decode cX5_readLine 106 = .ok (.invokevirtual 58, 3) := by decide +kernel
theorem dX5_readLine_109 : decode cX5_readLine 109 = .ok (.istore_n 2, 1) := by decide +kernel
theorem dX5_readLine_110 : decode cX5_readLine 110 = .ok (.goto 33, 3) := by decide +kernel
theorem dX5_readLine_113 : decode cX5_readLine 113 = .ok (.aload_n 0, 1) := by decide +kernel
theorem dX5_readLine_114 : decode cX5_readLine 114 = .ok (.getfield 18, 3) := by decide +kernel
theorem dX5_readLine_117 : decode cX5_readLine 117 = .ok (.aload_n 1, 1) := by decide +kernel
theorem dX5_readLine_118 : decode cX5_readLine 118 = .ok (.invokevirtual 65, 3) := by decide +kernel
theorem dX5_readLine_121 : decode cX5_readLine 121 = .ok (.istore_n 2, 1) := by decide +kernel
theorem dX5_readLine_122 : decode cX5_readLine 122 = .ok (.goto 21, 3) := by decide +kernel
theorem dX5_readLine_125 : decode cX5_readLine 125 = .ok (.aload_n 0, 1) := by decide +kernel
theorem dX5_readLine_126 : decode cX5_readLine 126 = .ok (.getfield 18, 3) := by decide +kernel
theorem dX5_readLine_129 : decode cX5_readLine 129 = .ok (.aload_n 1, 1) := by decide +kernel
theorem dX5_readLine_130 : decode cX5_readLine 130 = .ok (.invokevirtual 68, 3) := by decide +kernel
theorem dX5_readLine_133 : decode cX5_readLine 133 = .ok (.istore_n 2, 1) := by decide +kernel
theorem dX5_readLine_134 : decode cX5_readLine 134 = .ok (.goto 9, 3) := by decide +kernel
theorem dX5_readLine_137 : decode cX5_readLine 137 = .ok (.aload_n 1, 1) := by decide +kernel
theorem dX5_readLine_138 : decode cX5_readLine 138 = .ok (.iconst 2, 1) := by decide +kernel
theorem dX5_readLine_139 : decode cX5_readLine 139 = .ok (.invokevirtual 71, 3) := by decide +kernel
theorem dX5_readLine_142 : decode cX5_readLine 142 = .ok (.ireturn, 1) := by decide +kernel
theorem dX5_readLine_143 : decode cX5_readLine 143 = .ok (.iload_n 2, 1) := by decide +kernel
theorem dX5_readLine_144 : decode cX5_readLine 144 = .ok (.ifCond .eq 16, 3) := by decide +kernel
theorem dX5_readLine_147 : decode cX5_readLine 147 = .ok (.aload_n 1, 1) := by decide +kernel
theorem dX5_readLine_148 : decode cX5_readLine 148 = .ok (.bipush 59, 2) := by decide +kernel
theorem dX5_readLine_150 : decode cX5_readLine 150 = .ok (.invokevirtual 75, 3) := by decide +kernel
theorem dX5_readLine_153 : decode cX5_readLine 153 = .ok (.ifCond .eq 7, 3) := by decide +kernel
theorem dX5_readLine_156 : decode cX5_readLine 156 = .ok (.iconst 1, 1) := by decide +kernel
theorem dX5_readLine_157 : decode cX5_readLine 157 = .ok (.goto 4, 3) := by decide +kernel
theorem dX5_readLine_160 : decode cX5_readLine 160 = .ok (.iconst 0, 1) := by decide +kernel
theorem dX5_readLine_161 : decode cX5_readLine 161 = .ok (.ireturn, 1) := by decide +kernel
theorem dX5_readNearAndFar_0 : decode cX5_readNearAndFar 0 = .ok (.iconst 1, 1) := by decide +kernel
theorem dX5_readNearAndFar_1 : decode cX5_readNearAndFar 1 = .ok (.istore_n 2, 1) := by decide +kernel
theorem dX5_readNearAndFar_2 : decode cX5_readNearAndFar 2 = .ok (.iconst 2, 1) := by decide +kernel
theorem dX5_readNearAndFar_3 : decode cX5_readNearAndFar 3 = .ok (.istore_n 3, 1) := by decide +kernel
theorem dX5_readNearAndFar_4 : decode cX5_readNearAndFar 4 = .ok (.aload_n 1, 1) := by decide +kernel
theorem dX5_readNearAndFar_5 : decode cX5_readNearAndFar 5 = .ok (.sipush 257, 3) := by decide +kernel
theorem dX5_readNearAndFar_8 : decode cX5_readNearAndFar 8 = .ok (.invokevirtual 75, 3) := by decide +kernel
theorem dX5_readNearAndFar_11 : decode cX5_readNearAndFar 11 = .ok (.ifCond .eq 20, 3) := by decide +kernel
theorem dX5_readNearAndFar_14 : decode cX5_readNearAndFar 14 = .ok (.aload_n 1, 1) := by decide +kernel
theorem dX5_readNearAndFar_15 : decode cX5_readNearAndFar 15 = .ok (.getstatic 78, 3) := by decide +kernel
theorem dX5_readNearAndFar_18 : decode cX5_readNearAndFar 18 = .ok (.iload_n 2, 1) := by decide +kernel
theorem dX5_readNearAndFar_19 : decode cX5_readNearAndFar 19 = .ok (.iaload, 1) := by decide +kernel
theorem dX5_readNearAndFar_20 : decode cX5_readNearAndFar 20 = .ok (.getstatic 81, 3) := by decide +kernel
theorem dX5_readNearAndFar_23 : decode cX5_readNearAndFar 23 = .ok (.iload_n 2, 1) := by decide +kernel
theorem dX5_readNearAndFar_24 : decode cX5_readNearAndFar 24 = .ok (.iaload, 1) := by decide +kernel
theorem dX5_readNearAndFar_25 : decode cX5_readNearAndFar 25 = .ok (.invokevirtual 84, 3) := by decide +kernel
theorem dX5_readNearAndFar_28 : decode cX5_readNearAndFar 28 = .ok (.ifCond .ne 5, 3) := by decide +kernel
theorem dX5_readNearAndFar_31 : decode cX5_readNearAndFar 31 = .ok (.iconst 0, 1) := by decide +kernel
theorem dX5_readNearAndFar_32 : decode cX5_readNearAndFar 32 = .ok (.ireturn, 1) := by decide +kernel
theorem dX5_readNearAndFar_33 : decode cX5_readNearAndFar 33 = .ok (.aload_n 0, 1) := by decide +kernel
theorem dX5_readNearAndFar_34 : decode cX5_readNearAndFar 34 = .ok (.getfield 31, 3) := by decide +kernel
theorem dX5_readNearAndFar_37 : decode cX5_readNearAndFar 37 = .ok (.iload_n 2, 1) := by decide +kernel
theorem dX5_readNearAndFar_38 : decode cX5_readNearAndFar 38 = .ok (.aload_n 1, 1) := by decide +kernel
theorem dX5_readNearAndFar_39 : decode cX5_readNearAndFar 39 = .ok (.getfield 88, 3) := by decide +kernel
theorem dX5_readNearAndFar_42 : decode cX5_readNearAndFar 42 = .ok (.iastore, 1) := by decide +kernel
theorem dX5_readNearAndFar_43 : decode cX5_readNearAndFar 43 = .ok (.aload_n 1, 1) := by decide +kernel
theorem dX5_readNearAndFar_44 : decode cX5_readNearAndFar 44 = .ok (.sipush 258, 3) := by decide +kernel
theorem dX5_readNearAndFar_47 : decode cX5_readNearAndFar 47 = .ok (.invokevirtual 75, 3) := by decide +kernel
theorem dX5_readNearAndFar_50 : decode cX5_readNearAndFar 50 = .ok (.ifCond .eq 23, 3) := by decide +kernel
theorem dX5_readNearAndFar_53 : decode cX5_readNearAndFar 53 = .ok (.aload_n 1, 1) := by decide +kernel
theorem dX5_readNearAndFar_54 : decode cX5_readNearAndFar 54 = .ok (.aload_n 0, 1) := by decide +kernel
theorem dX5_readNearAndFar_55 : decode cX5_readNearAndFar 55 = .ok (.getfield 31, 3) := by decide +kernel
theorem dX5_readNearAndFar_58 : decode cX5_readNearAndFar 58 = .ok (.iload_n 2, 1) := by decide +kernel
theorem dX5_readNearAndFar_59 : decode cX5_readNearAndFar 59 = .ok (.iaload, 1) := by decide +kernel
theorem dX5_readNearAndFar_60 : decode cX5_readNearAndFar 60 = .ok (.iconst 1, 1) := by decide +kernel
theorem dX5_readNearAndFar_61 : decode cX5_readNearAndFar 61 = .ok (.iadd, 1) := by decide +kernel
theorem dX5_readNearAndFar_62 : decode cX5_readNearAndFar 62 = .ok (.getstatic 81, 3) := by decide +kernel
theorem dX5_readNearAndFar_65 : decode cX5_readNearAndFar 65 = .ok (.iload_n 3, 1) := by decide +kernel
theorem dX5_readNearAndFar_66 : decode cX5_readNearAndFar 66 = .ok (.iaload, 1) := by decide +kernel
theorem dX5_readNearAndFar_67 : decode cX5_readNearAndFar 67 = .ok (.invokevirtual 84, 3) := by decide +kernel
theorem dX5_readNearAndFar_70 : decode cX5_readNearAndFar 70 = .ok (.ifCond .ne 5, 3) := by decide +kernel
theorem dX5_readNearAndFar_73 : decode cX5_readNearAndFar 73 = .ok (.iconst 0, 1) := by decide +kernel
theorem dX5_readNearAndFar_74 : decode cX5_readNearAndFar 74 = .ok (.ireturn, 1) := by decide +kernel
theorem dX5_readNearAndFar_75 : decode cX5_readNearAndFar 75 = .ok (.aload_n 0, 1) := by decide +kernel
theorem dX5_readNearAndFar_76 : decode cX5_readNearAndFar 76 = .ok (.getfield 31, 3) := by decide +kernel
theorem dX5_readNearAndFar_79 : decode cX5_readNearAndFar 79 = .ok (.iload_n 3, 1) := by decide +kernel
theorem dX5_readNearAndFar_80 : decode cX5_readNearAndFar 80 = .ok (.aload_n 1, 1) := by decide +kernel
theorem dX5_readNearAndFar_81 : decode cX5_readNearAndFar 81 = .ok (.getfield 88, 3) := by decide +kernel
theorem dX5_readNearAndFar_84 : decode cX5_readNearAndFar 84 = .ok (.iastore, 1) := by decide +kernel
theorem dX5_readNearAndFar_85 : decode cX5_readNearAndFar 85 = .ok (.iconst 1, 1) := by decide +kernel
theorem dX5_readNearAndFar_86 : decode cX5_readNearAndFar 86 = .ok (.ireturn, 1) := by decide +kernel
theorem dX5_readSetting_0 : decode cX5_readSetting 0 = .ok (.iload_n 2, 1) := by decide +kernel
theorem dX5_readSetting_1 : decode cX5_readSetting 1 = .ok (.sipush 256, 3) := by decide +kernel
theorem dX5_readSetting_4 : decode cX5_readSetting 4 = .ok (.isub, 1) := by decide +kernel
theorem dX5_readSetting_5 : decode cX5_readSetting 5 = .ok (.istore_n 3, 1) := by decide +kernel
theorem dX5_readSetting_6 : decode cX5_readSetting 6 = .ok (.iload_n 3, 1) := by decide +kernel
theorem dX5_readSetting_7 : decode cX5_readSetting 7 = .ok (.ifCond .lt 21, 3) := by decide +kernel
theorem dX5_readSetting_10 : decode cX5_readSetting 10 = .ok (.iload_n 3, 1) := by decide +kernel
theorem dX5_readSetting_11 : decode cX5_readSetting 11 = .ok (.bipush 11, 2) := by decide +kernel
theorem dX5_readSetting_13 : decode cX5_readSetting 13 = .ok (.if_icmp .ge 15, 3) := by decide +kernel
theorem dX5_readSetting_16 : decode cX5_readSetting 16 = .ok (.aload_n 0, 1) := by decide +kernel
theorem dX5_readSetting_17 : decode cX5_readSetting 17 = .ok (.getfield 34, 3) := by decide +kernel
theorem dX5_readSetting_20 : decode cX5_readSetting 20 = .ok (.iload_n 3, 1) := by decide +kernel
theorem dX5_readSetting_21 : decode cX5_readSetting 21 = .ok (.ishr, 1) := by decide +kernel
theorem dX5_readSetting_22 : decode cX5_readSetting 22 = .ok (.iconst 1, 1) := by decide +kernel
theorem dX5_readSetting_23 : decode cX5_readSetting 23 = .ok (.iand, 1) := by decide +kernel
theorem dX5_readSetting_24 : decode cX5_readSetting 24 = .ok (.iconst 1, 1) := by decide +kernel
theorem dX5_readSetting_25 : decode cX5_readSetting 25 = .ok (.if_icmp .ne 9, 3) := by decide +kernel
theorem dX5_readSetting_28 : decode cX5_readSetting 28 = .ok (.aload_n 1, 1) := by decide +kernel
theorem dX5_readSetting_29 : decode cX5_readSetting 29 = .ok (.iconst 2, 1) := by decide +kernel
theorem dX5_readSetting_30 : decode cX5_readSetting 30 = .ok (.invokevirtual 71, 3) := by decide +kernel
theorem dX5_readSetting_33 : decode cX5_readSetting 33 = .ok (.ireturn, 1) := by decide +kernel
theorem dX5_readSetting_34 : decode cX5_readSetting 34 = .ok (.aload_n 0, 1) := by decide +kernel
theorem dX5_readSetting_35 : decode cX5_readSetting 35 = .ok (.dup, 1) := by decide +kernel
theorem dX5_readSetting_36 : decode cX5_readSetting 36 = .ok (.getfield 34, 3) := by decide +kernel
theorem dX5_readSetting_39 : decode cX5_readSetting 39 = .ok (.iconst 1, 1) := by decide +kernel
theorem dX5_readSetting_40 : decode cX5_readSetting 40 = .ok (.iload_n 3, 1) := by decide +kernel
theorem dX5_readSetting_41 : decode cX5_readSetting 41 = .ok (.ishl, 1) := by decide +kernel
theorem dX5_readSetting_42 : decode cX5_readSetting 42 = .ok (.ior, 1) := by decide +kernel
theorem dX5_readSetting_43 : decode cX5_readSetting 43 = .ok (.putfield 34, 3) := by decide +kernel
theorem dX5_readSetting_46 : decode cX5_readSetting 46 = .ok (.aload_n 1, 1) := by decide +kernel
theorem dX5_readSetting_47 : decode cX5_readSetting 47 = .ok (.invokevirtual 91, 3) := by decide +kernel
theorem dX5_readSetting_50 : decode cX5_readSetting 50 = .ok (.getstatic 78, 3) := by decide +kernel
theorem dX5_readSetting_53 : decode cX5_readSetting 53 = .ok (.iload_n 3, 1) := by decide +kernel
theorem dX5_readSetting_54 : decode cX5_readSetting 54 = .ok (.iaload, 1) := by decide +kernel
theorem dX5_readSetting_55 : decode cX5_readSetting 55 = .ok (.istore 4, 2) := by decide +kernel
theorem dX5_readSetting_57 : decode cX5_readSetting 57 = .ok (.getstatic 81, 3) := by decide +kernel
theorem dX5_readSetting_60 : decode cX5_readSetting 60 = .ok (.iload_n 3, 1) := by decide +kernel
theorem dX5_readSetting_61 : decode cX5_readSetting 61 = .ok (.iaload, 1) := by decide +kernel
theorem dX5_readSetting_62 : decode cX5_readSetting 62 = .ok (.istore 5, 2) := by decide +kernel
theorem dX5_readSetting_64 : decode cX5_readSetting 64 = .ok (.iload 4, 2) := by decide +kernel
theorem dX5_readSetting_66 : decode cX5_readSetting 66 = .ok (.ifCond .ge 14, 3) := by decide +kernel
theorem dX5_readSetting_69 : decode cX5_readSetting 69 = .ok (.aload_n 1, 1) := by decide +kernel
theorem dX5_readSetting_70 : decode cX5_readSetting 70 = .ok (.iload 4, 2) := by decide +kernel
theorem dX5_readSetting_72 : decode cX5_readSetting 72 = .ok (.iload 5, 2) := by decide +kernel
theorem dX5_readSetting_74 : decode cX5_readSetting 74 = .ok (.invokevirtual 94, 3) := by decide +kernel
theorem dX5_readSetting_77 : decode cX5_readSetting 77 = .ok (.goto 11, 3) := by decide +kernel
theorem dX5_readSetting_80 : decode cX5_readSetting 80 = .ok (.aload_n 1, 1) := by decide +kernel
theorem dX5_readSetting_81 : decode cX5_readSetting 81 = .ok (.iload 4, 2) := by decide +kernel
theorem dX5_readSetting_83 : decode cX5_readSetting 83 = .ok (.iload 5, 2) := by decide +kernel
theorem dX5_readSetting_85 : decode cX5_readSetting 85 = .ok (.invokevirtual 84, 3) := by decide +kernel
theorem dX5_readSetting_88 : decode cX5_readSetting 88 = .ok (.istore 6, 2) := by decide +kernel
theorem dX5_readSetting_90 : decode cX5_readSetting 90 = .ok (.iload 6, 2) := by decide +kernel
theorem dX5_readSetting_92 : decode cX5_readSetting 92 = .ok (.ifCond .eq 13, 3) := by decide +kernel
theorem dX5_readSetting_95 : decode cX5_readSetting 95 = .ok (.aload_n 0, 1) := by decide +kernel
theorem dX5_readSetting_96 : decode cX5_readSetting 96 = .ok (.getfield 31, 3) := by decide +kernel
theorem dX5_readSetting_99 : decode cX5_readSetting 99 = .ok (.iload_n 3, 1) := by decide +kernel
theorem dX5_readSetting_100 : decode cX5_readSetting 100 = .ok (.aload_n 1, 1) := by decide +kernel
theorem dX5_readSetting_101 : decode cX5_readSetting 101 = .ok (.getfield 88, 3) := by decide +kernel
theorem dX5_readSetting_104 : decode cX5_readSetting 104 = .ok (.iastore, 1) := by decide +kernel
theorem dX5_readSetting_105 : decode cX5_readSetting 105 = .ok (.iload 6, 2) := by decide +kernel
theorem dX5_readSetting_107 : decode cX5_readSetting 107 = .ok (.ireturn, 1) := by decide +kernel
theorem dX5_setting_0 : decode cX5_setting 0 = .ok (.iload_n 1, 1) := by decide +kernel
theorem dX5_setting_1 : decode cX5_setting 1 = .ok (.sipush 256, 3) := by decide +kernel
theorem dX5_setting_4 : decode cX5_setting 4 = .ok (.isub, 1) := by decide +kernel
theorem dX5_setting_5 : decode cX5_setting 5 = .ok (.istore_n 2, 1) := by decide +kernel
theorem dX5_setting_6 : decode cX5_setting 6 = .ok (.iload_n 2, 1) := by decide +kernel
theorem dX5_setting_7 : decode cX5_setting 7 = .ok (.ifCond .lt 9, 3) := by decide +kernel
theorem dX5_setting_10 : decode cX5_setting 10 = .ok (.iload_n 2, 1) := by decide +kernel
theorem dX5_setting_11 : decode cX5_setting 11 = .ok (.bipush 11, 2) := by decide +kernel
theorem dX5_setting_13 : decode cX5_setting 13 = .ok (.if_icmp .lt 7, 3) := by decide +kernel
theorem dX5_setting_16 : decode cX5_setting 16 = .ok (.lconst 0, 1) := by decide +kernel
theorem dX5_setting_17 : decode cX5_setting 17 = .ok (.goto 10, 3) := by decide +kernel
theorem dX5_setting_20 : decode cX5_setting 20 = .ok (.aload_n 0, 1) := by decide +kernel
theorem dX5_setting_21 : decode cX5_setting 21 = .ok (.getfield 31, 3) := by decide +kernel
theorem dX5_setting_24 : decode cX5_setting 24 = .ok (.iload_n 2, 1) := by decide +kernel
theorem dX5_setting_25 : decode cX5_setting 25 = .ok (.iaload, 1) := by decide +kernel
theorem dX5_setting_26 : decode cX5_setting 26 = .ok (.i2l, 1) := by decide +kernel
theorem dX5_setting_27 : decode cX5_setting 27 = .ok (.lreturn, 1) := by decide +kernel
theorem dX5_pullUpper_0 : decode cX5_pullUpper 0 = .ok (.aload_n 0, 1) := by decide +kernel
theorem dX5_pullUpper_1 : decode cX5_pullUpper 1 = .ok (.sipush 257, 3) := by decide +kernel
theorem dX5_pullUpper_4 : decode cX5_pullUpper 4 = .ok (.invokevirtual 97, 3) := by decide +kernel
theorem dX5_pullUpper_7 : decode cX5_pullUpper 7 = .ok (.lstore_n 1, 1) := by decide +kernel
theorem dX5_pullUpper_8 : decode cX5_pullUpper 8 = .ok (.aload_n 0, 1) := by decide +kernel
theorem dX5_pullUpper_9 : decode cX5_pullUpper 9 = .ok (.sipush 258, 3) := by decide +kernel
theorem dX5_pullUpper_12 : decode cX5_pullUpper 12 = .ok (.invokevirtual 97, 3) := by decide +kernel
theorem dX5_pullUpper_15 : decode cX5_pullUpper 15 = .ok (.lstore_n 3, 1) := by decide +kernel
theorem dX5_pullUpper_16 : decode cX5_pullUpper 16 = .ok (.aload_n 0, 1) := by decide +kernel
theorem dX5_pullUpper_17 : decode cX5_pullUpper 17 = .ok (.sipush 260, 3) := by decide +kernel
theorem dX5_pullUpper_20 : decode cX5_pullUpper 20 = .ok (.invokevirtual 97, 3) := by decide +kernel
theorem dX5_pullUpper_23 : decode cX5_pullUpper 23 = .ok (.aload_n 0, 1) := by decide +kernel
theorem dX5_pullUpper_24 : decode cX5_pullUpper 24 = .ok (.sipush 256, 3) := by decide +kernel
theorem dX5_pullUpper_27 : decode cX5_pullUpper 27 = .ok (.invokevirtual 97, 3) := by decide +kernel
theorem dX5_pullUpper_30 : decode cX5_pullUpper 30 = .ok (.lmul, 1) := by decide +kernel
theorem dX5_pullUpper_31 : decode cX5_pullUpper 31 = .ok (.ldc2_w 101, 3) := by decide +kernel
theorem dX5_pullUpper_34 : decode cX5_pullUpper 34 = .ok (.aload_n 0, 1) := by decide +kernel
theorem dX5_pullUpper_35 : decode cX5_pullUpper 35 = .ok (.sipush 259, 3) := by decide +kernel
theorem dX5_pullUpper_38 : decode cX5_pullUpper 38 = .ok (.invokevirtual 97, 3) := by decide +kernel
theorem dX5_pullUpper_41 : decode cX5_pullUpper 41 = .ok (.ladd, 1) := by decide +kernel
theorem dX5_pullUpper_42 : decode cX5_pullUpper 42 = .ok (.lmul, 1) := by decide +kernel
theorem dX5_pullUpper_43 : decode cX5_pullUpper 43 = .ok (.lload_n 3, 1) := by decide +kernel
theorem dX5_pullUpper_44 : decode cX5_pullUpper 44 = .ok (.lload_n 3, 1) := by decide +kernel
theorem dX5_pullUpper_45 : decode cX5_pullUpper 45 = .ok (.lmul, 1) := by decide +kernel
theorem dX5_pullUpper_46 : decode cX5_pullUpper 46 = .ok (.lload_n 1, 1) := by decide +kernel
theorem dX5_pullUpper_47 : decode cX5_pullUpper 47 = .ok (.lload_n 1, 1) := by decide +kernel
theorem dX5_pullUpper_48 : decode cX5_pullUpper 48 = .ok (.lmul, 1) := by decide +kernel
theorem dX5_pullUpper_49 : decode cX5_pullUpper 49 = .ok (.lsub, 1) := by decide +kernel
theorem dX5_pullUpper_50 : decode cX5_pullUpper 50 = .ok (.lmul, 1) := by decide +kernel
theorem dX5_pullUpper_51 : decode cX5_pullUpper 51 = .ok (.lreturn, 1) := by decide +kernel
theorem dX5_lower_0 : decode cX5_lower 0 = .ok (.aload_n 0, 1) := by decide +kernel
theorem dX5_lower_1 : decode cX5_lower 1 = .ok (.sipush 257, 3) := by decide +kernel
theorem dX5_lower_4 : decode cX5_lower 4 = .ok (.invokevirtual 97, 3) := by decide +kernel
theorem dX5_lower_7 : decode cX5_lower 7 = .ok (.lstore_n 1, 1) := by decide +kernel
theorem dX5_lower_8 : decode cX5_lower 8 = .ok (.aload_n 0, 1) := by decide +kernel
theorem dX5_lower_9 : decode cX5_lower 9 = .ok (.sipush 258, 3) := by decide +kernel
theorem dX5_lower_12 : decode cX5_lower 12 = .ok (.invokevirtual 97, 3) := by decide +kernel
theorem dX5_lower_15 : decode cX5_lower 15 = .ok (.lstore_n 3, 1) := by decide +kernel
theorem dX5_lower_16 : decode cX5_lower 16 = .ok (.ldc2_w 101, 3) := by decide +kernel
theorem dX5_lower_19 : decode cX5_lower 19 = .ok (.lload_n 1, 1) := by decide +kernel
theorem dX5_lower_20 : decode cX5_lower 20 = .ok (.lmul, 1) := by decide +kernel
theorem dX5_lower_21 : decode cX5_lower 21 = .ok (.lload_n 1, 1) := by decide +kernel
theorem dX5_lower_22 : decode cX5_lower 22 = .ok (.lmul, 1) := by decide +kernel
theorem dX5_lower_23 : decode cX5_lower 23 = .ok (.lload_n 3, 1) := by decide +kernel
theorem dX5_lower_24 : decode cX5_lower 24 = .ok (.lmul, 1) := by decide +kernel
theorem dX5_lower_25 : decode cX5_lower 25 = .ok (.lload_n 3, 1) := by decide +kernel
theorem dX5_lower_26 : decode cX5_lower 26 = .ok (.lmul, 1) := by decide +kernel
theorem dX5_lower_27 : decode cX5_lower 27 = .ok (.lreturn, 1) := by decide +kernel
theorem dX5_restUpper_0 : decode cX5_restUpper 0 = .ok (.aload_n 0, 1) := by decide +kernel
theorem dX5_restUpper_1 : decode cX5_restUpper 1 = .ok (.sipush 263, 3) := by decide +kernel
theorem dX5_restUpper_4 : decode cX5_restUpper 4 = .ok (.invokevirtual 97, 3) := by decide +kernel
theorem dX5_restUpper_7 : decode cX5_restUpper 7 = .ok (.aload_n 0, 1) := by decide +kernel
theorem dX5_restUpper_8 : decode cX5_restUpper 8 = .ok (.sipush 266, 3) := by decide +kernel
theorem dX5_restUpper_11 : decode cX5_restUpper 11 = .ok (.invokevirtual 97, 3) := by decide +kernel
theorem dX5_restUpper_14 : decode cX5_restUpper 14 = .ok (.iload_n 1, 1) := by decide +kernel
theorem dX5_restUpper_15 : decode cX5_restUpper 15 = .ok (.i2l, 1) := by decide +kernel
theorem dX5_restUpper_16 : decode cX5_restUpper 16 = .ok (.lmul, 1) := by decide +kernel
theorem dX5_restUpper_17 : decode cX5_restUpper 17 = .ok (.iload_n 1, 1) := by decide +kernel
theorem dX5_restUpper_18 : decode cX5_restUpper 18 = .ok (.i2l, 1) := by decide +kernel
theorem dX5_restUpper_19 : decode cX5_restUpper 19 = .ok (.lmul, 1) := by decide +kernel
theorem dX5_restUpper_20 : decode cX5_restUpper 20 = .ok (.ladd, 1) := by decide +kernel
theorem dX5_restUpper_21 : decode cX5_restUpper 21 = .ok (.iload_n 1, 1) := by decide +kernel
theorem dX5_restUpper_22 : decode cX5_restUpper 22 = .ok (.i2l, 1) := by decide +kernel
theorem dX5_restUpper_23 : decode cX5_restUpper 23 = .ok (.aload_n 0, 1) := by decide +kernel
theorem dX5_restUpper_24 : decode cX5_restUpper 24 = .ok (.sipush 265, 3) := by decide +kernel
theorem dX5_restUpper_27 : decode cX5_restUpper 27 = .ok (.invokevirtual 97, 3) := by decide +kernel
theorem dX5_restUpper_30 : decode cX5_restUpper 30 = .ok (.lmul, 1) := by decide +kernel
theorem dX5_restUpper_31 : decode cX5_restUpper 31 = .ok (.ladd, 1) := by decide +kernel
theorem dX5_restUpper_32 : decode cX5_restUpper 32 = .ok (.lstore_n 3, 1) := by decide +kernel
theorem dX5_restUpper_33 : decode cX5_restUpper 33 = .ok (.aload_n 0, 1) := by decide +kernel
theorem dX5_restUpper_34 : decode cX5_restUpper 34 = .ok (.invokevirtual 103, 3) := by decide +kernel
theorem dX5_restUpper_37 : decode cX5_restUpper 37 = .ok (.ldc2_w 107, 3) := by decide +kernel
theorem dX5_restUpper_40 : decode cX5_restUpper 40 = .ok (.ldiv, 1) := by decide +kernel
theorem dX5_restUpper_41 : decode cX5_restUpper 41 = .ok (.lstore 5, 2) := by decide +kernel
theorem dX5_restUpper_43 : decode cX5_restUpper 43 = .ok (.lload_n 3, 1) := by decide +kernel
theorem dX5_restUpper_44 : decode cX5_restUpper 44 = .ok (.aload_n 0, 1) := by decide +kernel
theorem dX5_restUpper_45 : decode cX5_restUpper 45 = .ok (.invokevirtual 103, 3) := by decide +kernel
theorem dX5_restUpper_48 : decode cX5_restUpper 48 = .ok (.lmul, 1) := by decide +kernel
theorem dX5_restUpper_49 : decode cX5_restUpper 49 = .ok (.aload_n 0, 1) := by decide +kernel
theorem dX5_restUpper_50 : decode cX5_restUpper 50 = .ok (.sipush 264, 3) := by decide +kernel
theorem dX5_restUpper_53 : decode cX5_restUpper 53 = .ok (.invokevirtual 97, 3) := by decide +kernel
theorem dX5_restUpper_56 : decode cX5_restUpper 56 = .ok (.iload_n 2, 1) := by decide +kernel
theorem dX5_restUpper_57 : decode cX5_restUpper 57 = .ok (.i2l, 1) := by decide +kernel
theorem dX5_restUpper_58 : decode cX5_restUpper 58 = .ok (.lmul, 1) := by decide +kernel
theorem dX5_restUpper_59 : decode cX5_restUpper 59 = .ok (.lload 5, 2) := by decide +kernel
theorem dX5_restUpper_61 : decode cX5_restUpper 61 = .ok (.lmul, 1) := by decide +kernel
theorem dX5_restUpper_62 : decode cX5_restUpper 62 = .ok (.ladd, 1) := by decide +kernel
theorem dX5_restUpper_63 : decode cX5_restUpper 63 = .ok (.iload_n 1, 1) := by decide +kernel
theorem dX5_restUpper_64 : decode cX5_restUpper 64 = .ok (.i2l, 1) := by decide +kernel
theorem dX5_restUpper_65 : decode cX5_restUpper 65 = .ok (.aload_n 0, 1) := by decide +kernel
theorem dX5_restUpper_66 : decode cX5_restUpper 66 = .ok (.invokevirtual 109, 3) := by decide +kernel
theorem dX5_restUpper_69 : decode cX5_restUpper 69 = .ok (.lmul, 1) := by decide +kernel
theorem dX5_restUpper_70 : decode cX5_restUpper 70 = .ok (.ladd, 1) := by decide +kernel
theorem dX5_restUpper_71 : decode cX5_restUpper 71 = .ok (.lreturn, 1) := by decide +kernel
theorem dX6_init_0 : decode cX6_init 0 = .ok (.aload_n 0, 1) := by decide +kernel
theorem dX6_init_1 : decode cX6_init 1 = .ok (.invokespecial 3, 3) := by decide +kernel
theorem dX6_init_4 : decode cX6_init 4 = .ok (.aload_n 0, 1) := by decide +kernel
theorem dX6_init_5 : decode cX6_init 5 = .ok (.iconst 0, 1) := by decide +kernel
theorem dX6_init_6 : decode cX6_init 6 = .ok (.putfield 9, 3) := by decide +kernel
theorem dX6_init_9 : decode cX6_init 9 = .ok (.aload_n 0, 1) := by decide +kernel
theorem dX6_init_10 : decode cX6_init 10 = .ok (.iconst 0, 1) := by decide +kernel
theorem dX6_init_11 : decode cX6_init 11 = .ok (.putfield 15, 3) := by decide +kernel
theorem dX6_init_14 : decode cX6_init 14 = .ok (.aload_n 0, 1) := by decide +kernel
theorem dX6_init_15 : decode cX6_init 15 = .ok (.bipush 12, 2) := by decide +kernel
theorem dX6_init_17 : decode cX6_init 17 = .ok (.newarray .int, 2) := by decide +kernel
theorem dX6_init_19 : decode cX6_init 19 = .ok (.putfield 18, 3) := by decide +kernel
theorem dX6_init_22 : decode cX6_init 22 = .ok (.aload_n 0, 1) := by decide +kernel
theorem dX6_init_23 : decode cX6_init 23 = .ok (.bipush 12, 2) := by decide +kernel
theorem dX6_init_25 : decode cX6_init 25 = .ok (.newarray .int, 2) := by decide +kernel
theorem dX6_init_27 : decode cX6_init 27 = .ok (.putfield 22, 3) := by decide +kernel
theorem dX6_init_30 : decode cX6_init 30 = .ok (.aload_n 0, 1) := by decide +kernel
theorem dX6_init_31 : decode cX6_init 31 = .ok (.bipush 12, 2) := by decide +kernel
theorem dX6_init_33 : decode cX6_init 33 = .ok (.newarray .long, 2) := by decide +kernel
theorem dX6_init_35 : decode cX6_init 35 = .ok (.putfield 25, 3) := by decide +kernel
theorem dX6_init_38 : decode cX6_init 38 = .ok (.aload_n 0, 1) := by decide +kernel
theorem dX6_init_39 : decode cX6_init 39 = .ok (.bipush 12, 2) := by decide +kernel
theorem dX6_init_41 : decode cX6_init 41 = .ok (.newarray .int, 2) := by decide +kernel
theorem dX6_init_43 : decode cX6_init 43 = .ok (.putfield 29, 3) := by decide +kernel
theorem dX6_init_46 : decode cX6_init 46 = .ok (.aload_n 0, 1) := by decide +kernel
theorem dX6_init_47 : decode cX6_init 47 = .ok (.bipush 13, 2) := by decide +kernel
theorem dX6_init_49 : decode cX6_init 49 = .ok (.newarray .int, 2) := by decide +kernel
theorem dX6_init_51 : decode cX6_init 51 = .ok (.putfield 32, 3) := by decide +kernel
theorem dX6_init_54 : decode cX6_init 54 = .ok (.aload_n 0, 1) := by decide +kernel
theorem dX6_init_55 : decode cX6_init 55 = .ok (.bipush 120, 2) := by decide +kernel
theorem dX6_init_57 : decode cX6_init 57 = .ok (.newarray .int, 2) := by decide +kernel
theorem dX6_init_59 : decode cX6_init 59 = .ok (.putfield 35, 3) := by decide +kernel
theorem dX6_init_62 : decode cX6_init 62 = .ok (.aload_n 0, 1) := by decide +kernel
theorem dX6_init_63 : decode cX6_init 63 = .ok (.bipush 120, 2) := by decide +kernel
theorem dX6_init_65 : decode cX6_init 65 = .ok (.newarray .int, 2) := by decide +kernel
theorem dX6_init_67 : decode cX6_init 67 = .ok (.putfield 38, 3) := by decide +kernel
theorem dX6_init_70 : decode cX6_init 70 = .ok (.aload_n 0, 1) := by decide +kernel
theorem dX6_init_71 : decode cX6_init 71 = .ok (.bipush 120, 2) := by decide +kernel
theorem dX6_init_73 : decode cX6_init 73 = .ok (.newarray .int, 2) := by decide +kernel
theorem dX6_init_75 : decode cX6_init 75 = .ok (.putfield 41, 3) := by decide +kernel
theorem dX6_init_78 : decode cX6_init 78 = .ok (.aload_n 0, 1) := by decide +kernel
theorem dX6_init_79 : decode cX6_init 79 = .ok (.bipush 12, 2) := by decide +kernel
theorem dX6_init_81 : decode cX6_init 81 = .ok (.newarray .int, 2) := by decide +kernel
theorem dX6_init_83 : decode cX6_init 83 = .ok (.putfield 44, 3) := by decide +kernel
theorem dX6_init_86 : decode cX6_init 86 = .ok (.aload_n 0, 1) := by decide +kernel
theorem dX6_init_87 : decode cX6_init 87 = .ok (.iconst 0, 1) := by decide +kernel
theorem dX6_init_88 : decode cX6_init 88 = .ok (.putfield 47, 3) := by decide +kernel
theorem dX6_init_91 : decode cX6_init 91 = .ok (.return_, 1) := by decide +kernel
theorem dX6_read_0 : decode cX6_read 0 = .ok (.aload_n 0, 1) := by decide +kernel
theorem dX6_read_1 : decode cX6_read 1 = .ok (.iconst 0, 1) := by decide +kernel
theorem dX6_read_2 : decode cX6_read 2 = .ok (.putfield 9, 3) := by decide +kernel
theorem dX6_read_5 : decode cX6_read 5 = .ok (.aload_n 0, 1) := by decide +kernel
theorem dX6_read_6 : decode cX6_read 6 = .ok (.iconst 0, 1) := by decide +kernel
theorem dX6_read_7 : decode cX6_read 7 = .ok (.putfield 15, 3) := by decide +kernel
theorem dX6_read_10 : decode cX6_read 10 = .ok (.aload_n 0, 1) := by decide +kernel
theorem dX6_read_11 : decode cX6_read 11 = .ok (.iconst 0, 1) := by decide +kernel
theorem dX6_read_12 : decode cX6_read 12 = .ok (.putfield 47, 3) := by decide +kernel
theorem dX6_read_15 : decode cX6_read 15 = .ok (.iconst 0, 1) := by decide +kernel
theorem dX6_read_16 : decode cX6_read 16 = .ok (.istore_n 2, 1) := by decide +kernel
theorem dX6_read_17 : decode cX6_read 17 = .ok (.iload_n 2, 1) := by decide +kernel
theorem dX6_read_18 : decode cX6_read 18 = .ok (.bipush 12, 2) := by decide +kernel
theorem dX6_read_20 : decode cX6_read 20 = .ok (.if_icmp .gt 32, 3) := by decide +kernel
theorem dX6_read_23 : decode cX6_read 23 = .ok (.aload_n 1, 1) := by decide +kernel
theorem dX6_read_24 : decode cX6_read 24 = .ok (.getfield 50, 3) := by decide +kernel
theorem dX6_read_27 : decode cX6_read 27 = .ok (.ifCond .ne 9, 3) := by decide +kernel
theorem dX6_read_30 : decode cX6_read 30 = .ok (.aload_n 0, 1) := by decide +kernel
theorem dX6_read_31 : decode cX6_read 31 = .ok (.invokevirtual 55, 3) := by decide +kernel
theorem dX6_read_34 : decode cX6_read 34 = .ok (.iconst 1, 1) := by decide +kernel
theorem dX6_read_35 : decode cX6_read 35 = .ok (.ireturn, 1) := by decide +kernel
theorem dX6_read_36 : decode cX6_read 36 = .ok (.aload_n 0, 1) := by decide +kernel
theorem dX6_read_37 : decode cX6_read 37 = .ok (.aload_n 1, 1) := by decide +kernel
theorem dX6_read_38 : decode cX6_read 38 = .ok (.invokevirtual 58, 3) := by decide +kernel
theorem dX6_read_41 : decode cX6_read 41 = .ok (.ifCond .ne 5, 3) := by decide +kernel
theorem dX6_read_44 : decode cX6_read 44 = .ok (.iconst 0, 1) := by decide +kernel
theorem dX6_read_45 : decode cX6_read 45 = .ok (.ireturn, 1) := by decide +kernel
theorem dX6_read_46 : decode cX6_read 46 = .ok (.iinc 2 1, 3) := by decide +kernel
theorem dX6_read_49 : decode cX6_read 49 = .ok (.goto (-32), 3) := by decide +kernel
theorem dX6_read_52 : decode cX6_read 52 = .ok (.iconst 0, 1) := by decide +kernel
theorem dX6_read_53 : decode cX6_read 53 = .ok (.ireturn, 1) := by decide +kernel
theorem dX6_readLine_0 : decode cX6_readLine 0 = .ok (.aload_n 0, 1) := by decide +kernel
theorem dX6_readLine_1 : decode cX6_readLine 1 = .ok (.getfield 9, 3) := by decide +kernel
theorem dX6_readLine_4 : decode cX6_readLine 4 = .ok (.bipush 12, 2) := by decide +kernel
theorem dX6_readLine_6 : decode cX6_readLine 6 = .ok (.if_icmp .lt 9, 3) := by decide +kernel
theorem dX6_readLine_9 : decode cX6_readLine 9 = .ok (.aload_n 1, 1) := by decide +kernel
theorem dX6_readLine_10 : decode cX6_readLine 10 = .ok (.iconst 2, 1) := by decide +kernel
theorem dX6_readLine_11 : decode cX6_readLine 11 = .ok (.invokevirtual 62, 3) := by decide +kernel
theorem dX6_readLine_14 : decode cX6_readLine 14 = .ok (.ireturn, 1) := by decide +kernel
theorem dX6_readLine_15 : decode cX6_readLine 15 = .ok (.aload_n 1, 1) := by decide +kernel
theorem dX6_readLine_16 : decode cX6_readLine 16 = .ok (.aload_n 0, 1) := by decide +kernel
theorem dX6_readLine_17 : decode cX6_readLine 17 = .ok (.getfield 25, 3) := by decide +kernel
theorem dX6_readLine_20 : decode cX6_readLine 20 = .ok (.aload_n 0, 1) := by decide +kernel
theorem dX6_readLine_21 : decode cX6_readLine 21 = .ok (.getfield 9, 3) := by decide +kernel
theorem dX6_readLine_24 : decode cX6_readLine 24 = .ok (.invokevirtual 66, 3) := by decide +kernel
theorem dX6_readLine_27 : decode cX6_readLine 27 = .ok (.ifCond .eq 13, 3) := by decide +kernel
theorem dX6_readLine_30 : decode cX6_readLine 30 = .ok (.aload_n 1, 1) := by decide +kernel
theorem dX6_readLine_31 : decode cX6_readLine 31 = .ok (.sipush 274, 3) := by decide +kernel
theorem dX6_readLine_34 : decode cX6_readLine 34 = .ok (.invokevirtual 70, 3) := by decide +kernel
theorem dX6_readLine_37 : decode cX6_readLine 37 = .ok (.ifCond .ne 5, 3) := by decide +kernel
theorem dX6_readLine_40 : decode cX6_readLine 40 = .ok (.iconst 0, 1) := by decide +kernel
theorem dX6_readLine_41 : decode cX6_readLine 41 = .ok (.ireturn, 1) := by decide +kernel
theorem dX6_readLine_42 : decode cX6_readLine 42 = .ok (.aload_n 0, 1) := by decide +kernel
theorem dX6_readLine_43 : decode cX6_readLine 43 = .ok (.getfield 32, 3) := by decide +kernel
theorem dX6_readLine_46 : decode cX6_readLine 46 = .ok (.aload_n 0, 1) := by decide +kernel
theorem dX6_readLine_47 : decode cX6_readLine 47 = .ok (.getfield 9, 3) := by decide +kernel
theorem dX6_readLine_50 : decode cX6_readLine 50 = .ok (.aload_n 0, 1) := by decide +kernel
theorem dX6_readLine_51 : decode cX6_readLine 51 = .ok (.getfield 47, 3) := by decide +kernel
theorem dX6_readLine_54 : decode cX6_readLine 54 = .ok (.iastore, 1) := by decide +kernel
theorem dX6_readLine_55 : decode cX6_readLine 55 = .ok (.aload_n 0, 1) := by decide +kernel
theorem dX6_readLine_56 : decode cX6_readLine 56 = .ok (.aload_n 1, 1) := by decide +kernel
theorem dX6_readLine_57 : decode cX6_readLine 57 = .ok (.iconst 0, 1) := by decide +kernel
theorem dX6_readLine_58 : decode cX6_readLine 58 = .ok (.invokevirtual 73, 3) := by decide +kernel
theorem dX6_readLine_61 : decode cX6_readLine 61 = .ok (.ifCond .ne 5, 3) := by decide +kernel
theorem dX6_readLine_64 : decode cX6_readLine 64 = .ok (.iconst 0, 1) := by decide +kernel
theorem dX6_readLine_65 : decode cX6_readLine 65 = .ok (.ireturn, 1) := by decide +kernel
theorem dX6_readLine_66 : decode cX6_readLine 66 = .ok (.aload_n 1, 1) := by decide +kernel
theorem dX6_readLine_67 : decode cX6_readLine 67 = .ok (.sipush 275, 3) := by decide +kernel
theorem dX6_readLine_70 : decode cX6_readLine 70 = .ok (.invokevirtual 70, 3) := by decide +kernel
theorem dX6_readLine_73 : decode cX6_readLine 73 = .ok (.ifCond .eq 16, 3) := by decide +kernel
theorem dX6_readLine_76 : decode cX6_readLine 76 = .ok (.aload_n 1, 1) := by decide +kernel
theorem dX6_readLine_77 : decode cX6_readLine 77 = .ok (.sipush (-9999), 3) := by decide +kernel
theorem dX6_readLine_80 : decode cX6_readLine 80 = .ok (.sipush 9999, 3) := by decide +kernel
theorem dX6_readLine_83 : decode cX6_readLine 83 = .ok (.invokevirtual 77, 3) := by decide +kernel
theorem dX6_readLine_86 : decode cX6_readLine 86 = .ok (.ifCond .ne 5, 3) := by decide +kernel
theorem dX6_readLine_89 : decode cX6_readLine 89 = .ok (.iconst 0, 1) := by decide +kernel
theorem dX6_readLine_90 : decode cX6_readLine 90 = .ok (.ireturn, 1) := by decide +kernel
theorem dX6_readLine_91 : decode cX6_readLine 91 = .ok (.aload_n 0, 1) := by decide +kernel
theorem dX6_readLine_92 : decode cX6_readLine 92 = .ok (.getfield 29, 3) := by decide +kernel
theorem dX6_readLine_95 : decode cX6_readLine 95 = .ok (.aload_n 0, 1) := by decide +kernel
theorem dX6_readLine_96 : decode cX6_readLine 96 = .ok (.getfield 9, 3) := by decide +kernel
theorem dX6_readLine_99 : decode cX6_readLine 99 = .ok (.aload_n 1, 1) := by decide +kernel
theorem dX6_readLine_100 : decode cX6_readLine 100 = .ok (.getfield 81, 3) := by decide +kernel
theorem dX6_readLine_103 : decode cX6_readLine 103 = .ok (.iastore, 1) := by decide +kernel
theorem dX6_readLine_104 : decode cX6_readLine 104 = .ok (.aload_n 0, 1) := by decide +kernel
theorem dX6_readLine_105 : decode cX6_readLine 105 = .ok (.dup, 1) := by decide +kernel
theorem dX6_readLine_106 : decode cX6_readLine 106 = .ok (.getfield 9, 3) := by decide +kernel
theorem dX6_readLine_109 : decode cX6_readLine 109 = .ok (.iconst 1, 1) := by decide +kernel
theorem dX6_readLine_110 : decode cX6_readLine 110 = .ok (.iadd, 1) := by decide +kernel
theorem dX6_readLine_111 : decode cX6_readLine 111 = .ok (.putfield 9, 3) := by decide +kernel
theorem dX6_readLine_114 : decode cX6_readLine 114 = .ok (.aload_n 0, 1) := by decide +kernel
theorem dX6_readLine_115 : decode cX6_readLine 115 = .ok (.getfield 32, 3) := by decide +kernel
theorem dX6_readLine_118 : decode cX6_readLine 118 = .ok (.aload_n 0, 1) := by decide +kernel
theorem dX6_readLine_119 : decode cX6_readLine 119 = .ok (.getfield 9, 3) := by decide +kernel
theorem dX6_readLine_122 : decode cX6_readLine 122 = .ok (.aload_n 0, 1) := by decide +kernel
theorem dX6_readLine_123 : decode cX6_readLine 123 = .ok (.getfield 47, 3) := by decide +kernel
theorem dX6_readLine_126 : decode cX6_readLine 126 = .ok (.iastore, 1) := by decide +kernel
theorem dX6_readLine_127 : decode cX6_readLine 127 = .ok (.aload_n 1, 1) := by decide +kernel
theorem dX6_readLine_128 : decode cX6_readLine 128 = .ok (.bipush 59, 2) := by decide +kernel
theorem dX6_readLine_130 : decode cX6_readLine 130 = .ok (.invokevirtual 70, 3) := by decide +kernel
theorem dX6_readLine_133 : decode cX6_readLine 133 = .ok (.ireturn, 1) := by decide +kernel
theorem dX6_readExpression_0 : decode cX6_readExpression 0 = .ok (.iconst 0, 1) := by decide +kernel
theorem dX6_readExpression_1 : decode cX6_readExpression 1 = .ok (.istore_n 3, 1) := by decide +kernel
theorem dX6_readExpression_2 : decode cX6_readExpression 2 = .ok (.iconst 0, 1) := by decide +kernel
theorem dX6_readExpression_3 : decode cX6_readExpression 3 = .ok (.istore 4, 2) := by decide +kernel
theorem dX6_readExpression_5 : decode cX6_readExpression 5 = .ok (.iconst 0, 1) := by decide +kernel
theorem dX6_readExpression_6 : decode cX6_readExpression 6 = .ok (.istore 5, 2) := by decide +kernel
theorem dX6_readExpression_8 : decode cX6_readExpression 8 = .ok (.iload 5, 2) := by decide +kernel
theorem dX6_readExpression_10 : decode cX6_readExpression 10 = .ok (.bipush 60, 2) := by decide +kernel
theorem dX6_readExpression_12 : decode cX6_readExpression 12 = .ok (.if_icmp .gt 90, 3) := by decide +kernel
theorem dX6_readExpression_15 : decode cX6_readExpression 15 = .ok (.aload_n 0, 1) := by decide +kernel
theorem dX6_readExpression_16 : decode cX6_readExpression 16 = .ok (.aload_n 1, 1) := by decide +kernel
theorem dX6_readExpression_17 : decode cX6_readExpression 17 = .ok (.iload_n 2, 1) := by decide +kernel
theorem dX6_readExpression_18 : decode cX6_readExpression 18 = .ok (.invokevirtual 84, 3) := by decide +kernel
theorem dX6_readExpression_21 : decode cX6_readExpression 21 = .ok (.ifCond .ne 5, 3) := by decide +kernel
theorem dX6_readExpression_24 : decode cX6_readExpression 24 = .ok (.iconst 0, 1) := by decide +kernel
theorem dX6_readExpression_25 : decode cX6_readExpression 25 = .ok (.ireturn, 1) := by decide +kernel
theorem dX6_readExpression_26 : decode cX6_readExpression 26 = .ok (.aload_n 0, 1) := by decide +kernel
theorem dX6_readExpression_27 : decode cX6_readExpression 27 = .ok (.iload 4, 2) := by decide +kernel
theorem dX6_readExpression_29 : decode cX6_readExpression 29 = .ok (.invokevirtual 87, 3) := by decide +kernel
theorem dX6_readExpression_32 : decode cX6_readExpression 32 = .ok (.iconst 0, 1) := by decide +kernel
theorem dX6_readExpression_33 : decode cX6_readExpression 33 = .ok (.istore 4, 2) := by decide +kernel
theorem dX6_readExpression_35 : decode cX6_readExpression 35 = .ok (.aload_n 1, 1) := by decide +kernel
theorem dX6_readExpression_36 : decode cX6_readExpression 36 = .ok (.getfield 50, 3) := by decide +kernel
theorem dX6_readExpression_39 : decode cX6_readExpression 39 = .ok (.bipush 42, 2) := by decide +kernel
theorem dX6_readExpression_41 : decode cX6_readExpression 41 = .ok (.if_icmp .eq 12, 3) := by decide +kernel
theorem dX6_readExpression_44 : decode cX6_readExpression 44 = .ok (.aload_n 1, 1) := by decide +kernel
theorem dX6_readExpression_45 : decode cX6_readExpression 45 = .ok (.getfield 50, 3) := by decide +kernel
theorem dX6_readExpression_48 : decode cX6_readExpression 48 = .ok (.bipush 47, 2) := by decide +kernel
theorem dX6_readExpression_50 : decode cX6_readExpression 50 = .ok (.if_icmp .ne 12, 3) := by decide +kernel
theorem dX6_readExpression_53 : decode cX6_readExpression 53 = .ok (.aload_n 1, 1) := by decide +kernel
theorem dX6_readExpression_54 : decode cX6_readExpression 54 = .ok (.getfield 50, 3) := by decide +kernel
theorem dX6_readExpression_57 : decode cX6_readExpression 57 = .ok (.istore 4, 2) := by decide +kernel
theorem dX6_readExpression_59 : decode cX6_readExpression 59 = .ok (.goto 33, 3) := by decide +kernel
theorem dX6_readExpression_62 : decode cX6_readExpression 62 = .ok (.aload_n 0, 1) := by decide +kernel
theorem dX6_readExpression_63 : decode cX6_readExpression 63 = .ok (.iload_n 3, 1) := by decide +kernel
theorem dX6_readExpression_64 : decode cX6_readExpression 64 = .ok (.invokevirtual 87, 3) := by decide +kernel
theorem dX6_readExpression_67 : decode cX6_readExpression 67 = .ok (.aload_n 1, 1) := by decide +kernel
theorem dX6_readExpression_68 : decode cX6_readExpression 68 = .ok (.getfield 50, 3) := by decide +kernel
theorem dX6_readExpression_71 : decode cX6_readExpression 71 = .ok (.bipush 43, 2) := by decide +kernel
theorem dX6_readExpression_73 : decode cX6_readExpression 73 = .ok (.if_icmp .eq 14, 3) := by decide +kernel
theorem dX6_readExpression_76 : decode cX6_readExpression 76 = .ok (.aload_n 1, 1) := by decide +kernel
theorem dX6_readExpression_77 : decode cX6_readExpression 77 = .ok (.getfield 50, 3) := by decide +kernel
theorem dX6_readExpression_80 : decode cX6_readExpression 80 = .ok (.bipush 45, 2) := by decide +kernel
theorem dX6_readExpression_82 : decode cX6_readExpression 82 = .ok (.if_icmp .eq 5, 3) := by decide +kernel
theorem dX6_readExpression_85 : decode cX6_readExpression 85 = .ok (.iconst 1, 1) := by decide +kernel
theorem dX6_readExpression_86 : decode cX6_readExpression 86 = .ok (.ireturn, 1) := by decide +kernel
theorem dX6_readExpression_87 : decode cX6_readExpression 87 = .ok (.aload_n 1, 1) := by decide +kernel
theorem dX6_readExpression_88 : decode cX6_readExpression 88 = .ok (.getfield 50, 3) := by decide +kernel
theorem dX6_readExpression_91 : decode cX6_readExpression 91 = .ok (.istore_n 3, 1) := by decide +kernel
theorem dX6_readExpression_92 : decode cX6_readExpression 92 = .ok (.aload_n 1, 1) := by decide +kernel
theorem dX6_readExpression_93 : decode cX6_readExpression 93 = .ok (.invokevirtual 91, 3) := by decide +kernel
theorem dX6_readExpression_96 : decode cX6_readExpression 96 = .ok (.iinc 5 1, 3) := by decide +kernel
theorem dX6_readExpression_99 : decode cX6_readExpression 99 = .ok (.goto (-91), 3) := by decide +kernel
theorem dX6_readExpression_102 : decode cX6_readExpression 102 = .ok (.iconst 0, 1) := by decide +kernel
theorem dX6_readExpression_103 : decode cX6_readExpression 103 = .ok (.ireturn, 1) := by decide +kernel
theorem dX6_addSignStep_0 : decode cX6_addSignStep 0 = .ok (.iload_n 1, 1) := by decide +kernel
theorem dX6_addSignStep_1 : decode cX6_addSignStep 1 = .ok (.ifCond .eq 9, 3) := by decide +kernel
theorem dX6_addSignStep_4 : decode cX6_addSignStep 4 = .ok (.aload_n 0, 1) := by decide +kernel
theorem dX6_addSignStep_5 : decode cX6_addSignStep 5 = .ok (.iload_n 1, 1) := by decide +kernel
theorem dX6_addSignStep_6 : decode cX6_addSignStep 6 = .ok (.iconst 0, 1) := by decide +kernel
theorem dX6_addSignStep_7 : decode cX6_addSignStep 7 = .ok (.invokevirtual 94, 3) := by decide +kernel
theorem dX6_addSignStep_10 : decode cX6_addSignStep 10 = .ok (.return_, 1) := by decide +kernel
theorem dX6_readUnit_0 : decode cX6_readUnit 0 = .ok (.aload_n 1, 1) := by decide +kernel
theorem dX6_readUnit_1 : decode cX6_readUnit 1 = .ok (.getfield 50, 3) := by decide +kernel
theorem dX6_readUnit_4 : decode cX6_readUnit 4 = .ok (.bipush 40, 2) := by decide +kernel
theorem dX6_readUnit_6 : decode cX6_readUnit 6 = .ok (.if_icmp .ne 7, 3) := by decide +kernel
theorem dX6_readUnit_9 : decode cX6_readUnit 9 = .ok (.iconst 1, 1) := by decide +kernel
theorem dX6_readUnit_10 : decode cX6_readUnit 10 = .ok (.goto 4, 3) := by decide +kernel
theorem dX6_readUnit_13 : decode cX6_readUnit 13 = .ok (.iconst 0, 1) := by decide +kernel
theorem dX6_readUnit_14 : decode cX6_readUnit 14 = .ok (.istore_n 3, 1) := by decide +kernel
theorem dX6_readUnit_15 : decode cX6_readUnit 15 = .ok (.iload_n 3, 1) := by decide +kernel
theorem dX6_readUnit_16 : decode cX6_readUnit 16 = .ok (.ifCond .ne 25, 3) := by decide +kernel
theorem dX6_readUnit_19 : decode cX6_readUnit 19 = .ok (.aload_n 1, 1) := by decide +kernel
theorem dX6_readUnit_20 : decode cX6_readUnit 20 = .ok (.getfield 50, 3) := by decide +kernel
theorem dX6_readUnit_23 : decode cX6_readUnit 23 = .ok (.iconst 3, 1) := by decide +kernel
theorem dX6_readUnit_24 : decode cX6_readUnit 24 = .ok (.if_icmp .eq 17, 3) := by decide +kernel
theorem dX6_readUnit_27 : decode cX6_readUnit 27 = .ok (.aload_n 1, 1) := by decide +kernel
theorem dX6_readUnit_28 : decode cX6_readUnit 28 = .ok (.getfield 50, 3) := by decide +kernel
theorem dX6_readUnit_31 : decode cX6_readUnit 31 = .ok (.iconst 2, 1) := by decide +kernel
theorem dX6_readUnit_32 : decode cX6_readUnit 32 = .ok (.if_icmp .eq 9, 3) := by decide +kernel
theorem dX6_readUnit_35 : decode cX6_readUnit 35 = .ok (.aload_n 1, 1) := by decide +kernel
theorem dX6_readUnit_36 : decode cX6_readUnit 36 = .ok (.iconst 2, 1) := by decide +kernel
theorem dX6_readUnit_37 : decode cX6_readUnit 37 = .ok (.invokevirtual 62, 3) := by decide +kernel
theorem dX6_readUnit_40 : decode cX6_readUnit 40 = .ok (.ireturn, 1) := by decide +kernel
theorem dX6_readUnit_41 : decode cX6_readUnit 41 = .ok (.aload_n 0, 1) := by decide +kernel
theorem dX6_readUnit_42 : decode cX6_readUnit 42 = .ok (.getfield 15, 3) := by decide +kernel
theorem dX6_readUnit_45 : decode cX6_readUnit 45 = .ok (.bipush 60, 2) := by decide +kernel
theorem dX6_readUnit_47 : decode cX6_readUnit 47 = .ok (.if_icmp .ge 13, 3) := by decide +kernel
theorem dX6_readUnit_50 : decode cX6_readUnit 50 = .ok (.iload_n 3, 1) := by decide +kernel
theorem dX6_readUnit_51 : decode cX6_readUnit 51 = .ok (.ifCond .eq 15, 3) := by decide +kernel
theorem dX6_readUnit_54 : decode cX6_readUnit 54 = .ok (.iload_n 2, 1) := by decide +kernel
theorem dX6_readUnit_55 : decode cX6_readUnit 55 = .ok (.bipush 6, 2) := by decide +kernel
theorem dX6_readUnit_57 : decode cX6_readUnit 57 = .ok (.if_icmp .le 9, 3) := by decide +kernel
theorem dX6_readUnit_60 : decode cX6_readUnit 60 = .ok (.aload_n 1, 1) := by decide +kernel
theorem dX6_readUnit_61 : decode cX6_readUnit 61 = .ok (.iconst 2, 1) := by decide +kernel
theorem dX6_readUnit_62 : decode cX6_readUnit 62 = .ok (.invokevirtual 62, 3) := by decide +kernel
theorem dX6_readUnit_65 : decode cX6_readUnit 65 = .ok (.ireturn, 1) := by decide +kernel
theorem dX6_readUnit_66 : decode cX6_readUnit 66 = .ok (.aload_n 0, 1) := by decide +kernel
theorem dX6_readUnit_67 : decode cX6_readUnit 67 = .ok (.dup, 1) := by decide +kernel
theorem dX6_readUnit_68 : decode cX6_readUnit 68 = .ok (.getfield 15, 3) := by decide +kernel
theorem dX6_readUnit_71 : decode cX6_readUnit 71 = .ok (.iconst 1, 1) := by decide +kernel
theorem dX6_readUnit_72 : decode cX6_readUnit 72 = .ok (.iadd, 1) := by decide +kernel
theorem dX6_readUnit_73 : decode cX6_readUnit 73 = .ok (.putfield 15, 3) := by decide +kernel
theorem dX6_readUnit_76 : decode cX6_readUnit 76 = .ok (.iload_n 3, 1) := by decide +kernel
theorem dX6_readUnit_77 : decode cX6_readUnit 77 = .ok (.ifCond .eq 33, 3) := by decide +kernel
theorem dX6_readUnit_80 : decode cX6_readUnit 80 = .ok (.aload_n 1, 1) := by decide +kernel
theorem dX6_readUnit_81 : decode cX6_readUnit 81 = .ok (.invokevirtual 91, 3) := by decide +kernel
theorem dX6_readUnit_84 : decode cX6_readUnit 84 = .ok (.aload_n 0, 1) := by decide +kernel
theorem dX6_readUnit_85 : decode cX6_readUnit 85 = .ok (.aload_n 1, 1) := by decide +kernel
theorem dX6_readUnit_86 : decode cX6_readUnit 86 = .ok (.iload_n 2, 1) := by decide +kernel
theorem dX6_readUnit_87 : decode cX6_readUnit 87 = .ok (.iconst 1, 1) := by decide +kernel
theorem dX6_readUnit_88 : decode cX6_readUnit 88 = .ok (.iadd, 1) := by decide +kernel
theorem dX6_readUnit_89 : decode cX6_readUnit 89 = .ok (.invokevirtual 73, 3) := by decide +kernel
theorem dX6_readUnit_92 : decode cX6_readUnit 92 = .ok (.ifCond .eq 16, 3) := by decide +kernel
theorem dX6_readUnit_95 : decode cX6_readUnit 95 = .ok (.aload_n 1, 1) := by decide +kernel
theorem dX6_readUnit_96 : decode cX6_readUnit 96 = .ok (.bipush 41, 2) := by decide +kernel
theorem dX6_readUnit_98 : decode cX6_readUnit 98 = .ok (.invokevirtual 70, 3) := by decide +kernel
theorem dX6_readUnit_101 : decode cX6_readUnit 101 = .ok (.ifCond .eq 7, 3) := by decide +kernel
theorem dX6_readUnit_104 : decode cX6_readUnit 104 = .ok (.iconst 1, 1) := by decide +kernel
theorem dX6_readUnit_105 : decode cX6_readUnit 105 = .ok (.goto 4, 3) := by decide +kernel
theorem dX6_readUnit_108 : decode cX6_readUnit 108 = .ok (.iconst 0, 1) := by decide +kernel
theorem dX6_readUnit_109 : decode cX6_readUnit 109 = .ok (.ireturn, 1) := by decide +kernel
theorem dX6_readUnit_110 : decode cX6_readUnit 110 = .ok (.aload_n 1, 1) := by decide +kernel
theorem dX6_readUnit_111 : decode cX6_readUnit 111 = .ok (.getfield 50, 3) := by decide +kernel
theorem dX6_readUnit_114 : decode cX6_readUnit 114 = .ok (.iconst 3, 1) := by decide +kernel
theorem dX6_readUnit_115 : decode cX6_readUnit 115 = .ok (.if_icmp .ne 10, 3) := by decide +kernel
theorem dX6_readUnit_118 : decode cX6_readUnit 118 = .ok (.aload_n 1, 1) := by decide +kernel
theorem dX6_readUnit_119 : decode cX6_readUnit 119 = .ok (.getfield 98, 3) := by decide +kernel
theorem dX6_readUnit_122 : decode cX6_readUnit 122 = .ok (.goto 18, 3) := by decide +kernel
theorem dX6_readUnit_125 : decode cX6_readUnit 125 = .ok (.aload_n 0, 1) := by decide +kernel
theorem dX6_readUnit_126 : decode cX6_readUnit 126 = .ok (.getfield 25, 3) := by decide +kernel
theorem dX6_readUnit_129 : decode cX6_readUnit 129 = .ok (.aload_n 0, 1) := by decide +kernel
theorem dX6_readUnit_130 : decode cX6_readUnit 130 = .ok (.getfield 9, 3) := by decide +kernel
theorem dX6_readUnit_133 : decode cX6_readUnit 133 = .ok (.aload_n 1, 1) := by decide +kernel
theorem dX6_readUnit_134 : decode cX6_readUnit 134 = .ok (.getfield 101, 3) := by decide +kernel
theorem dX6_readUnit_137 : decode cX6_readUnit 137 = .ok (.invokestatic 105, 3) := by decide +kernel
theorem dX6_readUnit_140 : decode cX6_readUnit 140 = .ok (.istore 4, 2) := by decide +kernel
theorem dX6_readUnit_142 : decode cX6_readUnit 142 = .ok (.iload 4, 2) := by decide +kernel
theorem dX6_readUnit_144 : decode cX6_readUnit 144 = .ok (.iconst (-1), 1) := by decide +kernel
theorem dX6_readUnit_145 : decode cX6_readUnit 145 = .ok (.if_icmp .ne 9, 3) := by decide +kernel
theorem dX6_readUnit_148 : decode cX6_readUnit 148 = .ok (.aload_n 1, 1) := by decide +kernel
theorem dX6_readUnit_149 : decode cX6_readUnit 149 = .ok (.iconst 5, 1) := by decide +kernel
theorem dX6_readUnit_150 : decode cX6_readUnit 150 = .ok (.invokevirtual 62, 3) := by decide +kernel
theorem dX6_readUnit_153 : decode cX6_readUnit 153 = .ok (.ireturn, 1) := by decide +kernel
theorem dX6_readUnit_154 : decode cX6_readUnit 154 = .ok (.aload_n 0, 1) := by decide +kernel
theorem dX6_readUnit_155 : decode cX6_readUnit 155 = .ok (.aload_n 1, 1) := by decide +kernel
theorem dX6_readUnit_156 : decode cX6_readUnit 156 = .ok (.getfield 50, 3) := by decide +kernel
theorem dX6_readUnit_159 : decode cX6_readUnit 159 = .ok (.iload 4, 2) := by decide +kernel
theorem dX6_readUnit_161 : decode cX6_readUnit 161 = .ok (.invokevirtual 94, 3) := by decide +kernel
theorem dX6_readUnit_164 : decode cX6_readUnit 164 = .ok (.aload_n 1, 1) := by decide +kernel
theorem dX6_readUnit_165 : decode cX6_readUnit 165 = .ok (.invokevirtual 91, 3) := by decide +kernel
theorem dX6_readUnit_168 : decode cX6_readUnit 168 = .ok (.iconst 1, 1) := by decide +kernel
theorem dX6_readUnit_169 : decode cX6_readUnit 169 = .ok (.ireturn, 1) := by decide +kernel
theorem dX6_addStep_0 : decode cX6_addStep 0 = .ok (.aload_n 0, 1) := by decide +kernel
theorem dX6_addStep_1 : decode cX6_addStep 1 = .ok (.getfield 47, 3) := by decide +kernel
theorem dX6_addStep_4 : decode cX6_addStep 4 = .ok (.bipush 120, 2) := by decide +kernel
theorem dX6_addStep_6 : decode cX6_addStep 6 = .ok (.if_icmp .ge 33, 3) := by decide +kernel
theorem dX6_addStep_9 : decode cX6_addStep 9 = .ok (.aload_n 0, 1) := by decide +kernel
theorem dX6_addStep_10 : decode cX6_addStep 10 = .ok (.getfield 35, 3) := by decide +kernel
theorem dX6_addStep_13 : decode cX6_addStep 13 = .ok (.aload_n 0, 1) := by decide +kernel
theorem dX6_addStep_14 : decode cX6_addStep 14 = .ok (.getfield 47, 3) := by decide +kernel
theorem dX6_addStep_17 : decode cX6_addStep 17 = .ok (.iload_n 1, 1) := by decide +kernel
theorem dX6_addStep_18 : decode cX6_addStep 18 = .ok (.iastore, 1) := by decide +kernel
theorem dX6_addStep_19 : decode cX6_addStep 19 = .ok (.aload_n 0, 1) := by decide +kernel
theorem dX6_addStep_20 : decode cX6_addStep 20 = .ok (.getfield 38, 3) := by decide +kernel
theorem dX6_addStep_23 : decode cX6_addStep 23 = .ok (.aload_n 0, 1) := by decide +kernel
theorem dX6_addStep_24 : decode cX6_addStep 24 = .ok (.getfield 47, 3) := by decide +kernel
theorem dX6_addStep_27 : decode cX6_addStep 27 = .ok (.iload_n 2, 1) := by decide +kernel
theorem dX6_addStep_28 : decode cX6_addStep 28 = .ok (.iastore, 1) := by decide +kernel
theorem dX6_addStep_29 : decode cX6_addStep 29 = .ok (.aload_n 0, 1) := by decide +kernel
theorem dX6_addStep_30 : decode cX6_addStep 30 = .ok (.dup, 1) := by decide +kernel
theorem dX6_addStep_31 : decode cX6_addStep 31 = .ok (.getfield 47, 3) := by decide +kernel
theorem dX6_addStep_34 : decode cX6_addStep 34 = .ok (.iconst 1, 1) := by decide +kernel
theorem dX6_addStep_35 : decode cX6_addStep 35 = .ok (.iadd, 1) := by decide +kernel
theorem dX6_addStep_36 : decode cX6_addStep 36 = .ok (.putfield 47, 3) := by decide +kernel
theorem dX6_addStep_39 : decode cX6_addStep 39 = .ok (.return_, 1) := by decide +kernel
theorem dX6_workAll_0 : decode cX6_workAll 0 = .ok (.iconst 0, 1) := by decide +kernel
theorem dX6_workAll_1 : decode cX6_workAll 1 = .ok (.istore_n 1, 1) := by decide +kernel
theorem dX6_workAll_2 : decode cX6_workAll 2 = .ok (.iload_n 1, 1) := by decide +kernel
theorem dX6_workAll_3 : decode cX6_workAll 3 = .ok (.aload_n 0, 1) := by decide +kernel
theorem dX6_workAll_4 : decode cX6_workAll 4 = .ok (.getfield 9, 3) := by decide +kernel
theorem dX6_workAll_7 : decode cX6_workAll 7 = .ok (.if_icmp .ge 43, 3) := by decide +kernel
theorem dX6_workAll_10 : decode cX6_workAll 10 = .ok (.aload_n 0, 1) := by decide +kernel
theorem dX6_workAll_11 : decode cX6_workAll 11 = .ok (.getfield 18, 3) := by decide +kernel
theorem dX6_workAll_14 : decode cX6_workAll 14 = .ok (.iload_n 1, 1) := by decide +kernel
theorem dX6_workAll_15 : decode cX6_workAll 15 = .ok (.aload_n 0, 1) := by decide +kernel
theorem dX6_workAll_16 : decode cX6_workAll 16 = .ok (.iload_n 1, 1) := by decide +kernel
theorem dX6_workAll_17 : decode cX6_workAll 17 = .ok (.aload_n 0, 1) := by decide +kernel
theorem dX6_workAll_18 : decode cX6_workAll 18 = .ok (.getfield 29, 3) := by decide +kernel
theorem dX6_workAll_21 : decode cX6_workAll 21 = .ok (.invokevirtual 109, 3) := by decide +kernel
theorem dX6_workAll_24 : decode cX6_workAll 24 = .ok (.iastore, 1) := by decide +kernel
theorem dX6_workAll_25 : decode cX6_workAll 25 = .ok (.aload_n 0, 1) := by decide +kernel
theorem dX6_workAll_26 : decode cX6_workAll 26 = .ok (.getfield 22, 3) := by decide +kernel
theorem dX6_workAll_29 : decode cX6_workAll 29 = .ok (.iload_n 1, 1) := by decide +kernel
theorem dX6_workAll_30 : decode cX6_workAll 30 = .ok (.aload_n 0, 1) := by decide +kernel
theorem dX6_workAll_31 : decode cX6_workAll 31 = .ok (.getfield 29, 3) := by decide +kernel
theorem dX6_workAll_34 : decode cX6_workAll 34 = .ok (.iload_n 1, 1) := by decide +kernel
theorem dX6_workAll_35 : decode cX6_workAll 35 = .ok (.iaload, 1) := by decide +kernel
theorem dX6_workAll_36 : decode cX6_workAll 36 = .ok (.aload_n 0, 1) := by decide +kernel
theorem dX6_workAll_37 : decode cX6_workAll 37 = .ok (.getfield 18, 3) := by decide +kernel
theorem dX6_workAll_40 : decode cX6_workAll 40 = .ok (.iload_n 1, 1) := by decide +kernel
theorem dX6_workAll_41 : decode cX6_workAll 41 = .ok (.iaload, 1) := by decide +kernel
theorem dX6_workAll_42 : decode cX6_workAll 42 = .ok (.isub, 1) := by decide +kernel
theorem dX6_workAll_43 : decode cX6_workAll 43 = .ok (.iastore, 1) := by decide +kernel
theorem dX6_workAll_44 : decode cX6_workAll 44 = .ok (.iinc 1 1, 3) := by decide +kernel
theorem dX6_workAll_47 : decode cX6_workAll 47 = .ok (.goto (-45), 3) := by decide +kernel
theorem dX6_workAll_50 : decode cX6_workAll 50 = .ok (.return_, 1) := by decide +kernel
theorem dX6_valueOf_0 : decode cX6_valueOf 0 = .ok (.iconst 0, 1) := by decide +kernel
theorem dX6_valueOf_1 : decode cX6_valueOf 1 = .ok (.istore_n 3, 1) := by decide +kernel
theorem dX6_valueOf_2 : decode cX6_valueOf 2 = .ok (.aload_n 0, 1) := by decide +kernel
theorem dX6_valueOf_3 : decode cX6_valueOf 3 = .ok (.getfield 32, 3) := by decide +kernel
theorem dX6_valueOf_6 : decode cX6_valueOf 6 = .ok (.iload_n 1, 1) := by decide +kernel
theorem dX6_valueOf_7 : decode cX6_valueOf 7 = .ok (.iaload, 1) := by decide +kernel
theorem dX6_valueOf_8 : decode cX6_valueOf 8 = .ok (.istore 4, 2) := by decide +kernel
theorem dX6_valueOf_10 : decode cX6_valueOf 10 = .ok (.iload 4, 2) := by decide +kernel
theorem dX6_valueOf_12 : decode cX6_valueOf 12 = .ok (.aload_n 0, 1) := by decide +kernel
theorem dX6_valueOf_13 : decode cX6_valueOf 13 = .ok (.getfield 32, 3) := by decide +kernel
theorem dX6_valueOf_16 : decode cX6_valueOf 16 = .ok (.iload_n 1, 1) := by decide +kernel
theorem dX6_valueOf_17 : decode cX6_valueOf 17 = .ok (.iconst 1, 1) := by decide +kernel
theorem dX6_valueOf_18 : decode cX6_valueOf 18 = .ok (.iadd, 1) := by decide +kernel
theorem dX6_valueOf_19 : decode cX6_valueOf 19 = .ok (.iaload, 1) := by decide +kernel
theorem dX6_valueOf_20 : decode cX6_valueOf 20 = .ok (.if_icmp .ge 111, 3) := by decide +kernel
theorem dX6_valueOf_23 : decode cX6_valueOf 23 = .ok (.aload_n 0, 1) := by decide +kernel
theorem dX6_valueOf_24 : decode cX6_valueOf 24 = .ok (.getfield 35, 3) := by decide +kernel
theorem dX6_valueOf_27 : decode cX6_valueOf 27 = .ok (.iload 4, 2) := by decide +kernel
theorem dX6_valueOf_29 : decode cX6_valueOf 29 = .ok (.iaload, 1) := by decide +kernel
theorem dX6_valueOf_30 : decode cX6_valueOf 30 = .ok (.istore 5, 2) := by decide +kernel
theorem dX6_valueOf_32 : decode cX6_valueOf 32 = .ok (.iload 5, 2) := by decide +kernel
theorem dX6_valueOf_34 : decode cX6_valueOf 34 = .ok (.iconst 3, 1) := by decide +kernel
theorem dX6_valueOf_35 : decode cX6_valueOf 35 = .ok (.if_icmp .eq 47, 3) := by decide +kernel
theorem dX6_valueOf_38 : decode cX6_valueOf 38 = .ok (.iload 5, 2) := by decide +kernel
theorem dX6_valueOf_40 : decode cX6_valueOf 40 = .ok (.iconst 2, 1) := by decide +kernel
theorem dX6_valueOf_41 : decode cX6_valueOf 41 = .ok (.if_icmp .eq 41, 3) := by decide +kernel
theorem dX6_valueOf_44 : decode cX6_valueOf 44 = .ok (.iload_n 3, 1) := by decide +kernel
theorem dX6_valueOf_45 : decode cX6_valueOf 45 = .ok (.iconst 2, 1) := by decide +kernel
theorem dX6_valueOf_46 : decode cX6_valueOf 46 = .ok (.if_icmp .lt 79, 3) := by decide +kernel
theorem dX6_valueOf_49 : decode cX6_valueOf 49 = .ok (.iinc 3 (-1), 3) := by decide +kernel
theorem dX6_valueOf_52 : decode cX6_valueOf 52 = .ok (.aload_n 0, 1) := by decide +kernel
theorem dX6_valueOf_53 : decode cX6_valueOf 53 = .ok (.getfield 41, 3) := by decide +kernel
theorem dX6_valueOf_56 : decode cX6_valueOf 56 = .ok (.iload_n 3, 1) := by decide +kernel
theorem dX6_valueOf_57 : decode cX6_valueOf 57 = .ok (.iconst 1, 1) := by decide +kernel
theorem dX6_valueOf_58 : decode cX6_valueOf 58 = .ok (.isub, 1) := by decide +kernel
theorem dX6_valueOf_59 : decode cX6_valueOf 59 = .ok (.iload 5, 2) := by decide +kernel
theorem dX6_valueOf_61 : decode cX6_valueOf 61 = .ok (.aload_n 0, 1) := by decide +kernel
theorem dX6_valueOf_62 : decode cX6_valueOf 62 = .ok (.getfield 41, 3) := by decide +kernel
theorem dX6_valueOf_65 : decode cX6_valueOf 65 = .ok (.iload_n 3, 1) := by decide +kernel
theorem dX6_valueOf_66 : decode cX6_valueOf 66 = .ok (.iconst 1, 1) := by decide +kernel
theorem dX6_valueOf_67 : decode cX6_valueOf 67 = .ok (.isub, 1) := by decide +kernel
theorem dX6_valueOf_68 : decode cX6_valueOf 68 = .ok (.iaload, 1) := by decide +kernel
theorem dX6_valueOf_69 : decode cX6_valueOf 69 = .ok (.aload_n 0, 1) := by decide +kernel
theorem dX6_valueOf_70 : decode cX6_valueOf 70 = .ok (.getfield 41, 3) := by decide +kernel
theorem dX6_valueOf_73 : decode cX6_valueOf 73 = .ok (.iload_n 3, 1) := by decide +kernel
theorem dX6_valueOf_74 : decode cX6_valueOf 74 = .ok (.iaload, 1) := by decide +kernel
theorem dX6_valueOf_75 : decode cX6_valueOf 75 = .ok (.invokestatic 113, 3) := by decide +kernel
theorem dX6_valueOf_78 : decode cX6_valueOf 78 = .ok (.iastore, 1) := by decide +kernel
theorem dX6_valueOf_79 : decode cX6_valueOf 79 = .ok (.goto 46, 3) := by decide +kernel
theorem dX6_valueOf_82 : decode cX6_valueOf 82 = .ok (.iload_n 3, 1) := by decide +kernel
theorem dX6_valueOf_83 : decode cX6_valueOf 83 = .ok (.aload_n 0, 1) := by decide +kernel
theorem dX6_valueOf_84 : decode cX6_valueOf 84 = .ok (.getfield 41, 3) := by decide +kernel
theorem dX6_valueOf_87 : decode cX6_valueOf 87 = .ok (.arraylength, 1) := by decide +kernel
theorem dX6_valueOf_88 : decode cX6_valueOf 88 = .ok (.if_icmp .ge 37, 3) := by decide +kernel
theorem dX6_valueOf_91 : decode cX6_valueOf 91 = .ok (.aload_n 0, 1) := by decide +kernel
theorem dX6_valueOf_92 : decode cX6_valueOf 92 = .ok (.getfield 41, 3) := by decide +kernel
theorem dX6_valueOf_95 : decode cX6_valueOf 95 = .ok (.iload_n 3, 1) := by decide +kernel
theorem dX6_valueOf_96 : decode cX6_valueOf 96 = .ok (.iload 5, 2) := by decide +kernel
theorem dX6_valueOf_98 : decode cX6_valueOf 98 = .ok (.iconst 3, 1) := by decide +kernel
theorem dX6_valueOf_99 : decode cX6_valueOf 99 = .ok (.if_icmp .ne 13, 3) := by decide +kernel
theorem dX6_valueOf_102 : decode cX6_valueOf 102 = .ok (.aload_n 0, 1) := by decide +kernel
theorem dX6_valueOf_103 : decode cX6_valueOf 103 = .ok (.getfield 38, 3) := by decide +kernel
theorem dX6_valueOf_106 : decode cX6_valueOf 106 = .ok (.iload 4, 2) := by decide +kernel
theorem dX6_valueOf_108 : decode cX6_valueOf 108 = .ok (.iaload, 1) := by decide +kernel
theorem dX6_valueOf_109 : decode cX6_valueOf 109 = .ok (.goto 12, 3) := by decide +kernel
theorem dX6_valueOf_112 : decode cX6_valueOf 112 = .ok (.aload_n 2, 1) := by decide +kernel
theorem dX6_valueOf_113 : decode cX6_valueOf 113 = .ok (.aload_n 0, 1) := by decide +kernel
theorem dX6_valueOf_114 : decode cX6_valueOf 114 = .ok (.getfield 38, 3) := by decide +kernel
theorem dX6_valueOf_117 : decode cX6_valueOf 117 = .ok (.iload 4, 2) := by decide +kernel
theorem dX6_valueOf_119 : decode cX6_valueOf 119 = .ok (.iaload, 1) := by decide +kernel
theorem dX6_valueOf_120 : decode cX6_valueOf 120 = .ok (.iaload, 1) := by decide +kernel
theorem dX6_valueOf_121 : decode cX6_valueOf 121 = .ok (.iastore, 1) := by decide +kernel
theorem dX6_valueOf_122 : decode cX6_valueOf 122 = .ok (.iinc 3 1, 3) := by decide +kernel
theorem dX6_valueOf_125 : decode cX6_valueOf 125 = .ok (.iinc 4 1, 3) := by decide +kernel
theorem dX6_valueOf_128 : decode cX6_valueOf 128 = .ok (.goto (-118), 3) := by decide +kernel
theorem dX6_valueOf_131 : decode cX6_valueOf 131 = .ok (.aload_n 0, 1) := by decide +kernel
theorem dX6_valueOf_132 : decode cX6_valueOf 132 = .ok (.getfield 41, 3) := by decide +kernel
theorem dX6_valueOf_135 : decode cX6_valueOf 135 = .ok (.iconst 0, 1) := by decide +kernel
theorem dX6_valueOf_136 : decode cX6_valueOf 136 = .ok (.iaload, 1) := by decide +kernel
theorem dX6_valueOf_137 : decode cX6_valueOf 137 = .ok (.ireturn, 1) := by decide +kernel
theorem dX6_joined_0 : decode cX6_joined 0 = .ok (.iload_n 0, 1) := by decide +kernel
theorem dX6_joined_1 : decode cX6_joined 1 = .ok (.tableswitch 43 42 45 #[39, 31, 43, 35], 31) := by decide +kernel
theorem dX6_joined_32 : decode cX6_joined 32 = .ok (.iload_n 1, 1) := by decide +kernel
theorem dX6_joined_33 : decode cX6_joined 33 = .ok (.iload_n 2, 1) := by decide +kernel
theorem dX6_joined_34 : decode cX6_joined 34 = .ok (.iadd, 1) := by decide +kernel
theorem dX6_joined_35 : decode cX6_joined 35 = .ok (.ireturn, 1) := by decide +kernel
theorem dX6_joined_36 : decode cX6_joined 36 = .ok (.iload_n 1, 1) := by decide +kernel
theorem dX6_joined_37 : decode cX6_joined 37 = .ok (.iload_n 2, 1) := by decide +kernel
theorem dX6_joined_38 : decode cX6_joined 38 = .ok (.isub, 1) := by decide +kernel
theorem dX6_joined_39 : decode cX6_joined 39 = .ok (.ireturn, 1) := by decide +kernel
theorem dX6_joined_40 : decode cX6_joined 40 = .ok (.iload_n 1, 1) := by decide +kernel
theorem dX6_joined_41 : decode cX6_joined 41 = .ok (.iload_n 2, 1) := by decide +kernel
theorem dX6_joined_42 : decode cX6_joined 42 = .ok (.imul, 1) := by decide +kernel
theorem dX6_joined_43 : decode cX6_joined 43 = .ok (.ireturn, 1) := by decide +kernel
theorem dX6_joined_44 : decode cX6_joined 44 = .ok (.iload_n 2, 1) := by decide +kernel
theorem dX6_joined_45 : decode cX6_joined 45 = .ok (.ifCond .ne 7, 3) := by decide +kernel
theorem dX6_joined_48 : decode cX6_joined 48 = .ok (.iconst 0, 1) := by decide +kernel
theorem dX6_joined_49 : decode cX6_joined 49 = .ok (.goto 6, 3) := by decide +kernel
theorem dX6_joined_52 : decode cX6_joined 52 = .ok (.iload_n 1, 1) := by decide +kernel
theorem dX6_joined_53 : decode cX6_joined 53 = .ok (.iload_n 2, 1) := by decide +kernel
theorem dX6_joined_54 : decode cX6_joined 54 = .ok (.idiv, 1) := by decide +kernel
theorem dX6_joined_55 : decode cX6_joined 55 = .ok (.ireturn, 1) := by decide +kernel
theorem dX6_lastWith_0 : decode cX6_lastWith 0 = .ok (.iconst 0, 1) := by decide +kernel
theorem dX6_lastWith_1 : decode cX6_lastWith 1 = .ok (.istore_n 2, 1) := by decide +kernel
theorem dX6_lastWith_2 : decode cX6_lastWith 2 = .ok (.iconst 0, 1) := by decide +kernel
theorem dX6_lastWith_3 : decode cX6_lastWith 3 = .ok (.istore_n 3, 1) := by decide +kernel
theorem dX6_lastWith_4 : decode cX6_lastWith 4 = .ok (.iload_n 3, 1) := by decide +kernel
theorem dX6_lastWith_5 : decode cX6_lastWith 5 = .ok (.aload_n 0, 1) := by decide +kernel
theorem dX6_lastWith_6 : decode cX6_lastWith 6 = .ok (.getfield 9, 3) := by decide +kernel
theorem dX6_lastWith_9 : decode cX6_lastWith 9 = .ok (.if_icmp .ge 46, 3) := by decide +kernel
theorem dX6_lastWith_12 : decode cX6_lastWith 12 = .ok (.aload_n 0, 1) := by decide +kernel
theorem dX6_lastWith_13 : decode cX6_lastWith 13 = .ok (.iload_n 3, 1) := by decide +kernel
theorem dX6_lastWith_14 : decode cX6_lastWith 14 = .ok (.aload_n 0, 1) := by decide +kernel
theorem dX6_lastWith_15 : decode cX6_lastWith 15 = .ok (.getfield 44, 3) := by decide +kernel
theorem dX6_lastWith_18 : decode cX6_lastWith 18 = .ok (.invokevirtual 109, 3) := by decide +kernel
theorem dX6_lastWith_21 : decode cX6_lastWith 21 = .ok (.iload_n 1, 1) := by decide +kernel
theorem dX6_lastWith_22 : decode cX6_lastWith 22 = .ok (.iload_n 3, 1) := by decide +kernel
theorem dX6_lastWith_23 : decode cX6_lastWith 23 = .ok (.ishr, 1) := by decide +kernel
theorem dX6_lastWith_24 : decode cX6_lastWith 24 = .ok (.iconst 1, 1) := by decide +kernel
theorem dX6_lastWith_25 : decode cX6_lastWith 25 = .ok (.iand, 1) := by decide +kernel
theorem dX6_lastWith_26 : decode cX6_lastWith 26 = .ok (.iconst 1, 1) := by decide +kernel
theorem dX6_lastWith_27 : decode cX6_lastWith 27 = .ok (.if_icmp .ne 12, 3) := by decide +kernel
theorem dX6_lastWith_30 : decode cX6_lastWith 30 = .ok (.aload_n 0, 1) := by decide +kernel
theorem dX6_lastWith_31 : decode cX6_lastWith 31 = .ok (.getfield 22, 3) := by decide +kernel
theorem dX6_lastWith_34 : decode cX6_lastWith 34 = .ok (.iload_n 3, 1) := by decide +kernel
theorem dX6_lastWith_35 : decode cX6_lastWith 35 = .ok (.iaload, 1) := by decide +kernel
theorem dX6_lastWith_36 : decode cX6_lastWith 36 = .ok (.goto 4, 3) := by decide +kernel
theorem dX6_lastWith_39 : decode cX6_lastWith 39 = .ok (.iconst 0, 1) := by decide +kernel
theorem dX6_lastWith_40 : decode cX6_lastWith 40 = .ok (.iadd, 1) := by decide +kernel
theorem dX6_lastWith_41 : decode cX6_lastWith 41 = .ok (.istore_n 2, 1) := by decide +kernel
theorem dX6_lastWith_42 : decode cX6_lastWith 42 = .ok (.aload_n 0, 1) := by decide +kernel
theorem dX6_lastWith_43 : decode cX6_lastWith 43 = .ok (.getfield 44, 3) := by decide +kernel
theorem dX6_lastWith_46 : decode cX6_lastWith 46 = .ok (.iload_n 3, 1) := by decide +kernel
theorem dX6_lastWith_47 : decode cX6_lastWith 47 = .ok (.iload_n 2, 1) := by decide +kernel
theorem dX6_lastWith_48 : decode cX6_lastWith 48 = .ok (.iastore, 1) := by decide +kernel
theorem dX6_lastWith_49 : decode cX6_lastWith 49 = .ok (.iinc 3 1, 3) := by decide +kernel
theorem dX6_lastWith_52 : decode cX6_lastWith 52 = .ok (.goto (-48), 3) := by decide +kernel
theorem dX6_lastWith_55 : decode cX6_lastWith 55 = .ok (.iload_n 2, 1) := by decide +kernel
theorem dX6_lastWith_56 : decode cX6_lastWith 56 = .ok (.ireturn, 1) := by decide +kernel
theorem dX6_moved_0 : decode cX6_moved 0 = .ok (.sipush 4095, 3) := by decide +kernel
theorem dX6_moved_3 : decode cX6_moved 3 = .ok (.istore_n 2, 1) := by decide +kernel
theorem dX6_moved_4 : decode cX6_moved 4 = .ok (.aload_n 0, 1) := by decide +kernel
theorem dX6_moved_5 : decode cX6_moved 5 = .ok (.iload_n 2, 1) := by decide +kernel
theorem dX6_moved_6 : decode cX6_moved 6 = .ok (.invokevirtual 117, 3) := by decide +kernel
theorem dX6_moved_9 : decode cX6_moved 9 = .ok (.aload_n 0, 1) := by decide +kernel
theorem dX6_moved_10 : decode cX6_moved 10 = .ok (.iload_n 2, 1) := by decide +kernel
theorem dX6_moved_11 : decode cX6_moved 11 = .ok (.iconst 1, 1) := by decide +kernel
theorem dX6_moved_12 : decode cX6_moved 12 = .ok (.iload_n 1, 1) := by decide +kernel
theorem dX6_moved_13 : decode cX6_moved 13 = .ok (.ishl, 1) := by decide +kernel
theorem dX6_moved_14 : decode cX6_moved 14 = .ok (.iconst (-1), 1) := by decide +kernel
theorem dX6_moved_15 : decode cX6_moved 15 = .ok (.ixor, 1) := by decide +kernel
theorem dX6_moved_16 : decode cX6_moved 16 = .ok (.iand, 1) := by decide +kernel
theorem dX6_moved_17 : decode cX6_moved 17 = .ok (.invokevirtual 117, 3) := by decide +kernel
theorem dX6_moved_20 : decode cX6_moved 20 = .ok (.isub, 1) := by decide +kernel
theorem dX6_moved_21 : decode cX6_moved 21 = .ok (.ireturn, 1) := by decide +kernel
theorem dX7_init_0 : decode cX7_init 0 = .ok (.aload_n 0, 1) := by decide +kernel
theorem dX7_init_1 : decode cX7_init 1 = .ok (.invokespecial 3, 3) := by decide +kernel
theorem dX7_init_4 : decode cX7_init 4 = .ok (.aload_n 0, 1) := by decide +kernel
theorem dX7_init_5 : decode cX7_init 5 = .ok (.sipush 800, 3) := by decide +kernel
theorem dX7_init_8 : decode cX7_init 8 = .ok (.newarray .byte, 2) := by decide +kernel
theorem dX7_init_10 : decode cX7_init 10 = .ok (.putfield 9, 3) := by decide +kernel
theorem dX7_init_13 : decode cX7_init 13 = .ok (.aload_n 0, 1) := by decide +kernel
theorem dX7_init_14 : decode cX7_init 14 = .ok (.iconst 0, 1) := by decide +kernel
theorem dX7_init_15 : decode cX7_init 15 = .ok (.putfield 15, 3) := by decide +kernel
theorem dX7_init_18 : decode cX7_init 18 = .ok (.return_, 1) := by decide +kernel
theorem dX7_append_0 : decode cX7_append 0 = .ok (.bipush 24, 2) := by decide +kernel
theorem dX7_append_2 : decode cX7_append 2 = .ok (.istore_n 2, 1) := by decide +kernel
theorem dX7_append_3 : decode cX7_append 3 = .ok (.iload_n 2, 1) := by decide +kernel
theorem dX7_append_4 : decode cX7_append 4 = .ok (.ifCond .lt 42, 3) := by decide +kernel
theorem dX7_append_7 : decode cX7_append 7 = .ok (.aload_n 0, 1) := by decide +kernel
theorem dX7_append_8 : decode cX7_append 8 = .ok (.getfield 15, 3) := by decide +kernel
theorem dX7_append_11 : decode cX7_append 11 = .ok (.sipush 800, 3) := by decide +kernel
theorem dX7_append_14 : decode cX7_append 14 = .ok (.if_icmp .ge 32, 3) := by decide +kernel
theorem dX7_append_17 : decode cX7_append 17 = .ok (.aload_n 0, 1) := by decide +kernel
theorem dX7_append_18 : decode cX7_append 18 = .ok (.getfield 9, 3) := by decide +kernel
theorem dX7_append_21 : decode cX7_append 21 = .ok (.aload_n 0, 1) := by decide +kernel
theorem dX7_append_22 : decode cX7_append 22 = .ok (.getfield 15, 3) := by decide +kernel
theorem dX7_append_25 : decode cX7_append 25 = .ok (.iload_n 1, 1) := by decide +kernel
theorem dX7_append_26 : decode cX7_append 26 = .ok (.iload_n 2, 1) := by decide +kernel
theorem dX7_append_27 : decode cX7_append 27 = .ok (.ishr, 1) := by decide +kernel
theorem dX7_append_28 : decode cX7_append 28 = .ok (.i2b, 1) := by decide +kernel
theorem dX7_append_29 : decode cX7_append 29 = .ok (.bastore, 1) := by decide +kernel
theorem dX7_append_30 : decode cX7_append 30 = .ok (.aload_n 0, 1) := by decide +kernel
theorem dX7_append_31 : decode cX7_append 31 = .ok (.dup, 1) := by decide +kernel
theorem dX7_append_32 : decode cX7_append 32 = .ok (.getfield 15, 3) := by decide +kernel
theorem dX7_append_35 : decode cX7_append 35 = .ok (.iconst 1, 1) := by decide +kernel
theorem dX7_append_36 : decode cX7_append 36 = .ok (.iadd, 1) := by decide +kernel
theorem dX7_append_37 : decode cX7_append 37 = .ok (.putfield 15, 3) := by decide +kernel
theorem dX7_append_40 : decode cX7_append 40 = .ok (.iinc 2 (-8), 3) := by decide +kernel
theorem dX7_append_43 : decode cX7_append 43 = .ok (.goto (-40), 3) := by decide +kernel
theorem dX7_append_46 : decode cX7_append 46 = .ok (.return_, 1) := by decide +kernel
theorem dX8_init_0 : decode cX8_init 0 = .ok (.aload_n 0, 1) := by decide +kernel
theorem dX8_init_1 : decode cX8_init 1 = .ok (.invokespecial 1, 3) := by decide +kernel
theorem dX8_init_4 : decode cX8_init 4 = .ok (.aload_n 0, 1) := by decide +kernel
theorem dX8_init_5 : decode cX8_init 5 = .ok (.new 7, 3) := by decide +kernel
theorem dX8_init_8 : decode cX8_init 8 = .ok (.dup, 1) := by decide +kernel
theorem dX8_init_9 : decode cX8_init 9 = .ok (.invokespecial 9, 3) := by decide +kernel
theorem dX8_init_12 : decode cX8_init 12 = .ok (.putfield 10, 3) := by decide +kernel
theorem dX8_init_15 : decode cX8_init 15 = .ok (.aload_n 0, 1) := by decide +kernel
theorem dX8_init_16 : decode cX8_init 16 = .ok (.new 16, 3) := by decide +kernel
theorem dX8_init_19 : decode cX8_init 19 = .ok (.dup, 1) := by decide +kernel
theorem dX8_init_20 : decode cX8_init 20 = .ok (.aload_n 0, 1) := by decide +kernel
theorem dX8_init_21 : decode cX8_init 21 = .ok (.getfield 10, 3) := by decide +kernel
theorem dX8_init_24 : decode cX8_init 24 = .ok (.invokespecial 18, 3) := by decide +kernel
theorem dX8_init_27 : decode cX8_init 27 = .ok (.putfield 21, 3) := by decide +kernel
theorem dX8_init_30 : decode cX8_init 30 = .ok (.aload_n 0, 1) := by decide +kernel
theorem dX8_init_31 : decode cX8_init 31 = .ok (.new 25, 3) := by decide +kernel
theorem dX8_init_34 : decode cX8_init 34 = .ok (.dup, 1) := by decide +kernel
theorem dX8_init_35 : decode cX8_init 35 = .ok (.invokespecial 27, 3) := by decide +kernel
theorem dX8_init_38 : decode cX8_init 38 = .ok (.putfield 28, 3) := by decide +kernel
theorem dX8_init_41 : decode cX8_init 41 = .ok (.aload_n 0, 1) := by decide +kernel
theorem dX8_init_42 : decode cX8_init 42 = .ok (.new 25, 3) := by decide +kernel
theorem dX8_init_45 : decode cX8_init 45 = .ok (.dup, 1) := by decide +kernel
theorem dX8_init_46 : decode cX8_init 46 = .ok (.invokespecial 27, 3) := by decide +kernel
theorem dX8_init_49 : decode cX8_init 49 = .ok (.putfield 32, 3) := by decide +kernel
theorem dX8_init_52 : decode cX8_init 52 = .ok (.aload_n 0, 1) := by decide +kernel
theorem dX8_init_53 : decode cX8_init 53 = .ok (.new 35, 3) := by decide +kernel
theorem dX8_init_56 : decode cX8_init 56 = .ok (.dup, 1) := by decide +kernel
theorem dX8_init_57 : decode cX8_init 57 = .ok (.invokespecial 37, 3) := by decide +kernel
theorem dX8_init_60 : decode cX8_init 60 = .ok (.putfield 38, 3) := by decide +kernel
theorem dX8_init_63 : decode cX8_init 63 = .ok (.aload_n 0, 1) := by decide +kernel
theorem dX8_init_64 : decode cX8_init 64 = .ok (.new 35, 3) := by decide +kernel
theorem dX8_init_67 : decode cX8_init 67 = .ok (.dup, 1) := by decide +kernel
theorem dX8_init_68 : decode cX8_init 68 = .ok (.invokespecial 37, 3) := by decide +kernel
theorem dX8_init_71 : decode cX8_init 71 = .ok (.putfield 42, 3) := by decide +kernel
theorem dX8_init_74 : decode cX8_init 74 = .ok (.aload_n 0, 1) := by decide +kernel
theorem dX8_init_75 : decode cX8_init 75 = .ok (.new 45, 3) := by decide +kernel
theorem dX8_init_78 : decode cX8_init 78 = .ok (.dup, 1) := by decide +kernel
theorem dX8_init_79 : decode cX8_init 79 = .ok (.invokespecial 47, 3) := by decide +kernel
theorem dX8_init_82 : decode cX8_init 82 = .ok (.putfield 48, 3) := by decide +kernel
theorem dX8_init_85 : decode cX8_init 85 = .ok (.aload_n 0, 1) := by decide +kernel
theorem dX8_init_86 : decode cX8_init 86 = .ok (.new 45, 3) := by decide +kernel
theorem dX8_init_89 : decode cX8_init 89 = .ok (.dup, 1) := by decide +kernel
theorem dX8_init_90 : decode cX8_init 90 = .ok (.invokespecial 47, 3) := by decide +kernel
theorem dX8_init_93 : decode cX8_init 93 = .ok (.putfield 52, 3) := by decide +kernel
theorem dX8_init_96 : decode cX8_init 96 = .ok (.aload_n 0, 1) := by decide +kernel
theorem dX8_init_97 : decode cX8_init 97 = .ok (.new 55, 3) := by decide +kernel
theorem dX8_init_100 : decode cX8_init 100 = .ok (.dup, 1) := by decide +kernel
theorem dX8_init_101 : decode cX8_init 101 = .ok (.invokespecial 57, 3) := by decide +kernel
theorem dX8_init_104 : decode cX8_init 104 = .ok (.putfield 58, 3) := by decide +kernel
theorem dX8_init_107 : decode cX8_init 107 = .ok (.aload_n 0, 1) := by decide +kernel
theorem dX8_init_108 : decode cX8_init 108 = .ok (.new 62, 3) := by decide +kernel
theorem dX8_init_111 : decode cX8_init 111 = .ok (.dup, 1) := by decide +kernel
theorem dX8_init_112 : decode cX8_init 112 = .ok (.invokespecial 64, 3) := by decide +kernel
theorem dX8_init_115 : decode cX8_init 115 = .ok (.putfield 65, 3) := by decide +kernel
theorem dX8_init_118 : decode cX8_init 118 = .ok (.aload_n 0, 1) := by decide +kernel
theorem dX8_init_119 : decode cX8_init 119 = .ok (.bipush 13, 2) := by decide +kernel
theorem dX8_init_121 : decode cX8_init 121 = .ok (.newarray .int, 2) := by decide +kernel
theorem dX8_init_123 : decode cX8_init 123 = .ok (.putfield 69, 3) := by decide +kernel
theorem dX8_init_126 : decode cX8_init 126 = .ok (.return_, 1) := by decide +kernel
theorem dX8_feed_0 : decode cX8_feed 0 = .ok (.aload_n 0, 1) := by decide +kernel
theorem dX8_feed_1 : decode cX8_feed 1 = .ok (.getfield 10, 3) := by decide +kernel
theorem dX8_feed_4 : decode cX8_feed 4 = .ok (.getfield 73, 3) := by decide +kernel
theorem dX8_feed_7 : decode cX8_feed 7 = .ok (.bipush 20, 2) := by decide +kernel
theorem dX8_feed_9 : decode cX8_feed 9 = .ok (.iadd, 1) := by decide +kernel
theorem dX8_feed_10 : decode cX8_feed 10 = .ok (.sipush 800, 3) := by decide +kernel
theorem dX8_feed_13 : decode cX8_feed 13 = .ok (.if_icmp .le 5, 3) := by decide +kernel
theorem dX8_feed_16 : decode cX8_feed 16 = .ok (.iconst (-1), 1) := by decide +kernel
theorem dX8_feed_17 : decode cX8_feed 17 = .ok (.ireturn, 1) := by decide +kernel
theorem dX8_feed_18 : decode cX8_feed 18 = .ok (.aload_n 0, 1) := by decide +kernel
theorem dX8_feed_19 : decode cX8_feed 19 = .ok (.getfield 10, 3) := by decide +kernel
theorem dX8_feed_22 : decode cX8_feed 22 = .ok (.iload_n 1, 1) := by decide +kernel
theorem dX8_feed_23 : decode cX8_feed 23 = .ok (.invokevirtual 77, 3) := by decide +kernel
theorem dX8_feed_26 : decode cX8_feed 26 = .ok (.aload_n 0, 1) := by decide +kernel
theorem dX8_feed_27 : decode cX8_feed 27 = .ok (.getfield 10, 3) := by decide +kernel
theorem dX8_feed_30 : decode cX8_feed 30 = .ok (.iload_n 2, 1) := by decide +kernel
theorem dX8_feed_31 : decode cX8_feed 31 = .ok (.invokevirtual 77, 3) := by decide +kernel
theorem dX8_feed_34 : decode cX8_feed 34 = .ok (.aload_n 0, 1) := by decide +kernel
theorem dX8_feed_35 : decode cX8_feed 35 = .ok (.getfield 10, 3) := by decide +kernel
theorem dX8_feed_38 : decode cX8_feed 38 = .ok (.iload_n 3, 1) := by decide +kernel
theorem dX8_feed_39 : decode cX8_feed 39 = .ok (.invokevirtual 77, 3) := by decide +kernel
theorem dX8_feed_42 : decode cX8_feed 42 = .ok (.aload_n 0, 1) := by decide +kernel
theorem dX8_feed_43 : decode cX8_feed 43 = .ok (.getfield 10, 3) := by decide +kernel
theorem dX8_feed_46 : decode cX8_feed 46 = .ok (.iload 4, 2) := by decide +kernel
theorem dX8_feed_48 : decode cX8_feed 48 = .ok (.invokevirtual 77, 3) := by decide +kernel
theorem dX8_feed_51 : decode cX8_feed 51 = .ok (.aload_n 0, 1) := by decide +kernel
theorem dX8_feed_52 : decode cX8_feed 52 = .ok (.getfield 10, 3) := by decide +kernel
theorem dX8_feed_55 : decode cX8_feed 55 = .ok (.iload 5, 2) := by decide +kernel
theorem dX8_feed_57 : decode cX8_feed 57 = .ok (.invokevirtual 77, 3) := by decide +kernel
theorem dX8_feed_60 : decode cX8_feed 60 = .ok (.aload_n 0, 1) := by decide +kernel
theorem dX8_feed_61 : decode cX8_feed 61 = .ok (.getfield 10, 3) := by decide +kernel
theorem dX8_feed_64 : decode cX8_feed 64 = .ok (.getfield 73, 3) := by decide +kernel
theorem dX8_feed_67 : decode cX8_feed 67 = .ok (.ireturn, 1) := by decide +kernel
theorem dX8_end_0 : decode cX8_end 0 = .ok (.iload_n 1, 1) := by decide +kernel
theorem dX8_end_1 : decode cX8_end 1 = .ok (.ifCond .lt 14, 3) := by decide +kernel
theorem dX8_end_4 : decode cX8_end 4 = .ok (.iload_n 1, 1) := by decide +kernel
theorem dX8_end_5 : decode cX8_end 5 = .ok (.aload_n 0, 1) := by decide +kernel
theorem dX8_end_6 : decode cX8_end 6 = .ok (.getfield 10, 3) := by decide +kernel
theorem dX8_end_9 : decode cX8_end 9 = .ok (.getfield 73, 3) := by decide +kernel
theorem dX8_end_12 : decode cX8_end 12 = .ok (.if_icmp .le 5, 3) := by decide +kernel
theorem dX8_end_15 : decode cX8_end 15 = .ok (.iconst (-1), 1) := by decide +kernel
theorem dX8_end_16 : decode cX8_end 16 = .ok (.ireturn, 1) := by decide +kernel
theorem dX8_end_17 : decode cX8_end 17 = .ok (.aload_n 0, 1) := by decide +kernel
theorem dX8_end_18 : decode cX8_end 18 = .ok (.getfield 10, 3) := by decide +kernel
theorem dX8_end_21 : decode cX8_end 21 = .ok (.iload_n 1, 1) := by decide +kernel
theorem dX8_end_22 : decode cX8_end 22 = .ok (.putfield 73, 3) := by decide +kernel
theorem dX8_end_25 : decode cX8_end 25 = .ok (.iload_n 1, 1) := by decide +kernel
theorem dX8_end_26 : decode cX8_end 26 = .ok (.ireturn, 1) := by decide +kernel
theorem dX8_shed_0 : decode cX8_shed 0 = .ok (.aload_n 0, 1) := by decide +kernel
theorem dX8_shed_1 : decode cX8_shed 1 = .ok (.getfield 21, 3) := by decide +kernel
theorem dX8_shed_4 : decode cX8_shed 4 = .ok (.iconst 0, 1) := by decide +kernel
theorem dX8_shed_5 : decode cX8_shed 5 = .ok (.invokevirtual 81, 3) := by decide +kernel
theorem dX8_shed_8 : decode cX8_shed 8 = .ok (.aload_n 0, 1) := by decide +kernel
theorem dX8_shed_9 : decode cX8_shed 9 = .ok (.getfield 32, 3) := by decide +kernel
theorem dX8_shed_12 : decode cX8_shed 12 = .ok (.aload_n 0, 1) := by decide +kernel
theorem dX8_shed_13 : decode cX8_shed 13 = .ok (.getfield 21, 3) := by decide +kernel
theorem dX8_shed_16 : decode cX8_shed 16 = .ok (.invokevirtual 85, 3) := by decide +kernel
theorem dX8_shed_19 : decode cX8_shed 19 = .ok (.istore_n 1, 1) := by decide +kernel
theorem dX8_shed_20 : decode cX8_shed 20 = .ok (.aload_n 0, 1) := by decide +kernel
theorem dX8_shed_21 : decode cX8_shed 21 = .ok (.getfield 10, 3) := by decide +kernel
theorem dX8_shed_24 : decode cX8_shed 24 = .ok (.iconst 0, 1) := by decide +kernel
theorem dX8_shed_25 : decode cX8_shed 25 = .ok (.putfield 73, 3) := by decide +kernel
theorem dX8_shed_28 : decode cX8_shed 28 = .ok (.iload_n 1, 1) := by decide +kernel
theorem dX8_shed_29 : decode cX8_shed 29 = .ok (.ifCond .ne 5, 3) := by decide +kernel
theorem dX8_shed_32 : decode cX8_shed 32 = .ok (.iconst (-1), 1) := by decide +kernel
theorem dX8_shed_33 : decode cX8_shed 33 = .ok (.ireturn, 1) := by decide +kernel
theorem dX8_shed_34 : decode cX8_shed 34 = .ok (.aload_n 0, 1) := by decide +kernel
theorem dX8_shed_35 : decode cX8_shed 35 = .ok (.getfield 28, 3) := by decide +kernel
theorem dX8_shed_38 : decode cX8_shed 38 = .ok (.astore_n 2, 1) := by decide +kernel
theorem dX8_shed_39 : decode cX8_shed 39 = .ok (.aload_n 0, 1) := by decide +kernel
theorem dX8_shed_40 : decode cX8_shed 40 = .ok (.aload_n 0, 1) := by decide +kernel
theorem dX8_shed_41 : decode cX8_shed 41 = .ok (.getfield 32, 3) := by decide +kernel
theorem dX8_shed_44 : decode cX8_shed 44 = .ok (.putfield 28, 3) := by decide +kernel
theorem dX8_shed_47 : decode cX8_shed 47 = .ok (.aload_n 0, 1) := by decide +kernel
theorem dX8_shed_48 : decode cX8_shed 48 = .ok (.aload_n 2, 1) := by decide +kernel
theorem dX8_shed_49 : decode cX8_shed 49 = .ok (.putfield 32, 3) := by decide +kernel
theorem dX8_shed_52 : decode cX8_shed 52 = .ok (.aload_n 0, 1) := by decide +kernel
theorem dX8_shed_53 : decode cX8_shed 53 = .ok (.getfield 28, 3) := by decide +kernel
theorem dX8_shed_56 : decode cX8_shed 56 = .ok (.getfield 89, 3) := by decide +kernel
theorem dX8_shed_59 : decode cX8_shed 59 = .ok (.ireturn, 1) := by decide +kernel
theorem dX8_houses_0 : decode cX8_houses 0 = .ok (.aload_n 0, 1) := by decide +kernel
theorem dX8_houses_1 : decode cX8_houses 1 = .ok (.getfield 21, 3) := by decide +kernel
theorem dX8_houses_4 : decode cX8_houses 4 = .ok (.iconst 0, 1) := by decide +kernel
theorem dX8_houses_5 : decode cX8_houses 5 = .ok (.invokevirtual 81, 3) := by decide +kernel
theorem dX8_houses_8 : decode cX8_houses 8 = .ok (.aload_n 0, 1) := by decide +kernel
theorem dX8_houses_9 : decode cX8_houses 9 = .ok (.getfield 42, 3) := by decide +kernel
theorem dX8_houses_12 : decode cX8_houses 12 = .ok (.aload_n 0, 1) := by decide +kernel
theorem dX8_houses_13 : decode cX8_houses 13 = .ok (.getfield 21, 3) := by decide +kernel
theorem dX8_houses_16 : decode cX8_houses 16 = .ok (.invokevirtual 92, 3) := by decide +kernel
theorem dX8_houses_19 : decode cX8_houses 19 = .ok (.istore_n 1, 1) := by decide +kernel
theorem dX8_houses_20 : decode cX8_houses 20 = .ok (.aload_n 0, 1) := by decide +kernel
theorem dX8_houses_21 : decode cX8_houses 21 = .ok (.getfield 10, 3) := by decide +kernel
theorem dX8_houses_24 : decode cX8_houses 24 = .ok (.iconst 0, 1) := by decide +kernel
theorem dX8_houses_25 : decode cX8_houses 25 = .ok (.putfield 73, 3) := by decide +kernel
theorem dX8_houses_28 : decode cX8_houses 28 = .ok (.iload_n 1, 1) := by decide +kernel
theorem dX8_houses_29 : decode cX8_houses 29 = .ok (.ifCond .ne 5, 3) := by decide +kernel
theorem dX8_houses_32 : decode cX8_houses 32 = .ok (.iconst (-1), 1) := by decide +kernel
theorem dX8_houses_33 : decode cX8_houses 33 = .ok (.ireturn, 1) := by decide +kernel
theorem dX8_houses_34 : decode cX8_houses 34 = .ok (.aload_n 0, 1) := by decide +kernel
theorem dX8_houses_35 : decode cX8_houses 35 = .ok (.getfield 38, 3) := by decide +kernel
theorem dX8_houses_38 : decode cX8_houses 38 = .ok (.astore_n 2, 1) := by decide +kernel
theorem dX8_houses_39 : decode cX8_houses 39 = .ok (.aload_n 0, 1) := by decide +kernel
theorem dX8_houses_40 : decode cX8_houses 40 = .ok (.aload_n 0, 1) := by decide +kernel
theorem dX8_houses_41 : decode cX8_houses 41 = .ok (.getfield 42, 3) := by decide +kernel
theorem dX8_houses_44 : decode cX8_houses 44 = .ok (.putfield 38, 3) := by decide +kernel
theorem dX8_houses_47 : decode cX8_houses 47 = .ok (.aload_n 0, 1) := by decide +kernel
theorem dX8_houses_48 : decode cX8_houses 48 = .ok (.aload_n 2, 1) := by decide +kernel
theorem dX8_houses_49 : decode cX8_houses 49 = .ok (.putfield 42, 3) := by decide +kernel
theorem dX8_houses_52 : decode cX8_houses 52 = .ok (.aload_n 0, 1) := by decide +kernel
theorem dX8_houses_53 : decode cX8_houses 53 = .ok (.getfield 38, 3) := by decide +kernel
theorem dX8_houses_56 : decode cX8_houses 56 = .ok (.getfield 93, 3) := by decide +kernel
theorem dX8_houses_59 : decode cX8_houses 59 = .ok (.ireturn, 1) := by decide +kernel
theorem dX8_sum_0 : decode cX8_sum 0 = .ok (.aload_n 0, 1) := by decide +kernel
theorem dX8_sum_1 : decode cX8_sum 1 = .ok (.getfield 21, 3) := by decide +kernel
theorem dX8_sum_4 : decode cX8_sum 4 = .ok (.iconst 1, 1) := by decide +kernel
theorem dX8_sum_5 : decode cX8_sum 5 = .ok (.invokevirtual 81, 3) := by decide +kernel
theorem dX8_sum_8 : decode cX8_sum 8 = .ok (.aload_n 0, 1) := by decide +kernel
theorem dX8_sum_9 : decode cX8_sum 9 = .ok (.getfield 52, 3) := by decide +kernel
theorem dX8_sum_12 : decode cX8_sum 12 = .ok (.aload_n 0, 1) := by decide +kernel
theorem dX8_sum_13 : decode cX8_sum 13 = .ok (.getfield 21, 3) := by decide +kernel
theorem dX8_sum_16 : decode cX8_sum 16 = .ok (.invokevirtual 96, 3) := by decide +kernel
theorem dX8_sum_19 : decode cX8_sum 19 = .ok (.istore_n 1, 1) := by decide +kernel
theorem dX8_sum_20 : decode cX8_sum 20 = .ok (.aload_n 0, 1) := by decide +kernel
theorem dX8_sum_21 : decode cX8_sum 21 = .ok (.getfield 10, 3) := by decide +kernel
theorem dX8_sum_24 : decode cX8_sum 24 = .ok (.iconst 0, 1) := by decide +kernel
theorem dX8_sum_25 : decode cX8_sum 25 = .ok (.putfield 73, 3) := by decide +kernel
theorem dX8_sum_28 : decode cX8_sum 28 = .ok (.iload_n 1, 1) := by decide +kernel
theorem dX8_sum_29 : decode cX8_sum 29 = .ok (.ifCond .ne 5, 3) := by decide +kernel
theorem dX8_sum_32 : decode cX8_sum 32 = .ok (.iconst (-1), 1) := by decide +kernel
theorem dX8_sum_33 : decode cX8_sum 33 = .ok (.ireturn, 1) := by decide +kernel
theorem dX8_sum_34 : decode cX8_sum 34 = .ok (.aload_n 0, 1) := by decide +kernel
theorem dX8_sum_35 : decode cX8_sum 35 = .ok (.getfield 48, 3) := by decide +kernel
theorem dX8_sum_38 : decode cX8_sum 38 = .ok (.astore_n 2, 1) := by decide +kernel
theorem dX8_sum_39 : decode cX8_sum 39 = .ok (.aload_n 0, 1) := by decide +kernel
theorem dX8_sum_40 : decode cX8_sum 40 = .ok (.aload_n 0, 1) := by decide +kernel
theorem dX8_sum_41 : decode cX8_sum 41 = .ok (.getfield 52, 3) := by decide +kernel
theorem dX8_sum_44 : decode cX8_sum 44 = .ok (.putfield 48, 3) := by decide +kernel
theorem dX8_sum_47 : decode cX8_sum 47 = .ok (.aload_n 0, 1) := by decide +kernel
theorem dX8_sum_48 : decode cX8_sum 48 = .ok (.aload_n 2, 1) := by decide +kernel
theorem dX8_sum_49 : decode cX8_sum 49 = .ok (.putfield 52, 3) := by decide +kernel
theorem dX8_sum_52 : decode cX8_sum 52 = .ok (.aload_n 0, 1) := by decide +kernel
theorem dX8_sum_53 : decode cX8_sum 53 = .ok (.getfield 48, 3) := by decide +kernel
theorem dX8_sum_56 : decode cX8_sum 56 = .ok (.getfield 97, 3) := by decide +kernel
theorem dX8_sum_59 : decode cX8_sum 59 = .ok (.ireturn, 1) := by decide +kernel
theorem dX8_fault_0 : decode cX8_fault 0 = .ok (.iload_n 1, 1) := by decide +kernel
theorem dX8_fault_1 : decode cX8_fault 1 = .ok (.lookupswitch 43 #[(0, 27), (1, 35)], 27) := by decide +kernel
theorem dX8_fault_28 : decode cX8_fault 28 = .ok (.aload_n 0, 1) := by decide +kernel
theorem dX8_fault_29 : decode cX8_fault 29 = .ok (.getfield 21, 3) := by decide +kernel
theorem dX8_fault_32 : decode cX8_fault 32 = .ok (.getfield 98, 3) := by decide +kernel
theorem dX8_fault_35 : decode cX8_fault 35 = .ok (.ireturn, 1) := by decide +kernel
theorem dX8_fault_36 : decode cX8_fault 36 = .ok (.aload_n 0, 1) := by decide +kernel
theorem dX8_fault_37 : decode cX8_fault 37 = .ok (.getfield 21, 3) := by decide +kernel
theorem dX8_fault_40 : decode cX8_fault 40 = .ok (.getfield 101, 3) := by decide +kernel
theorem dX8_fault_43 : decode cX8_fault 43 = .ok (.ireturn, 1) := by decide +kernel
theorem dX8_fault_44 : decode cX8_fault 44 = .ok (.iconst (-1), 1) := by decide +kernel
theorem dX8_fault_45 : decode cX8_fault 45 = .ok (.ireturn, 1) := by decide +kernel
theorem dX8_rest_0 : decode cX8_rest 0 = .ok (.iload_n 1, 1) := by decide +kernel
theorem dX8_rest_1 : decode cX8_rest 1 = .ok (.iconst (-1), 1) := by decide +kernel
theorem dX8_rest_2 : decode cX8_rest 2 = .ok (.iconst 1, 1) := by decide +kernel
theorem dX8_rest_3 : decode cX8_rest 3 = .ok (.invokestatic 104, 3) := by decide +kernel
theorem dX8_rest_6 : decode cX8_rest 6 = .ok (.ifCond .eq 23, 3) := by decide +kernel
theorem dX8_rest_9 : decode cX8_rest 9 = .ok (.iload_n 2, 1) := by decide +kernel
theorem dX8_rest_10 : decode cX8_rest 10 = .ok (.iconst 0, 1) := by decide +kernel
theorem dX8_rest_11 : decode cX8_rest 11 = .ok (.sipush 999, 3) := by decide +kernel
theorem dX8_rest_14 : decode cX8_rest 14 = .ok (.invokestatic 104, 3) := by decide +kernel
theorem dX8_rest_17 : decode cX8_rest 17 = .ok (.ifCond .eq 12, 3) := by decide +kernel
theorem dX8_rest_20 : decode cX8_rest 20 = .ok (.iload_n 3, 1) := by decide +kernel
theorem dX8_rest_21 : decode cX8_rest 21 = .ok (.iconst 0, 1) := by decide +kernel
theorem dX8_rest_22 : decode cX8_rest 22 = .ok (.iconst 1, 1) := by decide +kernel
theorem dX8_rest_23 : decode cX8_rest 23 = .ok (.invokestatic 104, 3) := by decide +kernel
theorem dX8_rest_26 : decode cX8_rest 26 = .ok (.ifCond .ne 7, 3) := by decide +kernel
theorem dX8_rest_29 : decode cX8_rest 29 = .ok (.ldc2_w 108, 3) := by decide +kernel
theorem dX8_rest_32 : decode cX8_rest 32 = .ok (.lreturn, 1) := by decide +kernel
theorem dX8_rest_33 : decode cX8_rest 33 = .ok (.aload_n 0, 1) := by decide +kernel
theorem dX8_rest_34 : decode cX8_rest 34 = .ok (.getfield 28, 3) := by decide +kernel
theorem dX8_rest_37 : decode cX8_rest 37 = .ok (.iload_n 1, 1) := by decide +kernel
theorem dX8_rest_38 : decode cX8_rest 38 = .ok (.iload_n 2, 1) := by decide +kernel
theorem dX8_rest_39 : decode cX8_rest 39 = .ok (.invokevirtual 110, 3) := by decide +kernel
theorem dX8_rest_42 : decode cX8_rest 42 = .ok (.aload_n 0, 1) := by decide +kernel
theorem dX8_rest_43 : decode cX8_rest 43 = .ok (.getfield 28, 3) := by decide +kernel
theorem dX8_rest_46 : decode cX8_rest 46 = .ok (.invokevirtual 114, 3) := by decide +kernel
theorem dX8_rest_49 : decode cX8_rest 49 = .ok (.iload_n 3, 1) := by decide +kernel
theorem dX8_rest_50 : decode cX8_rest 50 = .ok (.invokestatic 118, 3) := by decide +kernel
theorem dX8_rest_53 : decode cX8_rest 53 = .ok (.lreturn, 1) := by decide +kernel
theorem dX8_turning_0 : decode cX8_turning 0 = .ok (.iload_n 1, 1) := by decide +kernel
theorem dX8_turning_1 : decode cX8_turning 1 = .ok (.iconst (-1), 1) := by decide +kernel
theorem dX8_turning_2 : decode cX8_turning 2 = .ok (.iconst 1, 1) := by decide +kernel
theorem dX8_turning_3 : decode cX8_turning 3 = .ok (.invokestatic 104, 3) := by decide +kernel
theorem dX8_turning_6 : decode cX8_turning 6 = .ok (.ifCond .eq 38, 3) := by decide +kernel
theorem dX8_turning_9 : decode cX8_turning 9 = .ok (.iload_n 2, 1) := by decide +kernel
theorem dX8_turning_10 : decode cX8_turning 10 = .ok (.iconst 0, 1) := by decide +kernel
theorem dX8_turning_11 : decode cX8_turning 11 = .ok (.sipush 999, 3) := by decide +kernel
theorem dX8_turning_14 : decode cX8_turning 14 = .ok (.invokestatic 104, 3) := by decide +kernel
theorem dX8_turning_17 : decode cX8_turning 17 = .ok (.ifCond .eq 27, 3) := by decide +kernel
theorem dX8_turning_20 : decode cX8_turning 20 = .ok (.iload_n 3, 1) := by decide +kernel
theorem dX8_turning_21 : decode cX8_turning 21 = .ok (.sipush (-9999), 3) := by decide +kernel
theorem dX8_turning_24 : decode cX8_turning 24 = .ok (.sipush 9999, 3) := by decide +kernel
theorem dX8_turning_27 : decode cX8_turning 27 = .ok (.invokestatic 104, 3) := by decide +kernel
theorem dX8_turning_30 : decode cX8_turning 30 = .ok (.ifCond .eq 14, 3) := by decide +kernel
theorem dX8_turning_33 : decode cX8_turning 33 = .ok (.iload 4, 2) := by decide +kernel
theorem dX8_turning_35 : decode cX8_turning 35 = .ok (.iconst 0, 1) := by decide +kernel
theorem dX8_turning_36 : decode cX8_turning 36 = .ok (.bipush 19, 2) := by decide +kernel
theorem dX8_turning_38 : decode cX8_turning 38 = .ok (.invokestatic 104, 3) := by decide +kernel
theorem dX8_turning_41 : decode cX8_turning 41 = .ok (.ifCond .ne 7, 3) := by decide +kernel
theorem dX8_turning_44 : decode cX8_turning 44 = .ok (.ldc2_w 108, 3) := by decide +kernel
theorem dX8_turning_47 : decode cX8_turning 47 = .ok (.lreturn, 1) := by decide +kernel
theorem dX8_turning_48 : decode cX8_turning 48 = .ok (.aload_n 0, 1) := by decide +kernel
theorem dX8_turning_49 : decode cX8_turning 49 = .ok (.getfield 28, 3) := by decide +kernel
theorem dX8_turning_52 : decode cX8_turning 52 = .ok (.iload_n 1, 1) := by decide +kernel
theorem dX8_turning_53 : decode cX8_turning 53 = .ok (.iload_n 2, 1) := by decide +kernel
theorem dX8_turning_54 : decode cX8_turning 54 = .ok (.invokevirtual 110, 3) := by decide +kernel
theorem dX8_turning_57 : decode cX8_turning 57 = .ok (.ldc2_w 122, 3) := by decide +kernel
theorem dX8_turning_60 : decode cX8_turning 60 = .ok (.lmul, 1) := by decide +kernel
theorem dX8_turning_61 : decode cX8_turning 61 = .ok (.aload_n 0, 1) := by decide +kernel
theorem dX8_turning_62 : decode cX8_turning 62 = .ok (.getfield 28, 3) := by decide +kernel
theorem dX8_turning_65 : decode cX8_turning 65 = .ok (.invokevirtual 114, 3) := by decide +kernel
theorem dX8_turning_68 : decode cX8_turning 68 = .ok (.invokestatic 124, 3) := by decide +kernel
theorem dX8_turning_71 : decode cX8_turning 71 = .ok (.lstore 5, 2) := by decide +kernel
theorem dX8_turning_73 : decode cX8_turning 73 = .ok (.aload_n 0, 1) := by decide +kernel
theorem dX8_turning_74 : decode cX8_turning 74 = .ok (.getfield 28, 3) := by decide +kernel
theorem dX8_turning_77 : decode cX8_turning 77 = .ok (.sipush 261, 3) := by decide +kernel
theorem dX8_turning_80 : decode cX8_turning 80 = .ok (.invokevirtual 128, 3) := by decide +kernel
theorem dX8_turning_83 : decode cX8_turning 83 = .ok (.lstore 7, 2) := by decide +kernel
theorem dX8_turning_85 : decode cX8_turning 85 = .ok (.iload_n 3, 1) := by decide +kernel
theorem dX8_turning_86 : decode cX8_turning 86 = .ok (.i2l, 1) := by decide +kernel
theorem dX8_turning_87 : decode cX8_turning 87 = .ok (.ldc2_w 122, 3) := by decide +kernel
theorem dX8_turning_90 : decode cX8_turning 90 = .ok (.lmul, 1) := by decide +kernel
theorem dX8_turning_91 : decode cX8_turning 91 = .ok (.lstore 9, 2) := by decide +kernel
theorem dX8_turning_93 : decode cX8_turning 93 = .ok (.iconst 0, 1) := by decide +kernel
theorem dX8_turning_94 : decode cX8_turning 94 = .ok (.istore 11, 2) := by decide +kernel
theorem dX8_turning_96 : decode cX8_turning 96 = .ok (.iload 11, 2) := by decide +kernel
theorem dX8_turning_98 : decode cX8_turning 98 = .ok (.iload 4, 2) := by decide +kernel
theorem dX8_turning_100 : decode cX8_turning 100 = .ok (.if_icmp .ge 32, 3) := by decide +kernel
theorem dX8_turning_103 : decode cX8_turning 103 = .ok (.ldc2_w 132, 3) := by decide +kernel
theorem dX8_turning_106 : decode cX8_turning 106 = .ok (.lload 5, 2) := by decide +kernel
theorem dX8_turning_108 : decode cX8_turning 108 = .ok (.lmul, 1) := by decide +kernel
theorem dX8_turning_109 : decode cX8_turning 109 = .ok (.lload 9, 2) := by decide +kernel
theorem dX8_turning_111 : decode cX8_turning 111 = .ok (.lload 5, 2) := by decide +kernel
theorem dX8_turning_113 : decode cX8_turning 113 = .ok (.lsub, 1) := by decide +kernel
theorem dX8_turning_114 : decode cX8_turning 114 = .ok (.lload 7, 2) := by decide +kernel
theorem dX8_turning_116 : decode cX8_turning 116 = .ok (.lmul, 1) := by decide +kernel
theorem dX8_turning_117 : decode cX8_turning 117 = .ok (.lsub, 1) := by decide +kernel
theorem dX8_turning_118 : decode cX8_turning 118 = .ok (.ldc2_w 132, 3) := by decide +kernel
theorem dX8_turning_121 : decode cX8_turning 121 = .ok (.invokestatic 124, 3) := by decide +kernel
theorem dX8_turning_124 : decode cX8_turning 124 = .ok (.lstore 9, 2) := by decide +kernel
theorem dX8_turning_126 : decode cX8_turning 126 = .ok (.iinc 11 1, 3) := by decide +kernel
theorem dX8_turning_129 : decode cX8_turning 129 = .ok (.goto (-33), 3) := by decide +kernel
theorem dX8_turning_132 : decode cX8_turning 132 = .ok (.aload_n 0, 1) := by decide +kernel
theorem dX8_turning_133 : decode cX8_turning 133 = .ok (.getfield 28, 3) := by decide +kernel
theorem dX8_turning_136 : decode cX8_turning 136 = .ok (.sipush 262, 3) := by decide +kernel
theorem dX8_turning_139 : decode cX8_turning 139 = .ok (.invokevirtual 128, 3) := by decide +kernel
theorem dX8_turning_142 : decode cX8_turning 142 = .ok (.lstore 11, 2) := by decide +kernel
theorem dX8_turning_144 : decode cX8_turning 144 = .ok (.lload 9, 2) := by decide +kernel
theorem dX8_turning_146 : decode cX8_turning 146 = .ok (.lload 11, 2) := by decide +kernel
theorem dX8_turning_148 : decode cX8_turning 148 = .ok (.ldc2_w 122, 3) := by decide +kernel
theorem dX8_turning_151 : decode cX8_turning 151 = .ok (.lmul, 1) := by decide +kernel
theorem dX8_turning_152 : decode cX8_turning 152 = .ok (.invokestatic 124, 3) := by decide +kernel
theorem dX8_turning_155 : decode cX8_turning 155 = .ok (.lload 11, 2) := by decide +kernel
theorem dX8_turning_157 : decode cX8_turning 157 = .ok (.lmul, 1) := by decide +kernel
theorem dX8_turning_158 : decode cX8_turning 158 = .ok (.lreturn, 1) := by decide +kernel
theorem dX8_had_0 : decode cX8_had 0 = .ok (.iload_n 1, 1) := by decide +kernel
theorem dX8_had_1 : decode cX8_had 1 = .ok (.sipush (-9999), 3) := by decide +kernel
theorem dX8_had_4 : decode cX8_had 4 = .ok (.sipush 9999, 3) := by decide +kernel
theorem dX8_had_7 : decode cX8_had 7 = .ok (.invokestatic 104, 3) := by decide +kernel
theorem dX8_had_10 : decode cX8_had 10 = .ok (.ifCond .eq 49, 3) := by decide +kernel
theorem dX8_had_13 : decode cX8_had 13 = .ok (.iload_n 2, 1) := by decide +kernel
theorem dX8_had_14 : decode cX8_had 14 = .ok (.sipush (-9999), 3) := by decide +kernel
theorem dX8_had_17 : decode cX8_had 17 = .ok (.sipush 9999, 3) := by decide +kernel
theorem dX8_had_20 : decode cX8_had 20 = .ok (.invokestatic 104, 3) := by decide +kernel
theorem dX8_had_23 : decode cX8_had 23 = .ok (.ifCond .eq 36, 3) := by decide +kernel
theorem dX8_had_26 : decode cX8_had 26 = .ok (.iload_n 3, 1) := by decide +kernel
theorem dX8_had_27 : decode cX8_had 27 = .ok (.sipush (-9999), 3) := by decide +kernel
theorem dX8_had_30 : decode cX8_had 30 = .ok (.sipush 9999, 3) := by decide +kernel
theorem dX8_had_33 : decode cX8_had 33 = .ok (.invokestatic 104, 3) := by decide +kernel
theorem dX8_had_36 : decode cX8_had 36 = .ok (.ifCond .eq 23, 3) := by decide +kernel
theorem dX8_had_39 : decode cX8_had 39 = .ok (.iload 4, 2) := by decide +kernel
theorem dX8_had_41 : decode cX8_had 41 = .ok (.iconst 0, 1) := by decide +kernel
theorem dX8_had_42 : decode cX8_had 42 = .ok (.iconst 1, 1) := by decide +kernel
theorem dX8_had_43 : decode cX8_had 43 = .ok (.invokestatic 104, 3) := by decide +kernel
theorem dX8_had_46 : decode cX8_had 46 = .ok (.ifCond .eq 13, 3) := by decide +kernel
theorem dX8_had_49 : decode cX8_had 49 = .ok (.iload 5, 2) := by decide +kernel
theorem dX8_had_51 : decode cX8_had 51 = .ok (.iconst 0, 1) := by decide +kernel
theorem dX8_had_52 : decode cX8_had 52 = .ok (.iconst 1, 1) := by decide +kernel
theorem dX8_had_53 : decode cX8_had 53 = .ok (.invokestatic 104, 3) := by decide +kernel
theorem dX8_had_56 : decode cX8_had 56 = .ok (.ifCond .ne 7, 3) := by decide +kernel
theorem dX8_had_59 : decode cX8_had 59 = .ok (.ldc2_w 108, 3) := by decide +kernel
theorem dX8_had_62 : decode cX8_had 62 = .ok (.lreturn, 1) := by decide +kernel
theorem dX8_had_63 : decode cX8_had 63 = .ok (.iload 4, 2) := by decide +kernel
theorem dX8_had_65 : decode cX8_had 65 = .ok (.ifCond .ne 32, 3) := by decide +kernel
theorem dX8_had_68 : decode cX8_had 68 = .ok (.iload_n 1, 1) := by decide +kernel
theorem dX8_had_69 : decode cX8_had 69 = .ok (.i2l, 1) := by decide +kernel
theorem dX8_had_70 : decode cX8_had 70 = .ok (.iload_n 3, 1) := by decide +kernel
theorem dX8_had_71 : decode cX8_had 71 = .ok (.i2l, 1) := by decide +kernel
theorem dX8_had_72 : decode cX8_had 72 = .ok (.lmul, 1) := by decide +kernel
theorem dX8_had_73 : decode cX8_had 73 = .ok (.iload_n 2, 1) := by decide +kernel
theorem dX8_had_74 : decode cX8_had 74 = .ok (.i2l, 1) := by decide +kernel
theorem dX8_had_75 : decode cX8_had 75 = .ok (.iload_n 2, 1) := by decide +kernel
theorem dX8_had_76 : decode cX8_had 76 = .ok (.i2l, 1) := by decide +kernel
theorem dX8_had_77 : decode cX8_had 77 = .ok (.lmul, 1) := by decide +kernel
theorem dX8_had_78 : decode cX8_had 78 = .ok (.lsub, 1) := by decide +kernel
theorem dX8_had_79 : decode cX8_had 79 = .ok (.iload_n 1, 1) := by decide +kernel
theorem dX8_had_80 : decode cX8_had 80 = .ok (.i2l, 1) := by decide +kernel
theorem dX8_had_81 : decode cX8_had 81 = .ok (.iload_n 3, 1) := by decide +kernel
theorem dX8_had_82 : decode cX8_had 82 = .ok (.i2l, 1) := by decide +kernel
theorem dX8_had_83 : decode cX8_had 83 = .ok (.ladd, 1) := by decide +kernel
theorem dX8_had_84 : decode cX8_had 84 = .ok (.ldc2_w 134, 3) := by decide +kernel
theorem dX8_had_87 : decode cX8_had 87 = .ok (.iload_n 2, 1) := by decide +kernel
theorem dX8_had_88 : decode cX8_had 88 = .ok (.i2l, 1) := by decide +kernel
theorem dX8_had_89 : decode cX8_had 89 = .ok (.lmul, 1) := by decide +kernel
theorem dX8_had_90 : decode cX8_had 90 = .ok (.lsub, 1) := by decide +kernel
theorem dX8_had_91 : decode cX8_had 91 = .ok (.iload 5, 2) := by decide +kernel
theorem dX8_had_93 : decode cX8_had 93 = .ok (.invokestatic 118, 3) := by decide +kernel
theorem dX8_had_96 : decode cX8_had 96 = .ok (.lreturn, 1) := by decide +kernel
theorem dX8_had_97 : decode cX8_had 97 = .ok (.iload_n 2, 1) := by decide +kernel
theorem dX8_had_98 : decode cX8_had 98 = .ok (.i2l, 1) := by decide +kernel
theorem dX8_had_99 : decode cX8_had 99 = .ok (.iload_n 3, 1) := by decide +kernel
theorem dX8_had_100 : decode cX8_had 100 = .ok (.i2l, 1) := by decide +kernel
theorem dX8_had_101 : decode cX8_had 101 = .ok (.lsub, 1) := by decide +kernel
theorem dX8_had_102 : decode cX8_had 102 = .ok (.iload_n 2, 1) := by decide +kernel
theorem dX8_had_103 : decode cX8_had 103 = .ok (.i2l, 1) := by decide +kernel
theorem dX8_had_104 : decode cX8_had 104 = .ok (.iload_n 1, 1) := by decide +kernel
theorem dX8_had_105 : decode cX8_had 105 = .ok (.i2l, 1) := by decide +kernel
theorem dX8_had_106 : decode cX8_had 106 = .ok (.lsub, 1) := by decide +kernel
theorem dX8_had_107 : decode cX8_had 107 = .ok (.iload 5, 2) := by decide +kernel
theorem dX8_had_109 : decode cX8_had 109 = .ok (.invokestatic 118, 3) := by decide +kernel
theorem dX8_had_112 : decode cX8_had 112 = .ok (.lreturn, 1) := by decide +kernel
theorem dX8_reading_0 : decode cX8_reading 0 = .ok (.aload_n 0, 1) := by decide +kernel
theorem dX8_reading_1 : decode cX8_reading 1 = .ok (.getfield 58, 3) := by decide +kernel
theorem dX8_reading_4 : decode cX8_reading 4 = .ok (.iload_n 1, 1) := by decide +kernel
theorem dX8_reading_5 : decode cX8_reading 5 = .ok (.iload_n 2, 1) := by decide +kernel
theorem dX8_reading_6 : decode cX8_reading 6 = .ok (.iload_n 3, 1) := by decide +kernel
theorem dX8_reading_7 : decode cX8_reading 7 = .ok (.invokevirtual 136, 3) := by decide +kernel
theorem dX8_reading_10 : decode cX8_reading 10 = .ok (.ireturn, 1) := by decide +kernel
theorem dX8_untell_0 : decode cX8_untell 0 = .ok (.aload_n 0, 1) := by decide +kernel
theorem dX8_untell_1 : decode cX8_untell 1 = .ok (.getfield 58, 3) := by decide +kernel
theorem dX8_untell_4 : decode cX8_untell 4 = .ok (.iload_n 1, 1) := by decide +kernel
theorem dX8_untell_5 : decode cX8_untell 5 = .ok (.invokevirtual 140, 3) := by decide +kernel
theorem dX8_untell_8 : decode cX8_untell 8 = .ok (.ireturn, 1) := by decide +kernel
theorem dX8_later_0 : decode cX8_later 0 = .ok (.aload_n 0, 1) := by decide +kernel
theorem dX8_later_1 : decode cX8_later 1 = .ok (.getfield 58, 3) := by decide +kernel
theorem dX8_later_4 : decode cX8_later 4 = .ok (.iload_n 1, 1) := by decide +kernel
theorem dX8_later_5 : decode cX8_later 5 = .ok (.invokevirtual 144, 3) := by decide +kernel
theorem dX8_later_8 : decode cX8_later 8 = .ok (.ireturn, 1) := by decide +kernel
theorem dX8_fit_0 : decode cX8_fit 0 = .ok (.iload_n 1, 1) := by decide +kernel
theorem dX8_fit_1 : decode cX8_fit 1 = .ok (.iconst 0, 1) := by decide +kernel
theorem dX8_fit_2 : decode cX8_fit 2 = .ok (.iconst 2, 1) := by decide +kernel
theorem dX8_fit_3 : decode cX8_fit 3 = .ok (.invokestatic 104, 3) := by decide +kernel
theorem dX8_fit_6 : decode cX8_fit 6 = .ok (.ifCond .eq 21, 3) := by decide +kernel
theorem dX8_fit_9 : decode cX8_fit 9 = .ok (.iload_n 2, 1) := by decide +kernel
theorem dX8_fit_10 : decode cX8_fit 10 = .ok (.iconst 0, 1) := by decide +kernel
theorem dX8_fit_11 : decode cX8_fit 11 = .ok (.iconst 4, 1) := by decide +kernel
theorem dX8_fit_12 : decode cX8_fit 12 = .ok (.invokestatic 104, 3) := by decide +kernel
theorem dX8_fit_15 : decode cX8_fit 15 = .ok (.ifCond .eq 12, 3) := by decide +kernel
theorem dX8_fit_18 : decode cX8_fit 18 = .ok (.iload_n 3, 1) := by decide +kernel
theorem dX8_fit_19 : decode cX8_fit 19 = .ok (.iconst 0, 1) := by decide +kernel
theorem dX8_fit_20 : decode cX8_fit 20 = .ok (.iconst 1, 1) := by decide +kernel
theorem dX8_fit_21 : decode cX8_fit 21 = .ok (.invokestatic 104, 3) := by decide +kernel
theorem dX8_fit_24 : decode cX8_fit 24 = .ok (.ifCond .ne 7, 3) := by decide +kernel
theorem dX8_fit_27 : decode cX8_fit 27 = .ok (.ldc2_w 108, 3) := by decide +kernel
theorem dX8_fit_30 : decode cX8_fit 30 = .ok (.lreturn, 1) := by decide +kernel
theorem dX8_fit_31 : decode cX8_fit 31 = .ok (.iload_n 1, 1) := by decide +kernel
theorem dX8_fit_32 : decode cX8_fit 32 = .ok (.iconst 2, 1) := by decide +kernel
theorem dX8_fit_33 : decode cX8_fit 33 = .ok (.iadd, 1) := by decide +kernel
theorem dX8_fit_34 : decode cX8_fit 34 = .ok (.istore 5, 2) := by decide +kernel
theorem dX8_fit_36 : decode cX8_fit 36 = .ok (.aload_n 0, 1) := by decide +kernel
theorem dX8_fit_37 : decode cX8_fit 37 = .ok (.getfield 65, 3) := by decide +kernel
theorem dX8_fit_40 : decode cX8_fit 40 = .ok (.aload_n 0, 1) := by decide +kernel
theorem dX8_fit_41 : decode cX8_fit 41 = .ok (.getfield 58, 3) := by decide +kernel
theorem dX8_fit_44 : decode cX8_fit 44 = .ok (.iload 5, 2) := by decide +kernel
theorem dX8_fit_46 : decode cX8_fit 46 = .ok (.iload 4, 2) := by decide +kernel
theorem dX8_fit_48 : decode cX8_fit 48 = .ok (.invokevirtual 148, 3) := by decide +kernel
theorem dX8_fit_51 : decode cX8_fit 51 = .ok (.ifCond .ne 7, 3) := by decide +kernel
theorem dX8_fit_54 : decode cX8_fit 54 = .ok (.ldc2_w 108, 3) := by decide +kernel
theorem dX8_fit_57 : decode cX8_fit 57 = .ok (.lreturn, 1) := by decide +kernel
theorem dX8_fit_58 : decode cX8_fit 58 = .ok (.iload_n 2, 1) := by decide +kernel
theorem dX8_fit_59 : decode cX8_fit 59 = .ok (.iconst 4, 1) := by decide +kernel
theorem dX8_fit_60 : decode cX8_fit 60 = .ok (.if_icmp .ne 28, 3) := by decide +kernel
theorem dX8_fit_63 : decode cX8_fit 63 = .ok (.aload_n 0, 1) := by decide +kernel
theorem dX8_fit_64 : decode cX8_fit 64 = .ok (.getfield 65, 3) := by decide +kernel
theorem dX8_fit_67 : decode cX8_fit 67 = .ok (.aload_n 0, 1) := by decide +kernel
theorem dX8_fit_68 : decode cX8_fit 68 = .ok (.getfield 58, 3) := by decide +kernel
theorem dX8_fit_71 : decode cX8_fit 71 = .ok (.iload 4, 2) := by decide +kernel
theorem dX8_fit_73 : decode cX8_fit 73 = .ok (.invokevirtual 152, 3) := by decide +kernel
theorem dX8_fit_76 : decode cX8_fit 76 = .ok (.aload_n 0, 1) := by decide +kernel
theorem dX8_fit_77 : decode cX8_fit 77 = .ok (.getfield 65, 3) := by decide +kernel
theorem dX8_fit_80 : decode cX8_fit 80 = .ok (.getfield 156, 3) := by decide +kernel
theorem dX8_fit_83 : decode cX8_fit 83 = .ok (.iload_n 3, 1) := by decide +kernel
theorem dX8_fit_84 : decode cX8_fit 84 = .ok (.invokestatic 118, 3) := by decide +kernel
theorem dX8_fit_87 : decode cX8_fit 87 = .ok (.lreturn, 1) := by decide +kernel
theorem dX8_fit_88 : decode cX8_fit 88 = .ok (.iload_n 2, 1) := by decide +kernel
theorem dX8_fit_89 : decode cX8_fit 89 = .ok (.iload 5, 2) := by decide +kernel
theorem dX8_fit_91 : decode cX8_fit 91 = .ok (.if_icmp .ge 15, 3) := by decide +kernel
theorem dX8_fit_94 : decode cX8_fit 94 = .ok (.aload_n 0, 1) := by decide +kernel
theorem dX8_fit_95 : decode cX8_fit 95 = .ok (.getfield 65, 3) := by decide +kernel
theorem dX8_fit_98 : decode cX8_fit 98 = .ok (.getfield 159, 3) := by decide +kernel
theorem dX8_fit_101 : decode cX8_fit 101 = .ok (.iload_n 2, 1) := by decide +kernel
theorem dX8_fit_102 : decode cX8_fit 102 = .ok (.laload, 1) := by decide +kernel
theorem dX8_fit_103 : decode cX8_fit 103 = .ok (.goto 4, 3) := by decide +kernel
theorem dX8_fit_106 : decode cX8_fit 106 = .ok (.lconst 0, 1) := by decide +kernel
theorem dX8_fit_107 : decode cX8_fit 107 = .ok (.aload_n 0, 1) := by decide +kernel
theorem dX8_fit_108 : decode cX8_fit 108 = .ok (.getfield 65, 3) := by decide +kernel
theorem dX8_fit_111 : decode cX8_fit 111 = .ok (.getfield 156, 3) := by decide +kernel
theorem dX8_fit_114 : decode cX8_fit 114 = .ok (.iload_n 3, 1) := by decide +kernel
theorem dX8_fit_115 : decode cX8_fit 115 = .ok (.invokestatic 118, 3) := by decide +kernel
theorem dX8_fit_118 : decode cX8_fit 118 = .ok (.lreturn, 1) := by decide +kernel
theorem dX8_world_0 : decode cX8_world 0 = .ok (.aload_n 0, 1) := by decide +kernel
theorem dX8_world_1 : decode cX8_world 1 = .ok (.getfield 65, 3) := by decide +kernel
theorem dX8_world_4 : decode cX8_world 4 = .ok (.aload_n 0, 1) := by decide +kernel
theorem dX8_world_5 : decode cX8_world 5 = .ok (.getfield 58, 3) := by decide +kernel
theorem dX8_world_8 : decode cX8_world 8 = .ok (.iconst 3, 1) := by decide +kernel
theorem dX8_world_9 : decode cX8_world 9 = .ok (.iload_n 1, 1) := by decide +kernel
theorem dX8_world_10 : decode cX8_world 10 = .ok (.invokevirtual 148, 3) := by decide +kernel
theorem dX8_world_13 : decode cX8_world 13 = .ok (.ifCond .ne 7, 3) := by decide +kernel
theorem dX8_world_16 : decode cX8_world 16 = .ok (.ldc2_w 163, 3) := by decide +kernel
theorem dX8_world_19 : decode cX8_world 19 = .ok (.lreturn, 1) := by decide +kernel
theorem dX8_world_20 : decode cX8_world 20 = .ok (.aload_n 0, 1) := by decide +kernel
theorem dX8_world_21 : decode cX8_world 21 = .ok (.getfield 65, 3) := by decide +kernel
theorem dX8_world_24 : decode cX8_world 24 = .ok (.getfield 159, 3) := by decide +kernel
theorem dX8_world_27 : decode cX8_world 27 = .ok (.iconst 1, 1) := by decide +kernel
theorem dX8_world_28 : decode cX8_world 28 = .ok (.laload, 1) := by decide +kernel
theorem dX8_world_29 : decode cX8_world 29 = .ok (.ldc2_w 122, 3) := by decide +kernel
theorem dX8_world_32 : decode cX8_world 32 = .ok (.lmul, 1) := by decide +kernel
theorem dX8_world_33 : decode cX8_world 33 = .ok (.aload_n 0, 1) := by decide +kernel
theorem dX8_world_34 : decode cX8_world 34 = .ok (.getfield 65, 3) := by decide +kernel
theorem dX8_world_37 : decode cX8_world 37 = .ok (.getfield 156, 3) := by decide +kernel
theorem dX8_world_40 : decode cX8_world 40 = .ok (.invokestatic 124, 3) := by decide +kernel
theorem dX8_world_43 : decode cX8_world 43 = .ok (.lstore_n 2, 1) := by decide +kernel
theorem dX8_world_44 : decode cX8_world 44 = .ok (.lload_n 2, 1) := by decide +kernel
theorem dX8_world_45 : decode cX8_world 45 = .ok (.lconst 0, 1) := by decide +kernel
theorem dX8_world_46 : decode cX8_world 46 = .ok (.lcmp, 1) := by decide +kernel
theorem dX8_world_47 : decode cX8_world 47 = .ok (.ifCond .gt 7, 3) := by decide +kernel
theorem dX8_world_50 : decode cX8_world 50 = .ok (.ldc2_w 163, 3) := by decide +kernel
theorem dX8_world_53 : decode cX8_world 53 = .ok (.lreturn, 1) := by decide +kernel
theorem dX8_world_54 : decode cX8_world 54 = .ok (.aload_n 0, 1) := by decide +kernel
theorem dX8_world_55 : decode cX8_world 55 = .ok (.getfield 28, 3) := by decide +kernel
theorem dX8_world_58 : decode cX8_world 58 = .ok (.invokevirtual 165, 3) := by decide +kernel
theorem dX8_world_61 : decode cX8_world 61 = .ok (.ldc2_w 168, 3) := by decide +kernel
theorem dX8_world_64 : decode cX8_world 64 = .ok (.lmul, 1) := by decide +kernel
theorem dX8_world_65 : decode cX8_world 65 = .ok (.aload_n 0, 1) := by decide +kernel
theorem dX8_world_66 : decode cX8_world 66 = .ok (.getfield 28, 3) := by decide +kernel
theorem dX8_world_69 : decode cX8_world 69 = .ok (.invokevirtual 114, 3) := by decide +kernel
theorem dX8_world_72 : decode cX8_world 72 = .ok (.invokestatic 124, 3) := by decide +kernel
theorem dX8_world_75 : decode cX8_world 75 = .ok (.lload_n 2, 1) := by decide +kernel
theorem dX8_world_76 : decode cX8_world 76 = .ok (.invokestatic 124, 3) := by decide +kernel
theorem dX8_world_79 : decode cX8_world 79 = .ok (.lreturn, 1) := by decide +kernel
theorem dX8_order_0 : decode cX8_order 0 = .ok (.iload_n 1, 1) := by decide +kernel
theorem dX8_order_1 : decode cX8_order 1 = .ok (.iconst 2, 1) := by decide +kernel
theorem dX8_order_2 : decode cX8_order 2 = .ok (.bipush 12, 2) := by decide +kernel
theorem dX8_order_4 : decode cX8_order 4 = .ok (.invokestatic 104, 3) := by decide +kernel
theorem dX8_order_7 : decode cX8_order 7 = .ok (.ifCond .eq 9, 3) := by decide +kernel
theorem dX8_order_10 : decode cX8_order 10 = .ok (.iload_n 1, 1) := by decide +kernel
theorem dX8_order_11 : decode cX8_order 11 = .ok (.iconst 1, 1) := by decide +kernel
theorem dX8_order_12 : decode cX8_order 12 = .ok (.iand, 1) := by decide +kernel
theorem dX8_order_13 : decode cX8_order 13 = .ok (.ifCond .eq 5, 3) := by decide +kernel
theorem dX8_order_16 : decode cX8_order 16 = .ok (.iconst (-1), 1) := by decide +kernel
theorem dX8_order_17 : decode cX8_order 17 = .ok (.ireturn, 1) := by decide +kernel
theorem dX8_order_18 : decode cX8_order 18 = .ok (.aload_n 0, 1) := by decide +kernel
theorem dX8_order_19 : decode cX8_order 19 = .ok (.getfield 69, 3) := by decide +kernel
theorem dX8_order_22 : decode cX8_order 22 = .ok (.iload_n 1, 1) := by decide +kernel
theorem dX8_order_23 : decode cX8_order 23 = .ok (.iaload, 1) := by decide +kernel
theorem dX8_order_24 : decode cX8_order 24 = .ok (.ifCond .ne 13, 3) := by decide +kernel
theorem dX8_order_27 : decode cX8_order 27 = .ok (.aload_n 0, 1) := by decide +kernel
theorem dX8_order_28 : decode cX8_order 28 = .ok (.getfield 69, 3) := by decide +kernel
theorem dX8_order_31 : decode cX8_order 31 = .ok (.iload_n 1, 1) := by decide +kernel
theorem dX8_order_32 : decode cX8_order 32 = .ok (.iload_n 1, 1) := by decide +kernel
theorem dX8_order_33 : decode cX8_order 33 = .ok (.invokestatic 170, 3) := by decide +kernel
theorem dX8_order_36 : decode cX8_order 36 = .ok (.iastore, 1) := by decide +kernel
theorem dX8_order_37 : decode cX8_order 37 = .ok (.aload_n 0, 1) := by decide +kernel
theorem dX8_order_38 : decode cX8_order 38 = .ok (.getfield 69, 3) := by decide +kernel
theorem dX8_order_41 : decode cX8_order 41 = .ok (.iload_n 1, 1) := by decide +kernel
theorem dX8_order_42 : decode cX8_order 42 = .ok (.iaload, 1) := by decide +kernel
theorem dX8_order_43 : decode cX8_order 43 = .ok (.ireturn, 1) := by decide +kernel
theorem dX8_agree_0 : decode cX8_agree 0 = .ok (.aload_n 0, 1) := by decide +kernel
theorem dX8_agree_1 : decode cX8_agree 1 = .ok (.getfield 38, 3) := by decide +kernel
theorem dX8_agree_4 : decode cX8_agree 4 = .ok (.getfield 93, 3) := by decide +kernel
theorem dX8_agree_7 : decode cX8_agree 7 = .ok (.ifCond .ne 5, 3) := by decide +kernel
theorem dX8_agree_10 : decode cX8_agree 10 = .ok (.iconst (-1), 1) := by decide +kernel
theorem dX8_agree_11 : decode cX8_agree 11 = .ok (.ireturn, 1) := by decide +kernel
theorem dX8_agree_12 : decode cX8_agree 12 = .ok (.iload_n 1, 1) := by decide +kernel
theorem dX8_agree_13 : decode cX8_agree 13 = .ok (.tableswitch 74 0 3 #[31, 39, 47, 66], 31) := by decide +kernel
theorem dX8_agree_44 : decode cX8_agree 44 = .ok (.aload_n 0, 1) := by decide +kernel
theorem dX8_agree_45 : decode cX8_agree 45 = .ok (.getfield 38, 3) := by decide +kernel
theorem dX8_agree_48 : decode cX8_agree 48 = .ok (.invokevirtual 173, 3) := by decide +kernel
theorem dX8_agree_51 : decode cX8_agree 51 = .ok (.ireturn, 1) := by decide +kernel
theorem dX8_agree_52 : decode cX8_agree 52 = .ok (.aload_n 0, 1) := by decide +kernel
theorem dX8_agree_53 : decode cX8_agree 53 = .ok (.getfield 38, 3) := by decide +kernel
theorem dX8_agree_56 : decode cX8_agree 56 = .ok (.invokevirtual 177, 3) := by decide +kernel
theorem dX8_agree_59 : decode cX8_agree 59 = .ok (.ireturn, 1) := by decide +kernel
theorem dX8_agree_60 : decode cX8_agree 60 = .ok (.aload_n 0, 1) := by decide +kernel
theorem dX8_agree_61 : decode cX8_agree 61 = .ok (.getfield 38, 3) := by decide +kernel
theorem dX8_agree_64 : decode cX8_agree 64 = .ok (.getfield 93, 3) := by decide +kernel
theorem dX8_agree_67 : decode cX8_agree 67 = .ok (.aload_n 0, 1) := by decide +kernel
theorem dX8_agree_68 : decode cX8_agree 68 = .ok (.getfield 38, 3) := by decide +kernel
theorem dX8_agree_71 : decode cX8_agree 71 = .ok (.invokevirtual 177, 3) := by decide +kernel
theorem dX8_agree_74 : decode cX8_agree 74 = .ok (.invokestatic 180, 3) := by decide +kernel
theorem dX8_agree_77 : decode cX8_agree 77 = .ok (.isub, 1) := by decide +kernel
theorem dX8_agree_78 : decode cX8_agree 78 = .ok (.ireturn, 1) := by decide +kernel
theorem dX8_agree_79 : decode cX8_agree 79 = .ok (.aload_n 0, 1) := by decide +kernel
theorem dX8_agree_80 : decode cX8_agree 80 = .ok (.getfield 38, 3) := by decide +kernel
theorem dX8_agree_83 : decode cX8_agree 83 = .ok (.invokevirtual 185, 3) := by decide +kernel
theorem dX8_agree_86 : decode cX8_agree 86 = .ok (.ireturn, 1) := by decide +kernel
theorem dX8_agree_87 : decode cX8_agree 87 = .ok (.iconst (-1), 1) := by decide +kernel
theorem dX8_agree_88 : decode cX8_agree 88 = .ok (.ireturn, 1) := by decide +kernel
theorem dX8_line_0 : decode cX8_line 0 = .ok (.iload_n 1, 1) := by decide +kernel
theorem dX8_line_1 : decode cX8_line 1 = .ok (.iconst 0, 1) := by decide +kernel
theorem dX8_line_2 : decode cX8_line 2 = .ok (.aload_n 0, 1) := by decide +kernel
theorem dX8_line_3 : decode cX8_line 3 = .ok (.getfield 48, 3) := by decide +kernel
theorem dX8_line_6 : decode cX8_line 6 = .ok (.getfield 97, 3) := by decide +kernel
theorem dX8_line_9 : decode cX8_line 9 = .ok (.iconst 1, 1) := by decide +kernel
theorem dX8_line_10 : decode cX8_line 10 = .ok (.isub, 1) := by decide +kernel
theorem dX8_line_11 : decode cX8_line 11 = .ok (.invokestatic 104, 3) := by decide +kernel
theorem dX8_line_14 : decode cX8_line 14 = .ok (.ifCond .ne 7, 3) := by decide +kernel
theorem dX8_line_17 : decode cX8_line 17 = .ok (.ldc2_w 108, 3) := by decide +kernel
theorem dX8_line_20 : decode cX8_line 20 = .ok (.lreturn, 1) := by decide +kernel
theorem dX8_line_21 : decode cX8_line 21 = .ok (.iload_n 2, 1) := by decide +kernel
theorem dX8_line_22 : decode cX8_line 22 = .ok (.tableswitch 58 0 2 #[26, 37, 48], 26) := by decide +kernel
theorem dX8_line_48 : decode cX8_line 48 = .ok (.aload_n 0, 1) := by decide +kernel
theorem dX8_line_49 : decode cX8_line 49 = .ok (.getfield 48, 3) := by decide +kernel
theorem dX8_line_52 : decode cX8_line 52 = .ok (.getfield 188, 3) := by decide +kernel
theorem dX8_line_55 : decode cX8_line 55 = .ok (.iload_n 1, 1) := by decide +kernel
theorem dX8_line_56 : decode cX8_line 56 = .ok (.iaload, 1) := by decide +kernel
theorem dX8_line_57 : decode cX8_line 57 = .ok (.i2l, 1) := by decide +kernel
theorem dX8_line_58 : decode cX8_line 58 = .ok (.lreturn, 1) := by decide +kernel
theorem dX8_line_59 : decode cX8_line 59 = .ok (.aload_n 0, 1) := by decide +kernel
theorem dX8_line_60 : decode cX8_line 60 = .ok (.getfield 48, 3) := by decide +kernel
theorem dX8_line_63 : decode cX8_line 63 = .ok (.getfield 191, 3) := by decide +kernel
theorem dX8_line_66 : decode cX8_line 66 = .ok (.iload_n 1, 1) := by decide +kernel
theorem dX8_line_67 : decode cX8_line 67 = .ok (.iaload, 1) := by decide +kernel
theorem dX8_line_68 : decode cX8_line 68 = .ok (.i2l, 1) := by decide +kernel
theorem dX8_line_69 : decode cX8_line 69 = .ok (.lreturn, 1) := by decide +kernel
theorem dX8_line_70 : decode cX8_line 70 = .ok (.aload_n 0, 1) := by decide +kernel
theorem dX8_line_71 : decode cX8_line 71 = .ok (.getfield 48, 3) := by decide +kernel
theorem dX8_line_74 : decode cX8_line 74 = .ok (.iload_n 1, 1) := by decide +kernel
theorem dX8_line_75 : decode cX8_line 75 = .ok (.invokevirtual 194, 3) := by decide +kernel
theorem dX8_line_78 : decode cX8_line 78 = .ok (.i2l, 1) := by decide +kernel
theorem dX8_line_79 : decode cX8_line 79 = .ok (.lreturn, 1) := by decide +kernel
theorem dX8_line_80 : decode cX8_line 80 = .ok (.ldc2_w 108, 3) := by decide +kernel
theorem dX8_line_83 : decode cX8_line 83 = .ok (.lreturn, 1) := by decide +kernel
theorem dX8_right_0 : decode cX8_right 0 = .ok (.aload_n 0, 1) := by decide +kernel
theorem dX8_right_1 : decode cX8_right 1 = .ok (.getfield 48, 3) := by decide +kernel
theorem dX8_right_4 : decode cX8_right 4 = .ok (.getfield 97, 3) := by decide +kernel
theorem dX8_right_7 : decode cX8_right 7 = .ok (.ifCond .ne 9, 3) := by decide +kernel
theorem dX8_right_10 : decode cX8_right 10 = .ok (.ldc2_w 108, 3) := by decide +kernel
theorem dX8_right_13 : decode cX8_right 13 = .ok (.goto 12, 3) := by decide +kernel
theorem dX8_right_16 : decode cX8_right 16 = .ok (.aload_n 0, 1) := by decide +kernel
theorem dX8_right_17 : decode cX8_right 17 = .ok (.getfield 48, 3) := by decide +kernel
theorem dX8_right_20 : decode cX8_right 20 = .ok (.iconst 0, 1) := by decide +kernel
theorem dX8_right_21 : decode cX8_right 21 = .ok (.invokevirtual 197, 3) := by decide +kernel
theorem dX8_right_24 : decode cX8_right 24 = .ok (.i2l, 1) := by decide +kernel
theorem dX8_right_25 : decode cX8_right 25 = .ok (.lreturn, 1) := by decide +kernel
theorem dX8_result_0 : decode cX8_result 0 = .ok (.aload_n 0, 1) := by decide +kernel
theorem dX8_result_1 : decode cX8_result 1 = .ok (.getfield 28, 3) := by decide +kernel
theorem dX8_result_4 : decode cX8_result 4 = .ok (.getfield 200, 3) := by decide +kernel
theorem dX8_result_7 : decode cX8_result 7 = .ok (.iload_n 1, 1) := by decide +kernel
theorem dX8_result_8 : decode cX8_result 8 = .ok (.iload_n 2, 1) := by decide +kernel
theorem dX8_result_9 : decode cX8_result 9 = .ok (.invokevirtual 204, 3) := by decide +kernel
theorem dX8_result_12 : decode cX8_result 12 = .ok (.ireturn, 1) := by decide +kernel
theorem dX8_maybe_0 : decode cX8_maybe 0 = .ok (.aload_n 0, 1) := by decide +kernel
theorem dX8_maybe_1 : decode cX8_maybe 1 = .ok (.getfield 28, 3) := by decide +kernel
theorem dX8_maybe_4 : decode cX8_maybe 4 = .ok (.getfield 200, 3) := by decide +kernel
theorem dX8_maybe_7 : decode cX8_maybe 7 = .ok (.invokevirtual 209, 3) := by decide +kernel
theorem dX8_maybe_10 : decode cX8_maybe 10 = .ok (.ireturn, 1) := by decide +kernel
theorem dX8_next_0 : decode cX8_next 0 = .ok (.aload_n 0, 1) := by decide +kernel
theorem dX8_next_1 : decode cX8_next 1 = .ok (.getfield 28, 3) := by decide +kernel
theorem dX8_next_4 : decode cX8_next 4 = .ok (.getfield 200, 3) := by decide +kernel
theorem dX8_next_7 : decode cX8_next 7 = .ok (.invokevirtual 212, 3) := by decide +kernel
theorem dX8_next_10 : decode cX8_next 10 = .ok (.ireturn, 1) := by decide +kernel
theorem dX8_fewest_0 : decode cX8_fewest 0 = .ok (.aload_n 0, 1) := by decide +kernel
theorem dX8_fewest_1 : decode cX8_fewest 1 = .ok (.getfield 28, 3) := by decide +kernel
theorem dX8_fewest_4 : decode cX8_fewest 4 = .ok (.getfield 200, 3) := by decide +kernel
theorem dX8_fewest_7 : decode cX8_fewest 7 = .ok (.invokevirtual 215, 3) := by decide +kernel
theorem dX8_fewest_10 : decode cX8_fewest 10 = .ok (.ireturn, 1) := by decide +kernel
theorem dX8_about_0 : decode cX8_about 0 = .ok (.iload_n 1, 1) := by decide +kernel
theorem dX8_about_1 : decode cX8_about 1 = .ok (.tableswitch 117 0 7 #[47, 58, 69, 77, 85, 93, 101, 109], 47) := by decide +kernel
theorem dX8_about_48 : decode cX8_about 48 = .ok (.aload_n 0, 1) := by decide +kernel
theorem dX8_about_49 : decode cX8_about 49 = .ok (.getfield 28, 3) := by decide +kernel
theorem dX8_about_52 : decode cX8_about 52 = .ok (.getfield 200, 3) := by decide +kernel
theorem dX8_about_55 : decode cX8_about 55 = .ok (.getfield 218, 3) := by decide +kernel
theorem dX8_about_58 : decode cX8_about 58 = .ok (.ireturn, 1) := by decide +kernel
theorem dX8_about_59 : decode cX8_about 59 = .ok (.aload_n 0, 1) := by decide +kernel
theorem dX8_about_60 : decode cX8_about 60 = .ok (.getfield 28, 3) := by decide +kernel
theorem dX8_about_63 : decode cX8_about 63 = .ok (.getfield 200, 3) := by decide +kernel
theorem dX8_about_66 : decode cX8_about 66 = .ok (.getfield 219, 3) := by decide +kernel
theorem dX8_about_69 : decode cX8_about 69 = .ok (.ireturn, 1) := by decide +kernel
theorem dX8_about_70 : decode cX8_about 70 = .ok (.aload_n 0, 1) := by decide +kernel
theorem dX8_about_71 : decode cX8_about 71 = .ok (.getfield 38, 3) := by decide +kernel
theorem dX8_about_74 : decode cX8_about 74 = .ok (.getfield 93, 3) := by decide +kernel
theorem dX8_about_77 : decode cX8_about 77 = .ok (.ireturn, 1) := by decide +kernel
theorem dX8_about_78 : decode cX8_about 78 = .ok (.aload_n 0, 1) := by decide +kernel
theorem dX8_about_79 : decode cX8_about 79 = .ok (.getfield 48, 3) := by decide +kernel
theorem dX8_about_82 : decode cX8_about 82 = .ok (.getfield 97, 3) := by decide +kernel
theorem dX8_about_85 : decode cX8_about 85 = .ok (.ireturn, 1) := by decide +kernel
theorem dX8_about_86 : decode cX8_about 86 = .ok (.aload_n 0, 1) := by decide +kernel
theorem dX8_about_87 : decode cX8_about 87 = .ok (.getfield 58, 3) := by decide +kernel
theorem dX8_about_90 : decode cX8_about 90 = .ok (.getfield 222, 3) := by decide +kernel
theorem dX8_about_93 : decode cX8_about 93 = .ok (.ireturn, 1) := by decide +kernel
theorem dX8_about_94 : decode cX8_about 94 = .ok (.aload_n 0, 1) := by decide +kernel
theorem dX8_about_95 : decode cX8_about 95 = .ok (.getfield 58, 3) := by decide +kernel
theorem dX8_about_98 : decode cX8_about 98 = .ok (.getfield 223, 3) := by decide +kernel
theorem dX8_about_101 : decode cX8_about 101 = .ok (.ireturn, 1) := by decide +kernel
theorem dX8_about_102 : decode cX8_about 102 = .ok (.aload_n 0, 1) := by decide +kernel
theorem dX8_about_103 : decode cX8_about 103 = .ok (.getfield 10, 3) := by decide +kernel
theorem dX8_about_106 : decode cX8_about 106 = .ok (.getfield 73, 3) := by decide +kernel
theorem dX8_about_109 : decode cX8_about 109 = .ok (.ireturn, 1) := by decide +kernel
theorem dX8_about_110 : decode cX8_about 110 = .ok (.aload_n 0, 1) := by decide +kernel
theorem dX8_about_111 : decode cX8_about 111 = .ok (.getfield 48, 3) := by decide +kernel
theorem dX8_about_114 : decode cX8_about 114 = .ok (.getfield 226, 3) := by decide +kernel
theorem dX8_about_117 : decode cX8_about 117 = .ok (.ireturn, 1) := by decide +kernel
theorem dX8_about_118 : decode cX8_about 118 = .ok (.iconst (-1), 1) := by decide +kernel
theorem dX8_about_119 : decode cX8_about 119 = .ok (.ireturn, 1) := by decide +kernel
theorem dX8_within_0 : decode cX8_within 0 = .ok (.iload_n 0, 1) := by decide +kernel
theorem dX8_within_1 : decode cX8_within 1 = .ok (.iload_n 1, 1) := by decide +kernel
theorem dX8_within_2 : decode cX8_within 2 = .ok (.if_icmp .lt 12, 3) := by decide +kernel
theorem dX8_within_5 : decode cX8_within 5 = .ok (.iload_n 0, 1) := by decide +kernel
theorem dX8_within_6 : decode cX8_within 6 = .ok (.iload_n 2, 1) := by decide +kernel
theorem dX8_within_7 : decode cX8_within 7 = .ok (.if_icmp .gt 7, 3) := by decide +kernel
theorem dX8_within_10 : decode cX8_within 10 = .ok (.iconst 1, 1) := by decide +kernel
theorem dX8_within_11 : decode cX8_within 11 = .ok (.goto 4, 3) := by decide +kernel
theorem dX8_within_14 : decode cX8_within 14 = .ok (.iconst 0, 1) := by decide +kernel
theorem dX8_within_15 : decode cX8_within 15 = .ok (.ireturn, 1) := by decide +kernel
theorem dX8_floorOf_0 : decode cX8_floorOf 0 = .ok (.lload_n 2, 1) := by decide +kernel
theorem dX8_floorOf_1 : decode cX8_floorOf 1 = .ok (.lconst 0, 1) := by decide +kernel
theorem dX8_floorOf_2 : decode cX8_floorOf 2 = .ok (.lcmp, 1) := by decide +kernel
theorem dX8_floorOf_3 : decode cX8_floorOf 3 = .ok (.ifCond .ne 7, 3) := by decide +kernel
theorem dX8_floorOf_6 : decode cX8_floorOf 6 = .ok (.lconst 0, 1) := by decide +kernel
theorem dX8_floorOf_7 : decode cX8_floorOf 7 = .ok (.goto 8, 3) := by decide +kernel
theorem dX8_floorOf_10 : decode cX8_floorOf 10 = .ok (.lload_n 0, 1) := by decide +kernel
theorem dX8_floorOf_11 : decode cX8_floorOf 11 = .ok (.lload_n 2, 1) := by decide +kernel
theorem dX8_floorOf_12 : decode cX8_floorOf 12 = .ok (.invokestatic 229, 3) := by decide +kernel
theorem dX8_floorOf_15 : decode cX8_floorOf 15 = .ok (.lreturn, 1) := by decide +kernel
theorem dX8_lowest_0 : decode cX8_lowest 0 = .ok (.lload_n 2, 1) := by decide +kernel
theorem dX8_lowest_1 : decode cX8_lowest 1 = .ok (.lconst 0, 1) := by decide +kernel
theorem dX8_lowest_2 : decode cX8_lowest 2 = .ok (.lcmp, 1) := by decide +kernel
theorem dX8_lowest_3 : decode cX8_lowest 3 = .ok (.ifCond .ne 7, 3) := by decide +kernel
theorem dX8_lowest_6 : decode cX8_lowest 6 = .ok (.ldc2_w 108, 3) := by decide +kernel
theorem dX8_lowest_9 : decode cX8_lowest 9 = .ok (.lreturn, 1) := by decide +kernel
theorem dX8_lowest_10 : decode cX8_lowest 10 = .ok (.lload_n 0, 1) := by decide +kernel
theorem dX8_lowest_11 : decode cX8_lowest 11 = .ok (.invokestatic 234, 3) := by decide +kernel
theorem dX8_lowest_14 : decode cX8_lowest 14 = .ok (.lload_n 2, 1) := by decide +kernel
theorem dX8_lowest_15 : decode cX8_lowest 15 = .ok (.invokestatic 234, 3) := by decide +kernel
theorem dX8_lowest_18 : decode cX8_lowest 18 = .ok (.invokestatic 238, 3) := by decide +kernel
theorem dX8_lowest_21 : decode cX8_lowest 21 = .ok (.lstore 5, 2) := by decide +kernel
theorem dX8_lowest_23 : decode cX8_lowest 23 = .ok (.lload 5, 2) := by decide +kernel
theorem dX8_lowest_25 : decode cX8_lowest 25 = .ok (.lconst 0, 1) := by decide +kernel
theorem dX8_lowest_26 : decode cX8_lowest 26 = .ok (.lcmp, 1) := by decide +kernel
theorem dX8_lowest_27 : decode cX8_lowest 27 = .ok (.ifCond .ne 7, 3) := by decide +kernel
theorem dX8_lowest_30 : decode cX8_lowest 30 = .ok (.ldc2_w 108, 3) := by decide +kernel
theorem dX8_lowest_33 : decode cX8_lowest 33 = .ok (.lreturn, 1) := by decide +kernel
theorem dX8_lowest_34 : decode cX8_lowest 34 = .ok (.iload 4, 2) := by decide +kernel
theorem dX8_lowest_36 : decode cX8_lowest 36 = .ok (.iconst 1, 1) := by decide +kernel
theorem dX8_lowest_37 : decode cX8_lowest 37 = .ok (.if_icmp .ne 11, 3) := by decide +kernel
theorem dX8_lowest_40 : decode cX8_lowest 40 = .ok (.lload_n 2, 1) := by decide +kernel
theorem dX8_lowest_41 : decode cX8_lowest 41 = .ok (.invokestatic 234, 3) := by decide +kernel
theorem dX8_lowest_44 : decode cX8_lowest 44 = .ok (.lload 5, 2) := by decide +kernel
theorem dX8_lowest_46 : decode cX8_lowest 46 = .ok (.ldiv, 1) := by decide +kernel
theorem dX8_lowest_47 : decode cX8_lowest 47 = .ok (.lreturn, 1) := by decide +kernel
theorem dX8_lowest_48 : decode cX8_lowest 48 = .ok (.lload_n 2, 1) := by decide +kernel
theorem dX8_lowest_49 : decode cX8_lowest 49 = .ok (.lconst 0, 1) := by decide +kernel
theorem dX8_lowest_50 : decode cX8_lowest 50 = .ok (.lcmp, 1) := by decide +kernel
theorem dX8_lowest_51 : decode cX8_lowest 51 = .ok (.ifCond .ge 8, 3) := by decide +kernel
theorem dX8_lowest_54 : decode cX8_lowest 54 = .ok (.lload_n 0, 1) := by decide +kernel
theorem dX8_lowest_55 : decode cX8_lowest 55 = .ok (.lneg, 1) := by decide +kernel
theorem dX8_lowest_56 : decode cX8_lowest 56 = .ok (.goto 4, 3) := by decide +kernel
theorem dX8_lowest_59 : decode cX8_lowest 59 = .ok (.lload_n 0, 1) := by decide +kernel
theorem dX8_lowest_60 : decode cX8_lowest 60 = .ok (.lload 5, 2) := by decide +kernel
theorem dX8_lowest_62 : decode cX8_lowest 62 = .ok (.ldiv, 1) := by decide +kernel
theorem dX8_lowest_63 : decode cX8_lowest 63 = .ok (.lreturn, 1) := by decide +kernel
theorem dX8_commonDivisor_0 : decode cX8_commonDivisor 0 = .ok (.iconst 0, 1) := by decide +kernel
theorem dX8_commonDivisor_1 : decode cX8_commonDivisor 1 = .ok (.istore 4, 2) := by decide +kernel
theorem dX8_commonDivisor_3 : decode cX8_commonDivisor 3 = .ok (.iload 4, 2) := by decide +kernel
theorem dX8_commonDivisor_5 : decode cX8_commonDivisor 5 = .ok (.sipush 200, 3) := by decide +kernel
theorem dX8_commonDivisor_8 : decode cX8_commonDivisor 8 = .ok (.if_icmp .ge 25, 3) := by decide +kernel
theorem dX8_commonDivisor_11 : decode cX8_commonDivisor 11 = .ok (.lload_n 2, 1) := by decide +kernel
theorem dX8_commonDivisor_12 : decode cX8_commonDivisor 12 = .ok (.lconst 0, 1) := by decide +kernel
theorem dX8_commonDivisor_13 : decode cX8_commonDivisor 13 = .ok (.lcmp, 1) := by decide +kernel
theorem dX8_commonDivisor_14 : decode cX8_commonDivisor 14 = .ok (.ifCond .eq 19, 3) := by decide +kernel
theorem dX8_commonDivisor_17 : decode cX8_commonDivisor 17 = .ok (.lload_n 0, 1) := by decide +kernel
theorem dX8_commonDivisor_18 : decode cX8_commonDivisor 18 = .ok (.lload_n 2, 1) := by decide +kernel
theorem dX8_commonDivisor_19 : decode cX8_commonDivisor 19 = .ok (.lrem, 1) := by decide +kernel
theorem dX8_commonDivisor_20 : decode cX8_commonDivisor 20 = .ok (.lstore 5, 2) := by decide +kernel
theorem dX8_commonDivisor_22 : decode cX8_commonDivisor 22 = .ok (.lload_n 2, 1) := by decide +kernel
theorem dX8_commonDivisor_23 : decode cX8_commonDivisor 23 = .ok (.lstore_n 0, 1) := by decide +kernel
theorem dX8_commonDivisor_24 : decode cX8_commonDivisor 24 = .ok (.lload 5, 2) := by decide +kernel
theorem dX8_commonDivisor_26 : decode cX8_commonDivisor 26 = .ok (.lstore_n 2, 1) := by decide +kernel
theorem dX8_commonDivisor_27 : decode cX8_commonDivisor 27 = .ok (.iinc 4 1, 3) := by decide +kernel
theorem dX8_commonDivisor_30 : decode cX8_commonDivisor 30 = .ok (.goto (-27), 3) := by decide +kernel
theorem dX8_commonDivisor_33 : decode cX8_commonDivisor 33 = .ok (.lload_n 0, 1) := by decide +kernel
theorem dX8_commonDivisor_34 : decode cX8_commonDivisor 34 = .ok (.lreturn, 1) := by decide +kernel
theorem dX8_indexOf_0 : decode cX8_indexOf 0 = .ok (.iconst 0, 1) := by decide +kernel
theorem dX8_indexOf_1 : decode cX8_indexOf 1 = .ok (.istore 4, 2) := by decide +kernel
theorem dX8_indexOf_3 : decode cX8_indexOf 3 = .ok (.iload 4, 2) := by decide +kernel
theorem dX8_indexOf_5 : decode cX8_indexOf 5 = .ok (.iload_n 1, 1) := by decide +kernel
theorem dX8_indexOf_6 : decode cX8_indexOf 6 = .ok (.if_icmp .ge 28, 3) := by decide +kernel
theorem dX8_indexOf_9 : decode cX8_indexOf 9 = .ok (.iload 4, 2) := by decide +kernel
theorem dX8_indexOf_11 : decode cX8_indexOf 11 = .ok (.aload_n 0, 1) := by decide +kernel
theorem dX8_indexOf_12 : decode cX8_indexOf 12 = .ok (.arraylength, 1) := by decide +kernel
theorem dX8_indexOf_13 : decode cX8_indexOf 13 = .ok (.if_icmp .ge 21, 3) := by decide +kernel
theorem dX8_indexOf_16 : decode cX8_indexOf 16 = .ok (.aload_n 0, 1) := by decide +kernel
theorem dX8_indexOf_17 : decode cX8_indexOf 17 = .ok (.iload 4, 2) := by decide +kernel
theorem dX8_indexOf_19 : decode cX8_indexOf 19 = .ok (.laload, 1) := by decide +kernel
theorem dX8_indexOf_20 : decode cX8_indexOf 20 = .ok (.lload_n 2, 1) := by decide +kernel
theorem dX8_indexOf_21 : decode cX8_indexOf 21 = .ok (.lcmp, 1) := by decide +kernel
theorem dX8_indexOf_22 : decode cX8_indexOf 22 = .ok (.ifCond .ne 6, 3) := by decide +kernel
theorem dX8_indexOf_25 : decode cX8_indexOf 25 = .ok (.iload 4, 2) := by decide +kernel
theorem dX8_indexOf_27 : decode cX8_indexOf 27 = .ok (.ireturn, 1) := by decide +kernel
theorem dX8_indexOf_28 : decode cX8_indexOf 28 = .ok (.iinc 4 1, 3) := by decide +kernel
theorem dX8_indexOf_31 : decode cX8_indexOf 31 = .ok (.goto (-28), 3) := by decide +kernel
theorem dX8_indexOf_34 : decode cX8_indexOf 34 = .ok (.iconst (-1), 1) := by decide +kernel
theorem dX8_indexOf_35 : decode cX8_indexOf 35 = .ok (.ireturn, 1) := by decide +kernel
theorem dX8_bestOrder_0 : decode cX8_bestOrder 0 = .ok (.iconst 0, 1) := by decide +kernel
theorem dX8_bestOrder_1 : decode cX8_bestOrder 1 = .ok (.istore_n 1, 1) := by decide +kernel
theorem dX8_bestOrder_2 : decode cX8_bestOrder 2 = .ok (.lconst 0, 1) := by decide +kernel
theorem dX8_bestOrder_3 : decode cX8_bestOrder 3 = .ok (.lstore_n 2, 1) := by decide +kernel
theorem dX8_bestOrder_4 : decode cX8_bestOrder 4 = .ok (.iconst 1, 1) := by decide +kernel
theorem dX8_bestOrder_5 : decode cX8_bestOrder 5 = .ok (.istore 4, 2) := by decide +kernel
theorem dX8_bestOrder_7 : decode cX8_bestOrder 7 = .ok (.iload 4, 2) := by decide +kernel
theorem dX8_bestOrder_9 : decode cX8_bestOrder 9 = .ok (.iconst 1, 1) := by decide +kernel
theorem dX8_bestOrder_10 : decode cX8_bestOrder 10 = .ok (.iload_n 0, 1) := by decide +kernel
theorem dX8_bestOrder_11 : decode cX8_bestOrder 11 = .ok (.ishl, 1) := by decide +kernel
theorem dX8_bestOrder_12 : decode cX8_bestOrder 12 = .ok (.if_icmp .ge 45, 3) := by decide +kernel
theorem dX8_bestOrder_15 : decode cX8_bestOrder 15 = .ok (.iload 4, 2) := by decide +kernel
theorem dX8_bestOrder_17 : decode cX8_bestOrder 17 = .ok (.invokestatic 180, 3) := by decide +kernel
theorem dX8_bestOrder_20 : decode cX8_bestOrder 20 = .ok (.iconst 2, 1) := by decide +kernel
theorem dX8_bestOrder_21 : decode cX8_bestOrder 21 = .ok (.imul, 1) := by decide +kernel
theorem dX8_bestOrder_22 : decode cX8_bestOrder 22 = .ok (.iload_n 0, 1) := by decide +kernel
theorem dX8_bestOrder_23 : decode cX8_bestOrder 23 = .ok (.if_icmp .ne 28, 3) := by decide +kernel
theorem dX8_bestOrder_26 : decode cX8_bestOrder 26 = .ok (.iload 4, 2) := by decide +kernel
theorem dX8_bestOrder_28 : decode cX8_bestOrder 28 = .ok (.iload_n 0, 1) := by decide +kernel
theorem dX8_bestOrder_29 : decode cX8_bestOrder 29 = .ok (.invokestatic 241, 3) := by decide +kernel
theorem dX8_bestOrder_32 : decode cX8_bestOrder 32 = .ok (.lstore 5, 2) := by decide +kernel
theorem dX8_bestOrder_34 : decode cX8_bestOrder 34 = .ok (.iload_n 1, 1) := by decide +kernel
theorem dX8_bestOrder_35 : decode cX8_bestOrder 35 = .ok (.ifCond .eq 10, 3) := by decide +kernel
theorem dX8_bestOrder_38 : decode cX8_bestOrder 38 = .ok (.lload 5, 2) := by decide +kernel
theorem dX8_bestOrder_40 : decode cX8_bestOrder 40 = .ok (.lload_n 2, 1) := by decide +kernel
theorem dX8_bestOrder_41 : decode cX8_bestOrder 41 = .ok (.lcmp, 1) := by decide +kernel
theorem dX8_bestOrder_42 : decode cX8_bestOrder 42 = .ok (.ifCond .ge 9, 3) := by decide +kernel
theorem dX8_bestOrder_45 : decode cX8_bestOrder 45 = .ok (.iload 4, 2) := by decide +kernel
theorem dX8_bestOrder_47 : decode cX8_bestOrder 47 = .ok (.istore_n 1, 1) := by decide +kernel
theorem dX8_bestOrder_48 : decode cX8_bestOrder 48 = .ok (.lload 5, 2) := by decide +kernel
theorem dX8_bestOrder_50 : decode cX8_bestOrder 50 = .ok (.lstore_n 2, 1) := by decide +kernel
theorem dX8_bestOrder_51 : decode cX8_bestOrder 51 = .ok (.iinc 4 2, 3) := by decide +kernel
theorem dX8_bestOrder_54 : decode cX8_bestOrder 54 = .ok (.goto (-47), 3) := by decide +kernel
theorem dX8_bestOrder_57 : decode cX8_bestOrder 57 = .ok (.iload_n 1, 1) := by decide +kernel
theorem dX8_bestOrder_58 : decode cX8_bestOrder 58 = .ok (.ireturn, 1) := by decide +kernel
theorem dX8_orderWeight_0 : decode cX8_orderWeight 0 = .ok (.iconst 0, 1) := by decide +kernel
theorem dX8_orderWeight_1 : decode cX8_orderWeight 1 = .ok (.istore_n 2, 1) := by decide +kernel
theorem dX8_orderWeight_2 : decode cX8_orderWeight 2 = .ok (.iconst 0, 1) := by decide +kernel
theorem dX8_orderWeight_3 : decode cX8_orderWeight 3 = .ok (.istore_n 3, 1) := by decide +kernel
theorem dX8_orderWeight_4 : decode cX8_orderWeight 4 = .ok (.iconst 0, 1) := by decide +kernel
theorem dX8_orderWeight_5 : decode cX8_orderWeight 5 = .ok (.istore 4, 2) := by decide +kernel
theorem dX8_orderWeight_7 : decode cX8_orderWeight 7 = .ok (.iconst 0, 1) := by decide +kernel
theorem dX8_orderWeight_8 : decode cX8_orderWeight 8 = .ok (.istore 5, 2) := by decide +kernel
theorem dX8_orderWeight_10 : decode cX8_orderWeight 10 = .ok (.iload 5, 2) := by decide +kernel
theorem dX8_orderWeight_12 : decode cX8_orderWeight 12 = .ok (.iload_n 1, 1) := by decide +kernel
theorem dX8_orderWeight_13 : decode cX8_orderWeight 13 = .ok (.if_icmp .ge 61, 3) := by decide +kernel
theorem dX8_orderWeight_16 : decode cX8_orderWeight 16 = .ok (.iload_n 0, 1) := by decide +kernel
theorem dX8_orderWeight_17 : decode cX8_orderWeight 17 = .ok (.iload 5, 2) := by decide +kernel
theorem dX8_orderWeight_19 : decode cX8_orderWeight 19 = .ok (.ishr, 1) := by decide +kernel
theorem dX8_orderWeight_20 : decode cX8_orderWeight 20 = .ok (.iconst 1, 1) := by decide +kernel
theorem dX8_orderWeight_21 : decode cX8_orderWeight 21 = .ok (.iand, 1) := by decide +kernel
theorem dX8_orderWeight_22 : decode cX8_orderWeight 22 = .ok (.iconst 1, 1) := by decide +kernel
theorem dX8_orderWeight_23 : decode cX8_orderWeight 23 = .ok (.if_icmp .ne 7, 3) := by decide +kernel
theorem dX8_orderWeight_26 : decode cX8_orderWeight 26 = .ok (.iconst 1, 1) := by decide +kernel
theorem dX8_orderWeight_27 : decode cX8_orderWeight 27 = .ok (.goto 4, 3) := by decide +kernel
theorem dX8_orderWeight_30 : decode cX8_orderWeight 30 = .ok (.iconst (-1), 1) := by decide +kernel
theorem dX8_orderWeight_31 : decode cX8_orderWeight 31 = .ok (.istore 6, 2) := by decide +kernel
theorem dX8_orderWeight_33 : decode cX8_orderWeight 33 = .ok (.iload_n 2, 1) := by decide +kernel
theorem dX8_orderWeight_34 : decode cX8_orderWeight 34 = .ok (.iload 6, 2) := by decide +kernel
theorem dX8_orderWeight_36 : decode cX8_orderWeight 36 = .ok (.iload 5, 2) := by decide +kernel
theorem dX8_orderWeight_38 : decode cX8_orderWeight 38 = .ok (.imul, 1) := by decide +kernel
theorem dX8_orderWeight_39 : decode cX8_orderWeight 39 = .ok (.iadd, 1) := by decide +kernel
theorem dX8_orderWeight_40 : decode cX8_orderWeight 40 = .ok (.istore_n 2, 1) := by decide +kernel
theorem dX8_orderWeight_41 : decode cX8_orderWeight 41 = .ok (.iload_n 3, 1) := by decide +kernel
theorem dX8_orderWeight_42 : decode cX8_orderWeight 42 = .ok (.iload 6, 2) := by decide +kernel
theorem dX8_orderWeight_44 : decode cX8_orderWeight 44 = .ok (.iload 5, 2) := by decide +kernel
theorem dX8_orderWeight_46 : decode cX8_orderWeight 46 = .ok (.imul, 1) := by decide +kernel
theorem dX8_orderWeight_47 : decode cX8_orderWeight 47 = .ok (.iload 5, 2) := by decide +kernel
theorem dX8_orderWeight_49 : decode cX8_orderWeight 49 = .ok (.imul, 1) := by decide +kernel
theorem dX8_orderWeight_50 : decode cX8_orderWeight 50 = .ok (.iadd, 1) := by decide +kernel
theorem dX8_orderWeight_51 : decode cX8_orderWeight 51 = .ok (.istore_n 3, 1) := by decide +kernel
theorem dX8_orderWeight_52 : decode cX8_orderWeight 52 = .ok (.iload 4, 2) := by decide +kernel
theorem dX8_orderWeight_54 : decode cX8_orderWeight 54 = .ok (.iload 6, 2) := by decide +kernel
theorem dX8_orderWeight_56 : decode cX8_orderWeight 56 = .ok (.iload 5, 2) := by decide +kernel
theorem dX8_orderWeight_58 : decode cX8_orderWeight 58 = .ok (.imul, 1) := by decide +kernel
theorem dX8_orderWeight_59 : decode cX8_orderWeight 59 = .ok (.iload 5, 2) := by decide +kernel
theorem dX8_orderWeight_61 : decode cX8_orderWeight 61 = .ok (.imul, 1) := by decide +kernel
theorem dX8_orderWeight_62 : decode cX8_orderWeight 62 = .ok (.iload 5, 2) := by decide +kernel
theorem dX8_orderWeight_64 : decode cX8_orderWeight 64 = .ok (.imul, 1) := by decide +kernel
theorem dX8_orderWeight_65 : decode cX8_orderWeight 65 = .ok (.iadd, 1) := by decide +kernel
theorem dX8_orderWeight_66 : decode cX8_orderWeight 66 = .ok (.istore 4, 2) := by decide +kernel
theorem dX8_orderWeight_68 : decode cX8_orderWeight 68 = .ok (.iinc 5 1, 3) := by decide +kernel
theorem dX8_orderWeight_71 : decode cX8_orderWeight 71 = .ok (.goto (-61), 3) := by decide +kernel
theorem dX8_orderWeight_74 : decode cX8_orderWeight 74 = .ok (.iload_n 2, 1) := by decide +kernel
theorem dX8_orderWeight_75 : decode cX8_orderWeight 75 = .ok (.invokestatic 244, 3) := by decide +kernel
theorem dX8_orderWeight_78 : decode cX8_orderWeight 78 = .ok (.i2l, 1) := by decide +kernel
theorem dX8_orderWeight_79 : decode cX8_orderWeight 79 = .ok (.ldc2_w 246, 3) := by decide +kernel
theorem dX8_orderWeight_82 : decode cX8_orderWeight 82 = .ok (.lmul, 1) := by decide +kernel
theorem dX8_orderWeight_83 : decode cX8_orderWeight 83 = .ok (.iload_n 3, 1) := by decide +kernel
theorem dX8_orderWeight_84 : decode cX8_orderWeight 84 = .ok (.invokestatic 244, 3) := by decide +kernel
theorem dX8_orderWeight_87 : decode cX8_orderWeight 87 = .ok (.i2l, 1) := by decide +kernel
theorem dX8_orderWeight_88 : decode cX8_orderWeight 88 = .ok (.ladd, 1) := by decide +kernel
theorem dX8_orderWeight_89 : decode cX8_orderWeight 89 = .ok (.ldc2_w 246, 3) := by decide +kernel
theorem dX8_orderWeight_92 : decode cX8_orderWeight 92 = .ok (.lmul, 1) := by decide +kernel
theorem dX8_orderWeight_93 : decode cX8_orderWeight 93 = .ok (.iload 4, 2) := by decide +kernel
theorem dX8_orderWeight_95 : decode cX8_orderWeight 95 = .ok (.invokestatic 244, 3) := by decide +kernel
theorem dX8_orderWeight_98 : decode cX8_orderWeight 98 = .ok (.i2l, 1) := by decide +kernel
theorem dX8_orderWeight_99 : decode cX8_orderWeight 99 = .ok (.ladd, 1) := by decide +kernel
theorem dX8_orderWeight_100 : decode cX8_orderWeight 100 = .ok (.lreturn, 1) := by decide +kernel
theorem dX9_init_0 : decode cX9_init 0 = .ok (.aload_n 0, 1) := by decide +kernel
theorem dX9_init_1 : decode cX9_init 1 = .ok (.invokespecial 1, 3) := by decide +kernel
theorem dX9_init_4 : decode cX9_init 4 = .ok (.aload_n 0, 1) := by decide +kernel
theorem dX9_init_5 : decode cX9_init 5 = .ok (.sipush 800, 3) := by decide +kernel
theorem dX9_init_8 : decode cX9_init 8 = .ok (.newarray .int, 2) := by decide +kernel
theorem dX9_init_10 : decode cX9_init 10 = .ok (.putfield 7, 3) := by decide +kernel
theorem dX9_init_13 : decode cX9_init 13 = .ok (.aload_n 0, 1) := by decide +kernel
theorem dX9_init_14 : decode cX9_init 14 = .ok (.iconst (-1), 1) := by decide +kernel
theorem dX9_init_15 : decode cX9_init 15 = .ok (.putfield 13, 3) := by decide +kernel
theorem dX9_init_18 : decode cX9_init 18 = .ok (.aload_n 0, 1) := by decide +kernel
theorem dX9_init_19 : decode cX9_init 19 = .ok (.bipush 11, 2) := by decide +kernel
theorem dX9_init_21 : decode cX9_init 21 = .ok (.newarray .int, 2) := by decide +kernel
theorem dX9_init_23 : decode cX9_init 23 = .ok (.putfield 17, 3) := by decide +kernel
theorem dX9_init_26 : decode cX9_init 26 = .ok (.aload_n 0, 1) := by decide +kernel
theorem dX9_init_27 : decode cX9_init 27 = .ok (.bipush 11, 2) := by decide +kernel
theorem dX9_init_29 : decode cX9_init 29 = .ok (.newarray .int, 2) := by decide +kernel
theorem dX9_init_31 : decode cX9_init 31 = .ok (.putfield 20, 3) := by decide +kernel
theorem dX9_init_34 : decode cX9_init 34 = .ok (.aload_n 0, 1) := by decide +kernel
theorem dX9_init_35 : decode cX9_init 35 = .ok (.bipush 8, 2) := by decide +kernel
theorem dX9_init_37 : decode cX9_init 37 = .ok (.newarray .int, 2) := by decide +kernel
theorem dX9_init_39 : decode cX9_init 39 = .ok (.putfield 23, 3) := by decide +kernel
theorem dX9_init_42 : decode cX9_init 42 = .ok (.aload_n 0, 1) := by decide +kernel
theorem dX9_init_43 : decode cX9_init 43 = .ok (.bipush 8, 2) := by decide +kernel
theorem dX9_init_45 : decode cX9_init 45 = .ok (.newarray .int, 2) := by decide +kernel
theorem dX9_init_47 : decode cX9_init 47 = .ok (.putfield 26, 3) := by decide +kernel
theorem dX9_init_50 : decode cX9_init 50 = .ok (.aload_n 0, 1) := by decide +kernel
theorem dX9_init_51 : decode cX9_init 51 = .ok (.bipush 11, 2) := by decide +kernel
theorem dX9_init_53 : decode cX9_init 53 = .ok (.newarray .boolean, 2) := by decide +kernel
theorem dX9_init_55 : decode cX9_init 55 = .ok (.putfield 29, 3) := by decide +kernel
theorem dX9_init_58 : decode cX9_init 58 = .ok (.aload_n 0, 1) := by decide +kernel
theorem dX9_init_59 : decode cX9_init 59 = .ok (.bipush 8, 2) := by decide +kernel
theorem dX9_init_61 : decode cX9_init 61 = .ok (.newarray .long, 2) := by decide +kernel
theorem dX9_init_63 : decode cX9_init 63 = .ok (.putfield 33, 3) := by decide +kernel
theorem dX9_init_66 : decode cX9_init 66 = .ok (.aload_n 0, 1) := by decide +kernel
theorem dX9_init_67 : decode cX9_init 67 = .ok (.bipush 8, 2) := by decide +kernel
theorem dX9_init_69 : decode cX9_init 69 = .ok (.newarray .long, 2) := by decide +kernel
theorem dX9_init_71 : decode cX9_init 71 = .ok (.putfield 37, 3) := by decide +kernel
theorem dX9_init_74 : decode cX9_init 74 = .ok (.aload_n 0, 1) := by decide +kernel
theorem dX9_init_75 : decode cX9_init 75 = .ok (.bipush 40, 2) := by decide +kernel
theorem dX9_init_77 : decode cX9_init 77 = .ok (.newarray .int, 2) := by decide +kernel
theorem dX9_init_79 : decode cX9_init 79 = .ok (.putfield 40, 3) := by decide +kernel
theorem dX9_init_82 : decode cX9_init 82 = .ok (.aload_n 0, 1) := by decide +kernel
theorem dX9_init_83 : decode cX9_init 83 = .ok (.bipush 40, 2) := by decide +kernel
theorem dX9_init_85 : decode cX9_init 85 = .ok (.newarray .int, 2) := by decide +kernel
theorem dX9_init_87 : decode cX9_init 87 = .ok (.putfield 43, 3) := by decide +kernel
theorem dX9_init_90 : decode cX9_init 90 = .ok (.aload_n 0, 1) := by decide +kernel
theorem dX9_init_91 : decode cX9_init 91 = .ok (.bipush 40, 2) := by decide +kernel
theorem dX9_init_93 : decode cX9_init 93 = .ok (.newarray .int, 2) := by decide +kernel
theorem dX9_init_95 : decode cX9_init 95 = .ok (.putfield 46, 3) := by decide +kernel
theorem dX9_init_98 : decode cX9_init 98 = .ok (.aload_n 0, 1) := by decide +kernel
theorem dX9_init_99 : decode cX9_init 99 = .ok (.bipush 40, 2) := by decide +kernel
theorem dX9_init_101 : decode cX9_init 101 = .ok (.newarray .int, 2) := by decide +kernel
theorem dX9_init_103 : decode cX9_init 103 = .ok (.putfield 49, 3) := by decide +kernel
theorem dX9_init_106 : decode cX9_init 106 = .ok (.aload_n 0, 1) := by decide +kernel
theorem dX9_init_107 : decode cX9_init 107 = .ok (.bipush 40, 2) := by decide +kernel
theorem dX9_init_109 : decode cX9_init 109 = .ok (.newarray .int, 2) := by decide +kernel
theorem dX9_init_111 : decode cX9_init 111 = .ok (.putfield 52, 3) := by decide +kernel
theorem dX9_init_114 : decode cX9_init 114 = .ok (.aload_n 0, 1) := by decide +kernel
theorem dX9_init_115 : decode cX9_init 115 = .ok (.bipush 16, 2) := by decide +kernel
theorem dX9_init_117 : decode cX9_init 117 = .ok (.newarray .long, 2) := by decide +kernel
theorem dX9_init_119 : decode cX9_init 119 = .ok (.putfield 55, 3) := by decide +kernel
theorem dX9_init_122 : decode cX9_init 122 = .ok (.aload_n 0, 1) := by decide +kernel
theorem dX9_init_123 : decode cX9_init 123 = .ok (.iconst 4, 1) := by decide +kernel
theorem dX9_init_124 : decode cX9_init 124 = .ok (.newarray .long, 2) := by decide +kernel
theorem dX9_init_126 : decode cX9_init 126 = .ok (.putfield 58, 3) := by decide +kernel
theorem dX9_init_129 : decode cX9_init 129 = .ok (.aload_n 0, 1) := by decide +kernel
theorem dX9_init_130 : decode cX9_init 130 = .ok (.bipush 16, 2) := by decide +kernel
theorem dX9_init_132 : decode cX9_init 132 = .ok (.newarray .long, 2) := by decide +kernel
theorem dX9_init_134 : decode cX9_init 134 = .ok (.putfield 61, 3) := by decide +kernel
theorem dX9_init_137 : decode cX9_init 137 = .ok (.aload_n 0, 1) := by decide +kernel
theorem dX9_init_138 : decode cX9_init 138 = .ok (.iconst 4, 1) := by decide +kernel
theorem dX9_init_139 : decode cX9_init 139 = .ok (.newarray .long, 2) := by decide +kernel
theorem dX9_init_141 : decode cX9_init 141 = .ok (.putfield 64, 3) := by decide +kernel
theorem dX9_init_144 : decode cX9_init 144 = .ok (.aload_n 0, 1) := by decide +kernel
theorem dX9_init_145 : decode cX9_init 145 = .ok (.iconst 3, 1) := by decide +kernel
theorem dX9_init_146 : decode cX9_init 146 = .ok (.newarray .long, 2) := by decide +kernel
theorem dX9_init_148 : decode cX9_init 148 = .ok (.putfield 67, 3) := by decide +kernel
theorem dX9_init_151 : decode cX9_init 151 = .ok (.aload_n 0, 1) := by decide +kernel
theorem dX9_init_152 : decode cX9_init 152 = .ok (.iconst 3, 1) := by decide +kernel
theorem dX9_init_153 : decode cX9_init 153 = .ok (.newarray .long, 2) := by decide +kernel
theorem dX9_init_155 : decode cX9_init 155 = .ok (.putfield 70, 3) := by decide +kernel
theorem dX9_init_158 : decode cX9_init 158 = .ok (.aload_n 0, 1) := by decide +kernel
theorem dX9_init_159 : decode cX9_init 159 = .ok (.bipush 12, 2) := by decide +kernel
theorem dX9_init_161 : decode cX9_init 161 = .ok (.newarray .long, 2) := by decide +kernel
theorem dX9_init_163 : decode cX9_init 163 = .ok (.putfield 73, 3) := by decide +kernel
theorem dX9_init_166 : decode cX9_init 166 = .ok (.aload_n 0, 1) := by decide +kernel
theorem dX9_init_167 : decode cX9_init 167 = .ok (.bipush 12, 2) := by decide +kernel
theorem dX9_init_169 : decode cX9_init 169 = .ok (.newarray .long, 2) := by decide +kernel
theorem dX9_init_171 : decode cX9_init 171 = .ok (.putfield 76, 3) := by decide +kernel
theorem dX9_init_174 : decode cX9_init 174 = .ok (.aload_n 0, 1) := by decide +kernel
theorem dX9_init_175 : decode cX9_init 175 = .ok (.bipush 12, 2) := by decide +kernel
theorem dX9_init_177 : decode cX9_init 177 = .ok (.newarray .long, 2) := by decide +kernel
theorem dX9_init_179 : decode cX9_init 179 = .ok (.putfield 79, 3) := by decide +kernel
theorem dX9_init_182 : decode cX9_init 182 = .ok (.aload_n 0, 1) := by decide +kernel
theorem dX9_init_183 : decode cX9_init 183 = .ok (.bipush 12, 2) := by decide +kernel
theorem dX9_init_185 : decode cX9_init 185 = .ok (.newarray .long, 2) := by decide +kernel
theorem dX9_init_187 : decode cX9_init 187 = .ok (.putfield 82, 3) := by decide +kernel
theorem dX9_init_190 : decode cX9_init 190 = .ok (.aload_n 0, 1) := by decide +kernel
theorem dX9_init_191 : decode cX9_init 191 = .ok (.bipush 12, 2) := by decide +kernel
theorem dX9_init_193 : decode cX9_init 193 = .ok (.newarray .long, 2) := by decide +kernel
theorem dX9_init_195 : decode cX9_init 195 = .ok (.putfield 85, 3) := by decide +kernel
theorem dX9_init_198 : decode cX9_init 198 = .ok (.aload_n 0, 1) := by decide +kernel
theorem dX9_init_199 : decode cX9_init 199 = .ok (.bipush 12, 2) := by decide +kernel
theorem dX9_init_201 : decode cX9_init 201 = .ok (.newarray .int, 2) := by decide +kernel
theorem dX9_init_203 : decode cX9_init 203 = .ok (.putfield 88, 3) := by decide +kernel
theorem dX9_init_206 : decode cX9_init 206 = .ok (.aload_n 0, 1) := by decide +kernel
theorem dX9_init_207 : decode cX9_init 207 = .ok (.bipush 12, 2) := by decide +kernel
theorem dX9_init_209 : decode cX9_init 209 = .ok (.newarray .int, 2) := by decide +kernel
theorem dX9_init_211 : decode cX9_init 211 = .ok (.putfield 91, 3) := by decide +kernel
theorem dX9_init_214 : decode cX9_init 214 = .ok (.aload_n 0, 1) := by decide +kernel
theorem dX9_init_215 : decode cX9_init 215 = .ok (.bipush 12, 2) := by decide +kernel
theorem dX9_init_217 : decode cX9_init 217 = .ok (.newarray .int, 2) := by decide +kernel
theorem dX9_init_219 : decode cX9_init 219 = .ok (.putfield 94, 3) := by decide +kernel
theorem dX9_init_222 : decode cX9_init 222 = .ok (.aload_n 0, 1) := by decide +kernel
theorem dX9_init_223 : decode cX9_init 223 = .ok (.bipush 12, 2) := by decide +kernel
theorem dX9_init_225 : decode cX9_init 225 = .ok (.newarray .int, 2) := by decide +kernel
theorem dX9_init_227 : decode cX9_init 227 = .ok (.putfield 97, 3) := by decide +kernel
theorem dX9_init_230 : decode cX9_init 230 = .ok (.aload_n 0, 1) := by decide +kernel
theorem dX9_init_231 : decode cX9_init 231 = .ok (.bipush 12, 2) := by decide +kernel
theorem dX9_init_233 : decode cX9_init 233 = .ok (.newarray .long, 2) := by decide +kernel
theorem dX9_init_235 : decode cX9_init 235 = .ok (.putfield 100, 3) := by decide +kernel
theorem dX9_init_238 : decode cX9_init 238 = .ok (.aload_n 0, 1) := by decide +kernel
theorem dX9_init_239 : decode cX9_init 239 = .ok (.sipush 300, 3) := by decide +kernel
theorem dX9_init_242 : decode cX9_init 242 = .ok (.newarray .int, 2) := by decide +kernel
theorem dX9_init_244 : decode cX9_init 244 = .ok (.putfield 103, 3) := by decide +kernel
theorem dX9_init_247 : decode cX9_init 247 = .ok (.aload_n 0, 1) := by decide +kernel
theorem dX9_init_248 : decode cX9_init 248 = .ok (.sipush 300, 3) := by decide +kernel
theorem dX9_init_251 : decode cX9_init 251 = .ok (.newarray .int, 2) := by decide +kernel
theorem dX9_init_253 : decode cX9_init 253 = .ok (.putfield 106, 3) := by decide +kernel
theorem dX9_init_256 : decode cX9_init 256 = .ok (.aload_n 0, 1) := by decide +kernel
theorem dX9_init_257 : decode cX9_init 257 = .ok (.bipush 13, 2) := by decide +kernel
theorem dX9_init_259 : decode cX9_init 259 = .ok (.newarray .int, 2) := by decide +kernel
theorem dX9_init_261 : decode cX9_init 261 = .ok (.putfield 109, 3) := by decide +kernel
theorem dX9_init_264 : decode cX9_init 264 = .ok (.aload_n 0, 1) := by decide +kernel
theorem dX9_init_265 : decode cX9_init 265 = .ok (.bipush 12, 2) := by decide +kernel
theorem dX9_init_267 : decode cX9_init 267 = .ok (.newarray .int, 2) := by decide +kernel
theorem dX9_init_269 : decode cX9_init 269 = .ok (.putfield 112, 3) := by decide +kernel
theorem dX9_init_272 : decode cX9_init 272 = .ok (.aload_n 0, 1) := by decide +kernel
theorem dX9_init_273 : decode cX9_init 273 = .ok (.sipush 300, 3) := by decide +kernel
theorem dX9_init_276 : decode cX9_init 276 = .ok (.newarray .int, 2) := by decide +kernel
theorem dX9_init_278 : decode cX9_init 278 = .ok (.putfield 115, 3) := by decide +kernel
theorem dX9_init_281 : decode cX9_init 281 = .ok (.aload_n 0, 1) := by decide +kernel
theorem dX9_init_282 : decode cX9_init 282 = .ok (.sipush 300, 3) := by decide +kernel
theorem dX9_init_285 : decode cX9_init 285 = .ok (.newarray .int, 2) := by decide +kernel
theorem dX9_init_287 : decode cX9_init 287 = .ok (.putfield 118, 3) := by decide +kernel
theorem dX9_init_290 : decode cX9_init 290 = .ok (.aload_n 0, 1) := by decide +kernel
theorem dX9_init_291 : decode cX9_init 291 = .ok (.bipush 13, 2) := by decide +kernel
theorem dX9_init_293 : decode cX9_init 293 = .ok (.newarray .int, 2) := by decide +kernel
theorem dX9_init_295 : decode cX9_init 295 = .ok (.putfield 121, 3) := by decide +kernel
theorem dX9_init_298 : decode cX9_init 298 = .ok (.aload_n 0, 1) := by decide +kernel
theorem dX9_init_299 : decode cX9_init 299 = .ok (.bipush 12, 2) := by decide +kernel
theorem dX9_init_301 : decode cX9_init 301 = .ok (.newarray .int, 2) := by decide +kernel
theorem dX9_init_303 : decode cX9_init 303 = .ok (.putfield 124, 3) := by decide +kernel
theorem dX9_init_306 : decode cX9_init 306 = .ok (.aload_n 0, 1) := by decide +kernel
theorem dX9_init_307 : decode cX9_init 307 = .ok (.sipush 200, 3) := by decide +kernel
theorem dX9_init_310 : decode cX9_init 310 = .ok (.newarray .int, 2) := by decide +kernel
theorem dX9_init_312 : decode cX9_init 312 = .ok (.putfield 127, 3) := by decide +kernel
theorem dX9_init_315 : decode cX9_init 315 = .ok (.aload_n 0, 1) := by decide +kernel
theorem dX9_init_316 : decode cX9_init 316 = .ok (.bipush 70, 2) := by decide +kernel
theorem dX9_init_318 : decode cX9_init 318 = .ok (.newarray .int, 2) := by decide +kernel
theorem dX9_init_320 : decode cX9_init 320 = .ok (.putfield 130, 3) := by decide +kernel
theorem dX9_init_323 : decode cX9_init 323 = .ok (.aload_n 0, 1) := by decide +kernel
theorem dX9_init_324 : decode cX9_init 324 = .ok (.bipush 12, 2) := by decide +kernel
theorem dX9_init_326 : decode cX9_init 326 = .ok (.newarray .int, 2) := by decide +kernel
theorem dX9_init_328 : decode cX9_init 328 = .ok (.putfield 133, 3) := by decide +kernel
theorem dX9_init_331 : decode cX9_init 331 = .ok (.aload_n 0, 1) := by decide +kernel
theorem dX9_init_332 : decode cX9_init 332 = .ok (.bipush 8, 2) := by decide +kernel
theorem dX9_init_334 : decode cX9_init 334 = .ok (.newarray .boolean, 2) := by decide +kernel
theorem dX9_init_336 : decode cX9_init 336 = .ok (.putfield 136, 3) := by decide +kernel
theorem dX9_init_339 : decode cX9_init 339 = .ok (.aload_n 0, 1) := by decide +kernel
theorem dX9_init_340 : decode cX9_init 340 = .ok (.bipush 8, 2) := by decide +kernel
theorem dX9_init_342 : decode cX9_init 342 = .ok (.newarray .boolean, 2) := by decide +kernel
theorem dX9_init_344 : decode cX9_init 344 = .ok (.putfield 139, 3) := by decide +kernel
theorem dX9_init_347 : decode cX9_init 347 = .ok (.aload_n 0, 1) := by decide +kernel
theorem dX9_init_348 : decode cX9_init 348 = .ok (.sipush 256, 3) := by decide +kernel
theorem dX9_init_351 : decode cX9_init 351 = .ok (.newarray .int, 2) := by decide +kernel
theorem dX9_init_353 : decode cX9_init 353 = .ok (.putfield 142, 3) := by decide +kernel
theorem dX9_init_356 : decode cX9_init 356 = .ok (.aload_n 0, 1) := by decide +kernel
theorem dX9_init_357 : decode cX9_init 357 = .ok (.invokevirtual 145, 3) := by decide +kernel
theorem dX9_init_360 : decode cX9_init 360 = .ok (.return_, 1) := by decide +kernel
theorem dX9_feed_0 : decode cX9_feed 0 = .ok (.aload_n 0, 1) := by decide +kernel
theorem dX9_feed_1 : decode cX9_feed 1 = .ok (.getfield 148, 3) := by decide +kernel
theorem dX9_feed_4 : decode cX9_feed 4 = .ok (.bipush 20, 2) := by decide +kernel
theorem dX9_feed_6 : decode cX9_feed 6 = .ok (.iadd, 1) := by decide +kernel
theorem dX9_feed_7 : decode cX9_feed 7 = .ok (.sipush 800, 3) := by decide +kernel
theorem dX9_feed_10 : decode cX9_feed 10 = .ok (.if_icmp .le 5, 3) := by decide +kernel
theorem dX9_feed_13 : decode cX9_feed 13 = .ok (.iconst (-1), 1) := by decide +kernel
theorem dX9_feed_14 : decode cX9_feed 14 = .ok (.ireturn, 1) := by decide +kernel
theorem dX9_feed_15 : decode cX9_feed 15 = .ok (.aload_n 0, 1) := by decide +kernel
theorem dX9_feed_16 : decode cX9_feed 16 = .ok (.iload_n 1, 1) := by decide +kernel
theorem dX9_feed_17 : decode cX9_feed 17 = .ok (.invokevirtual 151, 3) := by decide +kernel
theorem dX9_feed_20 : decode cX9_feed 20 = .ok (.aload_n 0, 1) := by decide +kernel
theorem dX9_feed_21 : decode cX9_feed 21 = .ok (.iload_n 2, 1) := by decide +kernel
theorem dX9_feed_22 : decode cX9_feed 22 = .ok (.invokevirtual 151, 3) := by decide +kernel
theorem dX9_feed_25 : decode cX9_feed 25 = .ok (.aload_n 0, 1) := by decide +kernel
theorem dX9_feed_26 : decode cX9_feed 26 = .ok (.iload_n 3, 1) := by decide +kernel
theorem dX9_feed_27 : decode cX9_feed 27 = .ok (.invokevirtual 151, 3) := by decide +kernel
theorem dX9_feed_30 : decode cX9_feed 30 = .ok (.aload_n 0, 1) := by decide +kernel
theorem dX9_feed_31 : decode cX9_feed 31 = .ok (.iload 4, 2) := by decide +kernel
theorem dX9_feed_33 : decode cX9_feed 33 = .ok (.invokevirtual 151, 3) := by decide +kernel
theorem dX9_feed_36 : decode cX9_feed 36 = .ok (.aload_n 0, 1) := by decide +kernel
theorem dX9_feed_37 : decode cX9_feed 37 = .ok (.iload 5, 2) := by decide +kernel
theorem dX9_feed_39 : decode cX9_feed 39 = .ok (.invokevirtual 151, 3) := by decide +kernel
theorem dX9_feed_42 : decode cX9_feed 42 = .ok (.aload_n 0, 1) := by decide +kernel
theorem dX9_feed_43 : decode cX9_feed 43 = .ok (.getfield 148, 3) := by decide +kernel
theorem dX9_feed_46 : decode cX9_feed 46 = .ok (.ireturn, 1) := by decide +kernel
theorem dX9_four_0 : decode cX9_four 0 = .ok (.bipush 24, 2) := by decide +kernel
theorem dX9_four_2 : decode cX9_four 2 = .ok (.istore_n 2, 1) := by decide +kernel
theorem dX9_four_3 : decode cX9_four 3 = .ok (.iload_n 2, 1) := by decide +kernel
theorem dX9_four_4 : decode cX9_four 4 = .ok (.ifCond .lt 35, 3) := by decide +kernel
theorem dX9_four_7 : decode cX9_four 7 = .ok (.aload_n 0, 1) := by decide +kernel
theorem dX9_four_8 : decode cX9_four 8 = .ok (.getfield 7, 3) := by decide +kernel
theorem dX9_four_11 : decode cX9_four 11 = .ok (.aload_n 0, 1) := by decide +kernel
theorem dX9_four_12 : decode cX9_four 12 = .ok (.getfield 148, 3) := by decide +kernel
theorem dX9_four_15 : decode cX9_four 15 = .ok (.iload_n 1, 1) := by decide +kernel
theorem dX9_four_16 : decode cX9_four 16 = .ok (.iload_n 2, 1) := by decide +kernel
theorem dX9_four_17 : decode cX9_four 17 = .ok (.ishr, 1) := by decide +kernel
theorem dX9_four_18 : decode cX9_four 18 = .ok (.sipush 255, 3) := by decide +kernel
theorem dX9_four_21 : decode cX9_four 21 = .ok (.iand, 1) := by decide +kernel
theorem dX9_four_22 : decode cX9_four 22 = .ok (.iastore, 1) := by decide +kernel
theorem dX9_four_23 : decode cX9_four 23 = .ok (.aload_n 0, 1) := by decide +kernel
theorem dX9_four_24 : decode cX9_four 24 = .ok (.dup, 1) := by decide +kernel
theorem dX9_four_25 : decode cX9_four 25 = .ok (.getfield 148, 3) := by decide +kernel
theorem dX9_four_28 : decode cX9_four 28 = .ok (.iconst 1, 1) := by decide +kernel
theorem dX9_four_29 : decode cX9_four 29 = .ok (.iadd, 1) := by decide +kernel
theorem dX9_four_30 : decode cX9_four 30 = .ok (.putfield 148, 3) := by decide +kernel
theorem dX9_four_33 : decode cX9_four 33 = .ok (.iinc 2 (-8), 3) := by decide +kernel
theorem dX9_four_36 : decode cX9_four 36 = .ok (.goto (-33), 3) := by decide +kernel
theorem dX9_four_39 : decode cX9_four 39 = .ok (.return_, 1) := by decide +kernel
theorem dX9_end_0 : decode cX9_end 0 = .ok (.iload_n 1, 1) := by decide +kernel
theorem dX9_end_1 : decode cX9_end 1 = .ok (.ifCond .lt 11, 3) := by decide +kernel
theorem dX9_end_4 : decode cX9_end 4 = .ok (.iload_n 1, 1) := by decide +kernel
theorem dX9_end_5 : decode cX9_end 5 = .ok (.aload_n 0, 1) := by decide +kernel
theorem dX9_end_6 : decode cX9_end 6 = .ok (.getfield 148, 3) := by decide +kernel
theorem dX9_end_9 : decode cX9_end 9 = .ok (.if_icmp .le 5, 3) := by decide +kernel
theorem dX9_end_12 : decode cX9_end 12 = .ok (.iconst (-1), 1) := by decide +kernel
theorem dX9_end_13 : decode cX9_end 13 = .ok (.ireturn, 1) := by decide +kernel
theorem dX9_end_14 : decode cX9_end 14 = .ok (.aload_n 0, 1) := by decide +kernel
theorem dX9_end_15 : decode cX9_end 15 = .ok (.iload_n 1, 1) := by decide +kernel
theorem dX9_end_16 : decode cX9_end 16 = .ok (.putfield 148, 3) := by decide +kernel
theorem dX9_end_19 : decode cX9_end 19 = .ok (.iload_n 1, 1) := by decide +kernel
theorem dX9_end_20 : decode cX9_end 20 = .ok (.ireturn, 1) := by decide +kernel
theorem dX9_here_0 : decode cX9_here 0 = .ok (.aload_n 0, 1) := by decide +kernel
theorem dX9_here_1 : decode cX9_here 1 = .ok (.getfield 155, 3) := by decide +kernel
theorem dX9_here_4 : decode cX9_here 4 = .ok (.iload_n 1, 1) := by decide +kernel
theorem dX9_here_5 : decode cX9_here 5 = .ok (.iadd, 1) := by decide +kernel
theorem dX9_here_6 : decode cX9_here 6 = .ok (.aload_n 0, 1) := by decide +kernel
theorem dX9_here_7 : decode cX9_here 7 = .ok (.getfield 158, 3) := by decide +kernel
theorem dX9_here_10 : decode cX9_here 10 = .ok (.if_icmp .ge 17, 3) := by decide +kernel
theorem dX9_here_13 : decode cX9_here 13 = .ok (.aload_n 0, 1) := by decide +kernel
theorem dX9_here_14 : decode cX9_here 14 = .ok (.getfield 7, 3) := by decide +kernel
theorem dX9_here_17 : decode cX9_here 17 = .ok (.aload_n 0, 1) := by decide +kernel
theorem dX9_here_18 : decode cX9_here 18 = .ok (.getfield 155, 3) := by decide +kernel
theorem dX9_here_21 : decode cX9_here 21 = .ok (.iload_n 1, 1) := by decide +kernel
theorem dX9_here_22 : decode cX9_here 22 = .ok (.iadd, 1) := by decide +kernel
theorem dX9_here_23 : decode cX9_here 23 = .ok (.iaload, 1) := by decide +kernel
theorem dX9_here_24 : decode cX9_here 24 = .ok (.goto 4, 3) := by decide +kernel
theorem dX9_here_27 : decode cX9_here 27 = .ok (.iconst (-1), 1) := by decide +kernel
theorem dX9_here_28 : decode cX9_here 28 = .ok (.ireturn, 1) := by decide +kernel
theorem dX9_isLetter_0 : decode cX9_isLetter 0 = .ok (.iload_n 0, 1) := by decide +kernel
theorem dX9_isLetter_1 : decode cX9_isLetter 1 = .ok (.bipush 97, 2) := by decide +kernel
theorem dX9_isLetter_3 : decode cX9_isLetter 3 = .ok (.if_icmp .lt 13, 3) := by decide +kernel
theorem dX9_isLetter_6 : decode cX9_isLetter 6 = .ok (.iload_n 0, 1) := by decide +kernel
theorem dX9_isLetter_7 : decode cX9_isLetter 7 = .ok (.bipush 122, 2) := by decide +kernel
theorem dX9_isLetter_9 : decode cX9_isLetter 9 = .ok (.if_icmp .gt 7, 3) := by decide +kernel
theorem dX9_isLetter_12 : decode cX9_isLetter 12 = .ok (.iconst 1, 1) := by decide +kernel
theorem dX9_isLetter_13 : decode cX9_isLetter 13 = .ok (.goto 4, 3) := by decide +kernel
theorem dX9_isLetter_16 : decode cX9_isLetter 16 = .ok (.iconst 0, 1) := by decide +kernel
theorem dX9_isLetter_17 : decode cX9_isLetter 17 = .ok (.ireturn, 1) := by decide +kernel
theorem dX9_isDigit_0 : decode cX9_isDigit 0 = .ok (.iload_n 0, 1) := by decide +kernel
theorem dX9_isDigit_1 : decode cX9_isDigit 1 = .ok (.bipush 48, 2) := by decide +kernel
theorem dX9_isDigit_3 : decode cX9_isDigit 3 = .ok (.if_icmp .lt 13, 3) := by decide +kernel
theorem dX9_isDigit_6 : decode cX9_isDigit 6 = .ok (.iload_n 0, 1) := by decide +kernel
theorem dX9_isDigit_7 : decode cX9_isDigit 7 = .ok (.bipush 57, 2) := by decide +kernel
theorem dX9_isDigit_9 : decode cX9_isDigit 9 = .ok (.if_icmp .gt 7, 3) := by decide +kernel
theorem dX9_isDigit_12 : decode cX9_isDigit 12 = .ok (.iconst 1, 1) := by decide +kernel
theorem dX9_isDigit_13 : decode cX9_isDigit 13 = .ok (.goto 4, 3) := by decide +kernel
theorem dX9_isDigit_16 : decode cX9_isDigit 16 = .ok (.iconst 0, 1) := by decide +kernel
theorem dX9_isDigit_17 : decode cX9_isDigit 17 = .ok (.ireturn, 1) := by decide +kernel
theorem dX9_isSign_0 : decode cX9_isSign 0 = .ok (.iload_n 1, 1) := by decide +kernel
theorem dX9_isSign_1 : decode cX9_isSign 1 = .ok (.bipush 59, 2) := by decide +kernel
theorem dX9_isSign_3 : decode cX9_isSign 3 = .ok (.if_icmp .eq 46, 3) := by decide +kernel
theorem dX9_isSign_6 : decode cX9_isSign 6 = .ok (.iload_n 1, 1) := by decide +kernel
theorem dX9_isSign_7 : decode cX9_isSign 7 = .ok (.bipush 45, 2) := by decide +kernel
theorem dX9_isSign_9 : decode cX9_isSign 9 = .ok (.if_icmp .eq 40, 3) := by decide +kernel
theorem dX9_isSign_12 : decode cX9_isSign 12 = .ok (.aload_n 0, 1) := by decide +kernel
theorem dX9_isSign_13 : decode cX9_isSign 13 = .ok (.getfield 161, 3) := by decide +kernel
theorem dX9_isSign_16 : decode cX9_isSign 16 = .ok (.ifCond .eq 37, 3) := by decide +kernel
theorem dX9_isSign_19 : decode cX9_isSign 19 = .ok (.iload_n 1, 1) := by decide +kernel
theorem dX9_isSign_20 : decode cX9_isSign 20 = .ok (.bipush 40, 2) := by decide +kernel
theorem dX9_isSign_22 : decode cX9_isSign 22 = .ok (.if_icmp .eq 27, 3) := by decide +kernel
theorem dX9_isSign_25 : decode cX9_isSign 25 = .ok (.iload_n 1, 1) := by decide +kernel
theorem dX9_isSign_26 : decode cX9_isSign 26 = .ok (.bipush 41, 2) := by decide +kernel
theorem dX9_isSign_28 : decode cX9_isSign 28 = .ok (.if_icmp .eq 21, 3) := by decide +kernel
theorem dX9_isSign_31 : decode cX9_isSign 31 = .ok (.iload_n 1, 1) := by decide +kernel
theorem dX9_isSign_32 : decode cX9_isSign 32 = .ok (.bipush 43, 2) := by decide +kernel
theorem dX9_isSign_34 : decode cX9_isSign 34 = .ok (.if_icmp .eq 15, 3) := by decide +kernel
theorem dX9_isSign_37 : decode cX9_isSign 37 = .ok (.iload_n 1, 1) := by decide +kernel
theorem dX9_isSign_38 : decode cX9_isSign 38 = .ok (.bipush 42, 2) := by decide +kernel
theorem dX9_isSign_40 : decode cX9_isSign 40 = .ok (.if_icmp .eq 9, 3) := by decide +kernel
theorem dX9_isSign_43 : decode cX9_isSign 43 = .ok (.iload_n 1, 1) := by decide +kernel
theorem dX9_isSign_44 : decode cX9_isSign 44 = .ok (.bipush 47, 2) := by decide +kernel
theorem dX9_isSign_46 : decode cX9_isSign 46 = .ok (.if_icmp .ne 7, 3) := by decide +kernel
theorem dX9_isSign_49 : decode cX9_isSign 49 = .ok (.iconst 1, 1) := by decide +kernel
theorem dX9_isSign_50 : decode cX9_isSign 50 = .ok (.goto 4, 3) := by decide +kernel
theorem dX9_isSign_53 : decode cX9_isSign 53 = .ok (.iconst 0, 1) := by decide +kernel
theorem dX9_isSign_54 : decode cX9_isSign 54 = .ok (.ireturn, 1) := by decide +kernel
theorem dX9_token_0 : decode cX9_token 0 = .ok (.aload_n 0, 1) := by decide +kernel
theorem dX9_token_1 : decode cX9_token 1 = .ok (.iconst 0, 1) := by decide +kernel
theorem dX9_token_2 : decode cX9_token 2 = .ok (.invokevirtual 165, 3) := by decide +kernel
theorem dX9_token_5 : decode cX9_token 5 = .ok (.bipush 32, 2) := by decide +kernel
theorem dX9_token_7 : decode cX9_token 7 = .ok (.if_icmp .eq 13, 3) := by decide +kernel
theorem dX9_token_10 : decode cX9_token 10 = .ok (.aload_n 0, 1) := by decide +kernel
theorem dX9_token_11 : decode cX9_token 11 = .ok (.iconst 0, 1) := by decide +kernel
theorem dX9_token_12 : decode cX9_token 12 = .ok (.invokevirtual 165, 3) := by decide +kernel
theorem dX9_token_15 : decode cX9_token 15 = .ok (.bipush 10, 2) := by decide +kernel
theorem dX9_token_17 : decode cX9_token 17 = .ok (.if_icmp .ne 16, 3) := by decide +kernel
theorem dX9_token_20 : decode cX9_token 20 = .ok (.aload_n 0, 1) := by decide +kernel
theorem dX9_token_21 : decode cX9_token 21 = .ok (.dup, 1) := by decide +kernel
theorem dX9_token_22 : decode cX9_token 22 = .ok (.getfield 155, 3) := by decide +kernel
theorem dX9_token_25 : decode cX9_token 25 = .ok (.iconst 1, 1) := by decide +kernel
theorem dX9_token_26 : decode cX9_token 26 = .ok (.iadd, 1) := by decide +kernel
theorem dX9_token_27 : decode cX9_token 27 = .ok (.putfield 155, 3) := by decide +kernel
theorem dX9_token_30 : decode cX9_token 30 = .ok (.goto (-30), 3) := by decide +kernel
theorem dX9_token_33 : decode cX9_token 33 = .ok (.aload_n 0, 1) := by decide +kernel
theorem dX9_token_34 : decode cX9_token 34 = .ok (.aload_n 0, 1) := by decide +kernel
theorem dX9_token_35 : decode cX9_token 35 = .ok (.getfield 155, 3) := by decide +kernel
theorem dX9_token_38 : decode cX9_token 38 = .ok (.putfield 169, 3) := by decide +kernel
theorem dX9_token_41 : decode cX9_token 41 = .ok (.aload_n 0, 1) := by decide +kernel
theorem dX9_token_42 : decode cX9_token 42 = .ok (.iconst 0, 1) := by decide +kernel
theorem dX9_token_43 : decode cX9_token 43 = .ok (.invokevirtual 165, 3) := by decide +kernel
theorem dX9_token_46 : decode cX9_token 46 = .ok (.istore_n 1, 1) := by decide +kernel
theorem dX9_token_47 : decode cX9_token 47 = .ok (.iconst 0, 1) := by decide +kernel
theorem dX9_token_48 : decode cX9_token 48 = .ok (.istore_n 2, 1) := by decide +kernel
theorem dX9_token_49 : decode cX9_token 49 = .ok (.aload_n 0, 1) := by decide +kernel
theorem dX9_token_50 : decode cX9_token 50 = .ok (.lconst 0, 1) := by decide +kernel
theorem dX9_token_51 : decode cX9_token 51 = .ok (.putfield 172, 3) := by decide +kernel
theorem dX9_token_54 : decode cX9_token 54 = .ok (.aload_n 0, 1) := by decide +kernel
theorem dX9_token_55 : decode cX9_token 55 = .ok (.iconst 0, 1) := by decide +kernel
theorem dX9_token_56 : decode cX9_token 56 = .ok (.putfield 176, 3) := by decide +kernel
theorem dX9_token_59 : decode cX9_token 59 = .ok (.iload_n 1, 1) := by decide +kernel
theorem dX9_token_60 : decode cX9_token 60 = .ok (.ifCond .ge 11, 3) := by decide +kernel
theorem dX9_token_63 : decode cX9_token 63 = .ok (.aload_n 0, 1) := by decide +kernel
theorem dX9_token_64 : decode cX9_token 64 = .ok (.iconst 0, 1) := by decide +kernel
theorem dX9_token_65 : decode cX9_token 65 = .ok (.putfield 179, 3) := by decide +kernel
theorem dX9_token_68 : decode cX9_token 68 = .ok (.goto 165, 3) := by decide +kernel
theorem dX9_token_71 : decode cX9_token 71 = .ok (.iload_n 1, 1) := by decide +kernel
theorem dX9_token_72 : decode cX9_token 72 = .ok (.invokestatic 182, 3) := by decide +kernel
theorem dX9_token_75 : decode cX9_token 75 = .ok (.ifCond .eq 62, 3) := by decide +kernel
theorem dX9_token_78 : decode cX9_token 78 = .ok (.aload_n 0, 1) := by decide +kernel
theorem dX9_token_79 : decode cX9_token 79 = .ok (.iload_n 2, 1) := by decide +kernel
theorem dX9_token_80 : decode cX9_token 80 = .ok (.invokevirtual 165, 3) := by decide +kernel
theorem dX9_token_83 : decode cX9_token 83 = .ok (.invokestatic 182, 3) := by decide +kernel
theorem dX9_token_86 : decode cX9_token 86 = .ok (.ifCond .eq 33, 3) := by decide +kernel
theorem dX9_token_89 : decode cX9_token 89 = .ok (.iload_n 2, 1) := by decide +kernel
theorem dX9_token_90 : decode cX9_token 90 = .ok (.bipush 8, 2) := by decide +kernel
theorem dX9_token_92 : decode cX9_token 92 = .ok (.if_icmp .ge 21, 3) := by decide +kernel
theorem dX9_token_95 : decode cX9_token 95 = .ok (.aload_n 0, 1) := by decide +kernel
theorem dX9_token_96 : decode cX9_token 96 = .ok (.aload_n 0, 1) := by decide +kernel
theorem dX9_token_97 : decode cX9_token 97 = .ok (.getfield 172, 3) := by decide +kernel
theorem dX9_token_100 : decode cX9_token 100 = .ok (.bipush 8, 2) := by decide +kernel
theorem dX9_token_102 : decode cX9_token 102 = .ok (.lshl, 1) := by decide +kernel
theorem dX9_token_103 : decode cX9_token 103 = .ok (.aload_n 0, 1) := by decide +kernel
theorem dX9_token_104 : decode cX9_token 104 = .ok (.iload_n 2, 1) := by decide +kernel
theorem dX9_token_105 : decode cX9_token 105 = .ok (.invokevirtual 165, 3) := by decide +kernel
theorem dX9_token_108 : decode cX9_token 108 = .ok (.i2l, 1) := by decide +kernel
theorem dX9_token_109 : decode cX9_token 109 = .ok (.lor, 1) := by decide +kernel
theorem dX9_token_110 : decode cX9_token 110 = .ok (.putfield 172, 3) := by decide +kernel
theorem dX9_token_113 : decode cX9_token 113 = .ok (.iinc 2 1, 3) := by decide +kernel
theorem dX9_token_116 : decode cX9_token 116 = .ok (.goto (-38), 3) := by decide +kernel
theorem dX9_token_119 : decode cX9_token 119 = .ok (.aload_n 0, 1) := by decide +kernel
theorem dX9_token_120 : decode cX9_token 120 = .ok (.iload_n 2, 1) := by decide +kernel
theorem dX9_token_121 : decode cX9_token 121 = .ok (.bipush 8, 2) := by decide +kernel
theorem dX9_token_123 : decode cX9_token 123 = .ok (.if_icmp .le 7, 3) := by decide +kernel
theorem dX9_token_126 : decode cX9_token 126 = .ok (.iconst 3, 1) := by decide +kernel
theorem dX9_token_127 : decode cX9_token 127 = .ok (.goto 4, 3) := by decide +kernel
theorem dX9_token_130 : decode cX9_token 130 = .ok (.iconst 1, 1) := by decide +kernel
theorem dX9_token_131 : decode cX9_token 131 = .ok (.putfield 179, 3) := by decide +kernel
theorem dX9_token_134 : decode cX9_token 134 = .ok (.goto 99, 3) := by decide +kernel
theorem dX9_token_137 : decode cX9_token 137 = .ok (.iload_n 1, 1) := by decide +kernel
theorem dX9_token_138 : decode cX9_token 138 = .ok (.invokestatic 186, 3) := by decide +kernel
theorem dX9_token_141 : decode cX9_token 141 = .ok (.ifCond .eq 73, 3) := by decide +kernel
theorem dX9_token_144 : decode cX9_token 144 = .ok (.aload_n 0, 1) := by decide +kernel
theorem dX9_token_145 : decode cX9_token 145 = .ok (.iload_n 2, 1) := by decide +kernel
theorem dX9_token_146 : decode cX9_token 146 = .ok (.invokevirtual 165, 3) := by decide +kernel
theorem dX9_token_149 : decode cX9_token 149 = .ok (.invokestatic 186, 3) := by decide +kernel
theorem dX9_token_152 : decode cX9_token 152 = .ok (.ifCond .eq 34, 3) := by decide +kernel
theorem dX9_token_155 : decode cX9_token 155 = .ok (.iload_n 2, 1) := by decide +kernel
theorem dX9_token_156 : decode cX9_token 156 = .ok (.iconst 4, 1) := by decide +kernel
theorem dX9_token_157 : decode cX9_token 157 = .ok (.if_icmp .ge 23, 3) := by decide +kernel
theorem dX9_token_160 : decode cX9_token 160 = .ok (.aload_n 0, 1) := by decide +kernel
theorem dX9_token_161 : decode cX9_token 161 = .ok (.bipush 10, 2) := by decide +kernel
theorem dX9_token_163 : decode cX9_token 163 = .ok (.aload_n 0, 1) := by decide +kernel
theorem dX9_token_164 : decode cX9_token 164 = .ok (.getfield 176, 3) := by decide +kernel
theorem dX9_token_167 : decode cX9_token 167 = .ok (.imul, 1) := by decide +kernel
theorem dX9_token_168 : decode cX9_token 168 = .ok (.aload_n 0, 1) := by decide +kernel
theorem dX9_token_169 : decode cX9_token 169 = .ok (.iload_n 2, 1) := by decide +kernel
theorem dX9_token_170 : decode cX9_token 170 = .ok (.invokevirtual 165, 3) := by decide +kernel
theorem dX9_token_173 : decode cX9_token 173 = .ok (.iadd, 1) := by decide +kernel
theorem dX9_token_174 : decode cX9_token 174 = .ok (.bipush 48, 2) := by decide +kernel
theorem dX9_token_176 : decode cX9_token 176 = .ok (.isub, 1) := by decide +kernel
theorem dX9_token_177 : decode cX9_token 177 = .ok (.putfield 176, 3) := by decide +kernel
theorem dX9_token_180 : decode cX9_token 180 = .ok (.iinc 2 1, 3) := by decide +kernel
theorem dX9_token_183 : decode cX9_token 183 = .ok (.goto (-39), 3) := by decide +kernel
theorem dX9_token_186 : decode cX9_token 186 = .ok (.aload_n 0, 1) := by decide +kernel
theorem dX9_token_187 : decode cX9_token 187 = .ok (.iload_n 2, 1) := by decide +kernel
theorem dX9_token_188 : decode cX9_token 188 = .ok (.iconst 4, 1) := by decide +kernel
theorem dX9_token_189 : decode cX9_token 189 = .ok (.if_icmp .gt 14, 3) := by decide +kernel
theorem dX9_token_192 : decode cX9_token 192 = .ok (.aload_n 0, 1) := by decide +kernel
theorem dX9_token_193 : decode cX9_token 193 = .ok (.iload_n 2, 1) := by decide +kernel
theorem dX9_token_194 : decode cX9_token 194 = .ok (.invokevirtual 165, 3) := by decide +kernel
theorem dX9_token_197 : decode cX9_token 197 = .ok (.invokestatic 182, 3) := by decide +kernel
theorem dX9_token_200 : decode cX9_token 200 = .ok (.ifCond .eq 7, 3) := by decide +kernel
theorem dX9_token_203 : decode cX9_token 203 = .ok (.iconst 3, 1) := by decide +kernel
theorem dX9_token_204 : decode cX9_token 204 = .ok (.goto 4, 3) := by decide +kernel
theorem dX9_token_207 : decode cX9_token 207 = .ok (.iconst 2, 1) := by decide +kernel
theorem dX9_token_208 : decode cX9_token 208 = .ok (.putfield 179, 3) := by decide +kernel
theorem dX9_token_211 : decode cX9_token 211 = .ok (.goto 22, 3) := by decide +kernel
theorem dX9_token_214 : decode cX9_token 214 = .ok (.iconst 1, 1) := by decide +kernel
theorem dX9_token_215 : decode cX9_token 215 = .ok (.istore_n 2, 1) := by decide +kernel
theorem dX9_token_216 : decode cX9_token 216 = .ok (.aload_n 0, 1) := by decide +kernel
theorem dX9_token_217 : decode cX9_token 217 = .ok (.aload_n 0, 1) := by decide +kernel
theorem dX9_token_218 : decode cX9_token 218 = .ok (.iload_n 1, 1) := by decide +kernel
theorem dX9_token_219 : decode cX9_token 219 = .ok (.invokevirtual 189, 3) := by decide +kernel
theorem dX9_token_222 : decode cX9_token 222 = .ok (.ifCond .eq 7, 3) := by decide +kernel
theorem dX9_token_225 : decode cX9_token 225 = .ok (.iload_n 1, 1) := by decide +kernel
theorem dX9_token_226 : decode cX9_token 226 = .ok (.goto 4, 3) := by decide +kernel
theorem dX9_token_229 : decode cX9_token 229 = .ok (.iconst 3, 1) := by decide +kernel
theorem dX9_token_230 : decode cX9_token 230 = .ok (.putfield 179, 3) := by decide +kernel
theorem dX9_token_233 : decode cX9_token 233 = .ok (.aload_n 0, 1) := by decide +kernel
theorem dX9_token_234 : decode cX9_token 234 = .ok (.getfield 179, 3) := by decide +kernel
theorem dX9_token_237 : decode cX9_token 237 = .ok (.iconst 3, 1) := by decide +kernel
theorem dX9_token_238 : decode cX9_token 238 = .ok (.if_icmp .eq 13, 3) := by decide +kernel
theorem dX9_token_241 : decode cX9_token 241 = .ok (.aload_n 0, 1) := by decide +kernel
theorem dX9_token_242 : decode cX9_token 242 = .ok (.dup, 1) := by decide +kernel
theorem dX9_token_243 : decode cX9_token 243 = .ok (.getfield 155, 3) := by decide +kernel
theorem dX9_token_246 : decode cX9_token 246 = .ok (.iload_n 2, 1) := by decide +kernel
theorem dX9_token_247 : decode cX9_token 247 = .ok (.iadd, 1) := by decide +kernel
theorem dX9_token_248 : decode cX9_token 248 = .ok (.putfield 155, 3) := by decide +kernel
theorem dX9_token_251 : decode cX9_token 251 = .ok (.return_, 1) := by decide +kernel
theorem dX9_wrong_0 : decode cX9_wrong 0 = .ok (.aload_n 0, 1) := by decide +kernel
theorem dX9_wrong_1 : decode cX9_wrong 1 = .ok (.getfield 192, 3) := by decide +kernel
theorem dX9_wrong_4 : decode cX9_wrong 4 = .ok (.ifCond .le 4, 3) := by decide +kernel
theorem dX9_wrong_7 : decode cX9_wrong 7 = .ok (.return_, 1) := by decide +kernel
theorem dX9_wrong_8 : decode cX9_wrong 8 = .ok (.aload_n 0, 1) := by decide +kernel
theorem dX9_wrong_9 : decode cX9_wrong 9 = .ok (.aload_n 0, 1) := by decide +kernel
theorem dX9_wrong_10 : decode cX9_wrong 10 = .ok (.getfield 179, 3) := by decide +kernel
theorem dX9_wrong_13 : decode cX9_wrong 13 = .ok (.iconst 3, 1) := by decide +kernel
theorem dX9_wrong_14 : decode cX9_wrong 14 = .ok (.if_icmp .ne 7, 3) := by decide +kernel
theorem dX9_wrong_17 : decode cX9_wrong 17 = .ok (.iconst 1, 1) := by decide +kernel
theorem dX9_wrong_18 : decode cX9_wrong 18 = .ok (.goto 4, 3) := by decide +kernel
theorem dX9_wrong_21 : decode cX9_wrong 21 = .ok (.iload_n 1, 1) := by decide +kernel
theorem dX9_wrong_22 : decode cX9_wrong 22 = .ok (.putfield 192, 3) := by decide +kernel
theorem dX9_wrong_25 : decode cX9_wrong 25 = .ok (.aload_n 0, 1) := by decide +kernel
theorem dX9_wrong_26 : decode cX9_wrong 26 = .ok (.aload_n 0, 1) := by decide +kernel
theorem dX9_wrong_27 : decode cX9_wrong 27 = .ok (.getfield 169, 3) := by decide +kernel
theorem dX9_wrong_30 : decode cX9_wrong 30 = .ok (.putfield 13, 3) := by decide +kernel
theorem dX9_wrong_33 : decode cX9_wrong 33 = .ok (.return_, 1) := by decide +kernel
theorem dX9_start_0 : decode cX9_start 0 = .ok (.aload_n 0, 1) := by decide +kernel
theorem dX9_start_1 : decode cX9_start 1 = .ok (.iload_n 1, 1) := by decide +kernel
theorem dX9_start_2 : decode cX9_start 2 = .ok (.putfield 161, 3) := by decide +kernel
theorem dX9_start_5 : decode cX9_start 5 = .ok (.aload_n 0, 1) := by decide +kernel
theorem dX9_start_6 : decode cX9_start 6 = .ok (.aload_n 0, 1) := by decide +kernel
theorem dX9_start_7 : decode cX9_start 7 = .ok (.getfield 148, 3) := by decide +kernel
theorem dX9_start_10 : decode cX9_start 10 = .ok (.putfield 158, 3) := by decide +kernel
theorem dX9_start_13 : decode cX9_start 13 = .ok (.aload_n 0, 1) := by decide +kernel
theorem dX9_start_14 : decode cX9_start 14 = .ok (.iconst 0, 1) := by decide +kernel
theorem dX9_start_15 : decode cX9_start 15 = .ok (.putfield 148, 3) := by decide +kernel
theorem dX9_start_18 : decode cX9_start 18 = .ok (.aload_n 0, 1) := by decide +kernel
theorem dX9_start_19 : decode cX9_start 19 = .ok (.iconst 0, 1) := by decide +kernel
theorem dX9_start_20 : decode cX9_start 20 = .ok (.putfield 155, 3) := by decide +kernel
theorem dX9_start_23 : decode cX9_start 23 = .ok (.aload_n 0, 1) := by decide +kernel
theorem dX9_start_24 : decode cX9_start 24 = .ok (.iconst 0, 1) := by decide +kernel
theorem dX9_start_25 : decode cX9_start 25 = .ok (.putfield 192, 3) := by decide +kernel
theorem dX9_start_28 : decode cX9_start 28 = .ok (.aload_n 0, 1) := by decide +kernel
theorem dX9_start_29 : decode cX9_start 29 = .ok (.iconst (-1), 1) := by decide +kernel
theorem dX9_start_30 : decode cX9_start 30 = .ok (.putfield 13, 3) := by decide +kernel
theorem dX9_start_33 : decode cX9_start 33 = .ok (.aload_n 0, 1) := by decide +kernel
theorem dX9_start_34 : decode cX9_start 34 = .ok (.invokevirtual 195, 3) := by decide +kernel
theorem dX9_start_37 : decode cX9_start 37 = .ok (.return_, 1) := by decide +kernel
theorem dX9_isWord_0 : decode cX9_isWord 0 = .ok (.aload_n 0, 1) := by decide +kernel
theorem dX9_isWord_1 : decode cX9_isWord 1 = .ok (.getfield 179, 3) := by decide +kernel
theorem dX9_isWord_4 : decode cX9_isWord 4 = .ok (.iconst 1, 1) := by decide +kernel
theorem dX9_isWord_5 : decode cX9_isWord 5 = .ok (.if_icmp .ne 16, 3) := by decide +kernel
theorem dX9_isWord_8 : decode cX9_isWord 8 = .ok (.aload_n 0, 1) := by decide +kernel
theorem dX9_isWord_9 : decode cX9_isWord 9 = .ok (.getfield 172, 3) := by decide +kernel
theorem dX9_isWord_12 : decode cX9_isWord 12 = .ok (.lload_n 1, 1) := by decide +kernel
theorem dX9_isWord_13 : decode cX9_isWord 13 = .ok (.lcmp, 1) := by decide +kernel
theorem dX9_isWord_14 : decode cX9_isWord 14 = .ok (.ifCond .ne 7, 3) := by decide +kernel
theorem dX9_isWord_17 : decode cX9_isWord 17 = .ok (.iconst 1, 1) := by decide +kernel
theorem dX9_isWord_18 : decode cX9_isWord 18 = .ok (.goto 4, 3) := by decide +kernel
theorem dX9_isWord_21 : decode cX9_isWord 21 = .ok (.iconst 0, 1) := by decide +kernel
theorem dX9_isWord_22 : decode cX9_isWord 22 = .ok (.ireturn, 1) := by decide +kernel
theorem dX9_isName_0 : decode cX9_isName 0 = .ok (.aload_n 0, 1) := by decide +kernel
theorem dX9_isName_1 : decode cX9_isName 1 = .ok (.getfield 179, 3) := by decide +kernel
theorem dX9_isName_4 : decode cX9_isName 4 = .ok (.iconst 1, 1) := by decide +kernel
theorem dX9_isName_5 : decode cX9_isName 5 = .ok (.if_icmp .eq 5, 3) := by decide +kernel
theorem dX9_isName_8 : decode cX9_isName 8 = .ok (.iconst 0, 1) := by decide +kernel
theorem dX9_isName_9 : decode cX9_isName 9 = .ok (.ireturn, 1) := by decide +kernel
theorem dX9_isName_10 : decode cX9_isName 10 = .ok (.aload_n 0, 1) := by decide +kernel
theorem dX9_isName_11 : decode cX9_isName 11 = .ok (.getfield 172, 3) := by decide +kernel
theorem dX9_isName_14 : decode cX9_isName 14 = .ok (.ldc2_w 198, 3) := by decide +kernel
theorem dX9_isName_17 : decode cX9_isName 17 = .ok (.lcmp, 1) := by decide +kernel
theorem dX9_isName_18 : decode cX9_isName 18 = .ok (.ifCond .eq 146, 3) := by decide +kernel
theorem dX9_isName_21 : decode cX9_isName 21 = .ok (.aload_n 0, 1) := by decide +kernel
theorem dX9_isName_22 : decode cX9_isName 22 = .ok (.getfield 172, 3) := by decide +kernel
theorem dX9_isName_25 : decode cX9_isName 25 = .ok (.ldc2_w 200, 3) := by decide +kernel
theorem dX9_isName_28 : decode cX9_isName 28 = .ok (.lcmp, 1) := by decide +kernel
theorem dX9_isName_29 : decode cX9_isName 29 = .ok (.ifCond .eq 135, 3) := by decide +kernel
theorem dX9_isName_32 : decode cX9_isName 32 = .ok (.aload_n 0, 1) := by decide +kernel
theorem dX9_isName_33 : decode cX9_isName 33 = .ok (.getfield 172, 3) := by decide +kernel
theorem dX9_isName_36 : decode cX9_isName 36 = .ok (.ldc2_w 202, 3) := by decide +kernel
theorem dX9_isName_39 : decode cX9_isName 39 = .ok (.lcmp, 1) := by decide +kernel
theorem dX9_isName_40 : decode cX9_isName 40 = .ok (.ifCond .eq 124, 3) := by decide +kernel
theorem dX9_isName_43 : decode cX9_isName 43 = .ok (.aload_n 0, 1) := by decide +kernel
theorem dX9_isName_44 : decode cX9_isName 44 = .ok (.getfield 172, 3) := by decide +kernel
theorem dX9_isName_47 : decode cX9_isName 47 = .ok (.ldc2_w 204, 3) := by decide +kernel
theorem dX9_isName_50 : decode cX9_isName 50 = .ok (.lcmp, 1) := by decide +kernel
theorem dX9_isName_51 : decode cX9_isName 51 = .ok (.ifCond .eq 113, 3) := by decide +kernel
theorem dX9_isName_54 : decode cX9_isName 54 = .ok (.aload_n 0, 1) := by decide +kernel
theorem dX9_isName_55 : decode cX9_isName 55 = .ok (.getfield 172, 3) := by decide +kernel
theorem dX9_isName_58 : decode cX9_isName 58 = .ok (.ldc2_w 206, 3) := by decide +kernel
theorem dX9_isName_61 : decode cX9_isName 61 = .ok (.lcmp, 1) := by decide +kernel
theorem dX9_isName_62 : decode cX9_isName 62 = .ok (.ifCond .eq 102, 3) := by decide +kernel
theorem dX9_isName_65 : decode cX9_isName 65 = .ok (.aload_n 0, 1) := by decide +kernel
theorem dX9_isName_66 : decode cX9_isName 66 = .ok (.getfield 172, 3) := by decide +kernel
theorem dX9_isName_69 : decode cX9_isName 69 = .ok (.ldc2_w 208, 3) := by decide +kernel
theorem dX9_isName_72 : decode cX9_isName 72 = .ok (.lcmp, 1) := by decide +kernel
theorem dX9_isName_73 : decode cX9_isName 73 = .ok (.ifCond .eq 91, 3) := by decide +kernel
theorem dX9_isName_76 : decode cX9_isName 76 = .ok (.aload_n 0, 1) := by decide +kernel
theorem dX9_isName_77 : decode cX9_isName 77 = .ok (.getfield 172, 3) := by decide +kernel
theorem dX9_isName_80 : decode cX9_isName 80 = .ok (.ldc2_w 210, 3) := by decide +kernel
theorem dX9_isName_83 : decode cX9_isName 83 = .ok (.lcmp, 1) := by decide +kernel
theorem dX9_isName_84 : decode cX9_isName 84 = .ok (.ifCond .eq 80, 3) := by decide +kernel
theorem dX9_isName_87 : decode cX9_isName 87 = .ok (.aload_n 0, 1) := by decide +kernel
theorem dX9_isName_88 : decode cX9_isName 88 = .ok (.getfield 172, 3) := by decide +kernel
theorem dX9_isName_91 : decode cX9_isName 91 = .ok (.ldc2_w 212, 3) := by decide +kernel
theorem dX9_isName_94 : decode cX9_isName 94 = .ok (.lcmp, 1) := by decide +kernel
theorem dX9_isName_95 : decode cX9_isName 95 = .ok (.ifCond .eq 69, 3) := by decide +kernel
theorem dX9_isName_98 : decode cX9_isName 98 = .ok (.aload_n 0, 1) := by decide +kernel
theorem dX9_isName_99 : decode cX9_isName 99 = .ok (.getfield 172, 3) := by decide +kernel
theorem dX9_isName_102 : decode cX9_isName 102 = .ok (.ldc2_w 214, 3) := by decide +kernel
theorem dX9_isName_105 : decode cX9_isName 105 = .ok (.lcmp, 1) := by decide +kernel
theorem dX9_isName_106 : decode cX9_isName 106 = .ok (.ifCond .eq 58, 3) := by decide +kernel
theorem dX9_isName_109 : decode cX9_isName 109 = .ok (.aload_n 0, 1) := by decide +kernel
theorem dX9_isName_110 : decode cX9_isName 110 = .ok (.getfield 172, 3) := by decide +kernel
theorem dX9_isName_113 : decode cX9_isName 113 = .ok (.ldc2_w 216, 3) := by decide +kernel
theorem dX9_isName_116 : decode cX9_isName 116 = .ok (.lcmp, 1) := by decide +kernel
theorem dX9_isName_117 : decode cX9_isName 117 = .ok (.ifCond .eq 47, 3) := by decide +kernel
theorem dX9_isName_120 : decode cX9_isName 120 = .ok (.aload_n 0, 1) := by decide +kernel
theorem dX9_isName_121 : decode cX9_isName 121 = .ok (.getfield 172, 3) := by decide +kernel
theorem dX9_isName_124 : decode cX9_isName 124 = .ok (.ldc2_w 218, 3) := by decide +kernel
theorem dX9_isName_127 : decode cX9_isName 127 = .ok (.lcmp, 1) := by decide +kernel
theorem dX9_isName_128 : decode cX9_isName 128 = .ok (.ifCond .eq 36, 3) := by decide +kernel
theorem dX9_isName_131 : decode cX9_isName 131 = .ok (.aload_n 0, 1) := by decide +kernel
theorem dX9_isName_132 : decode cX9_isName 132 = .ok (.getfield 172, 3) := by decide +kernel
theorem dX9_isName_135 : decode cX9_isName 135 = .ok (.ldc2_w 220, 3) := by decide +kernel
theorem dX9_isName_138 : decode cX9_isName 138 = .ok (.lcmp, 1) := by decide +kernel
theorem dX9_isName_139 : decode cX9_isName 139 = .ok (.ifCond .eq 25, 3) := by decide +kernel
theorem dX9_isName_142 : decode cX9_isName 142 = .ok (.aload_n 0, 1) := by decide +kernel
theorem dX9_isName_143 : decode cX9_isName 143 = .ok (.getfield 172, 3) := by decide +kernel
theorem dX9_isName_146 : decode cX9_isName 146 = .ok (.ldc2_w 222, 3) := by decide +kernel
theorem dX9_isName_149 : decode cX9_isName 149 = .ok (.lcmp, 1) := by decide +kernel
theorem dX9_isName_150 : decode cX9_isName 150 = .ok (.ifCond .eq 14, 3) := by decide +kernel
theorem dX9_isName_153 : decode cX9_isName 153 = .ok (.aload_n 0, 1) := by decide +kernel
theorem dX9_isName_154 : decode cX9_isName 154 = .ok (.getfield 172, 3) := by decide +kernel
theorem dX9_isName_157 : decode cX9_isName 157 = .ok (.ldc2_w 224, 3) := by decide +kernel
theorem dX9_isName_160 : decode cX9_isName 160 = .ok (.lcmp, 1) := by decide +kernel
theorem dX9_isName_161 : decode cX9_isName 161 = .ok (.ifCond .ne 7, 3) := by decide +kernel
theorem dX9_isName_164 : decode cX9_isName 164 = .ok (.iconst 1, 1) := by decide +kernel
theorem dX9_isName_165 : decode cX9_isName 165 = .ok (.goto 4, 3) := by decide +kernel
theorem dX9_isName_168 : decode cX9_isName 168 = .ok (.iconst 0, 1) := by decide +kernel
theorem dX9_isName_169 : decode cX9_isName 169 = .ok (.istore_n 1, 1) := by decide +kernel
theorem dX9_isName_170 : decode cX9_isName 170 = .ok (.iload_n 1, 1) := by decide +kernel
theorem dX9_isName_171 : decode cX9_isName 171 = .ok (.ifCond .ne 73, 3) := by decide +kernel
theorem dX9_isName_174 : decode cX9_isName 174 = .ok (.aload_n 0, 1) := by decide +kernel
theorem dX9_isName_175 : decode cX9_isName 175 = .ok (.getfield 172, 3) := by decide +kernel
theorem dX9_isName_178 : decode cX9_isName 178 = .ok (.ldc2_w 226, 3) := by decide +kernel
theorem dX9_isName_181 : decode cX9_isName 181 = .ok (.lcmp, 1) := by decide +kernel
theorem dX9_isName_182 : decode cX9_isName 182 = .ok (.ifCond .eq 62, 3) := by decide +kernel
theorem dX9_isName_185 : decode cX9_isName 185 = .ok (.aload_n 0, 1) := by decide +kernel
theorem dX9_isName_186 : decode cX9_isName 186 = .ok (.getfield 172, 3) := by decide +kernel
theorem dX9_isName_189 : decode cX9_isName 189 = .ok (.ldc2_w 228, 3) := by decide +kernel
theorem dX9_isName_192 : decode cX9_isName 192 = .ok (.lcmp, 1) := by decide +kernel
theorem dX9_isName_193 : decode cX9_isName 193 = .ok (.ifCond .eq 51, 3) := by decide +kernel
theorem dX9_isName_196 : decode cX9_isName 196 = .ok (.aload_n 0, 1) := by decide +kernel
theorem dX9_isName_197 : decode cX9_isName 197 = .ok (.getfield 172, 3) := by decide +kernel
theorem dX9_isName_200 : decode cX9_isName 200 = .ok (.ldc2_w 230, 3) := by decide +kernel
theorem dX9_isName_203 : decode cX9_isName 203 = .ok (.lcmp, 1) := by decide +kernel
theorem dX9_isName_204 : decode cX9_isName 204 = .ok (.ifCond .eq 40, 3) := by decide +kernel
theorem dX9_isName_207 : decode cX9_isName 207 = .ok (.aload_n 0, 1) := by decide +kernel
theorem dX9_isName_208 : decode cX9_isName 208 = .ok (.getfield 172, 3) := by decide +kernel
theorem dX9_isName_211 : decode cX9_isName 211 = .ok (.ldc2_w 232, 3) := by decide +kernel
theorem dX9_isName_214 : decode cX9_isName 214 = .ok (.lcmp, 1) := by decide +kernel
theorem dX9_isName_215 : decode cX9_isName 215 = .ok (.ifCond .eq 29, 3) := by decide +kernel
theorem dX9_isName_218 : decode cX9_isName 218 = .ok (.aload_n 0, 1) := by decide +kernel
theorem dX9_isName_219 : decode cX9_isName 219 = .ok (.getfield 172, 3) := by decide +kernel
theorem dX9_isName_222 : decode cX9_isName 222 = .ok (.ldc2_w 234, 3) := by decide +kernel
theorem dX9_isName_225 : decode cX9_isName 225 = .ok (.lcmp, 1) := by decide +kernel
theorem dX9_isName_226 : decode cX9_isName 226 = .ok (.ifCond .eq 18, 3) := by decide +kernel
theorem dX9_isName_229 : decode cX9_isName 229 = .ok (.aload_n 0, 1) := by decide +kernel
theorem dX9_isName_230 : decode cX9_isName 230 = .ok (.getfield 172, 3) := by decide +kernel
theorem dX9_isName_233 : decode cX9_isName 233 = .ok (.ldc2_w 236, 3) := by decide +kernel
theorem dX9_isName_236 : decode cX9_isName 236 = .ok (.lcmp, 1) := by decide +kernel
theorem dX9_isName_237 : decode cX9_isName 237 = .ok (.ifCond .eq 7, 3) := by decide +kernel
theorem dX9_isName_240 : decode cX9_isName 240 = .ok (.iconst 1, 1) := by decide +kernel
theorem dX9_isName_241 : decode cX9_isName 241 = .ok (.goto 4, 3) := by decide +kernel
theorem dX9_isName_244 : decode cX9_isName 244 = .ok (.iconst 0, 1) := by decide +kernel
theorem dX9_isName_245 : decode cX9_isName 245 = .ok (.ireturn, 1) := by decide +kernel
theorem dX9_want_0 : decode cX9_want 0 = .ok (.aload_n 0, 1) := by decide +kernel
theorem dX9_want_1 : decode cX9_want 1 = .ok (.getfield 192, 3) := by decide +kernel
theorem dX9_want_4 : decode cX9_want 4 = .ok (.ifCond .le 4, 3) := by decide +kernel
theorem dX9_want_7 : decode cX9_want 7 = .ok (.return_, 1) := by decide +kernel
theorem dX9_want_8 : decode cX9_want 8 = .ok (.aload_n 0, 1) := by decide +kernel
theorem dX9_want_9 : decode cX9_want 9 = .ok (.lload_n 1, 1) := by decide +kernel
theorem dX9_want_10 : decode cX9_want 10 = .ok (.invokevirtual 238, 3) := by decide +kernel
theorem dX9_want_13 : decode cX9_want 13 = .ok (.ifCond .ne 11, 3) := by decide +kernel
theorem dX9_want_16 : decode cX9_want 16 = .ok (.aload_n 0, 1) := by decide +kernel
theorem dX9_want_17 : decode cX9_want 17 = .ok (.iconst 2, 1) := by decide +kernel
theorem dX9_want_18 : decode cX9_want 18 = .ok (.invokevirtual 242, 3) := by decide +kernel
theorem dX9_want_21 : decode cX9_want 21 = .ok (.goto 7, 3) := by decide +kernel
theorem dX9_want_24 : decode cX9_want 24 = .ok (.aload_n 0, 1) := by decide +kernel
theorem dX9_want_25 : decode cX9_want 25 = .ok (.invokevirtual 195, 3) := by decide +kernel
theorem dX9_want_28 : decode cX9_want 28 = .ok (.return_, 1) := by decide +kernel
theorem dX9_toldNumber_0 : decode cX9_toldNumber 0 = .ok (.aload_n 0, 1) := by decide +kernel
theorem dX9_toldNumber_1 : decode cX9_toldNumber 1 = .ok (.getfield 192, 3) := by decide +kernel
theorem dX9_toldNumber_4 : decode cX9_toldNumber 4 = .ok (.ifCond .le 5, 3) := by decide +kernel
theorem dX9_toldNumber_7 : decode cX9_toldNumber 7 = .ok (.iconst 0, 1) := by decide +kernel
theorem dX9_toldNumber_8 : decode cX9_toldNumber 8 = .ok (.ireturn, 1) := by decide +kernel
theorem dX9_toldNumber_9 : decode cX9_toldNumber 9 = .ok (.aload_n 0, 1) := by decide +kernel
theorem dX9_toldNumber_10 : decode cX9_toldNumber 10 = .ok (.getfield 179, 3) := by decide +kernel
theorem dX9_toldNumber_13 : decode cX9_toldNumber 13 = .ok (.iconst 2, 1) := by decide +kernel
theorem dX9_toldNumber_14 : decode cX9_toldNumber 14 = .ok (.if_icmp .eq 11, 3) := by decide +kernel
theorem dX9_toldNumber_17 : decode cX9_toldNumber 17 = .ok (.aload_n 0, 1) := by decide +kernel
theorem dX9_toldNumber_18 : decode cX9_toldNumber 18 = .ok (.iconst 2, 1) := by decide +kernel
theorem dX9_toldNumber_19 : decode cX9_toldNumber 19 = .ok (.invokevirtual 242, 3) := by decide +kernel
theorem dX9_toldNumber_22 : decode cX9_toldNumber 22 = .ok (.goto 24, 3) := by decide +kernel
theorem dX9_toldNumber_25 : decode cX9_toldNumber 25 = .ok (.aload_n 0, 1) := by decide +kernel
theorem dX9_toldNumber_26 : decode cX9_toldNumber 26 = .ok (.getfield 176, 3) := by decide +kernel
theorem dX9_toldNumber_29 : decode cX9_toldNumber 29 = .ok (.iload_n 1, 1) := by decide +kernel
theorem dX9_toldNumber_30 : decode cX9_toldNumber 30 = .ok (.if_icmp .lt 11, 3) := by decide +kernel
theorem dX9_toldNumber_33 : decode cX9_toldNumber 33 = .ok (.aload_n 0, 1) := by decide +kernel
theorem dX9_toldNumber_34 : decode cX9_toldNumber 34 = .ok (.getfield 176, 3) := by decide +kernel
theorem dX9_toldNumber_37 : decode cX9_toldNumber 37 = .ok (.iload_n 2, 1) := by decide +kernel
theorem dX9_toldNumber_38 : decode cX9_toldNumber 38 = .ok (.if_icmp .le 8, 3) := by decide +kernel
theorem dX9_toldNumber_41 : decode cX9_toldNumber 41 = .ok (.aload_n 0, 1) := by decide +kernel
theorem dX9_toldNumber_42 : decode cX9_toldNumber 42 = .ok (.iconst 4, 1) := by decide +kernel
theorem dX9_toldNumber_43 : decode cX9_toldNumber 43 = .ok (.invokevirtual 242, 3) := by decide +kernel
theorem dX9_toldNumber_46 : decode cX9_toldNumber 46 = .ok (.aload_n 0, 1) := by decide +kernel
theorem dX9_toldNumber_47 : decode cX9_toldNumber 47 = .ok (.getfield 176, 3) := by decide +kernel
theorem dX9_toldNumber_50 : decode cX9_toldNumber 50 = .ok (.istore_n 3, 1) := by decide +kernel
theorem dX9_toldNumber_51 : decode cX9_toldNumber 51 = .ok (.aload_n 0, 1) := by decide +kernel
theorem dX9_toldNumber_52 : decode cX9_toldNumber 52 = .ok (.getfield 192, 3) := by decide +kernel
theorem dX9_toldNumber_55 : decode cX9_toldNumber 55 = .ok (.ifCond .ne 7, 3) := by decide +kernel
theorem dX9_toldNumber_58 : decode cX9_toldNumber 58 = .ok (.aload_n 0, 1) := by decide +kernel
theorem dX9_toldNumber_59 : decode cX9_toldNumber 59 = .ok (.invokevirtual 195, 3) := by decide +kernel
theorem dX9_toldNumber_62 : decode cX9_toldNumber 62 = .ok (.iload_n 3, 1) := by decide +kernel
theorem dX9_toldNumber_63 : decode cX9_toldNumber 63 = .ok (.ireturn, 1) := by decide +kernel
theorem dX9_signed_0 : decode cX9_signed 0 = .ok (.aload_n 0, 1) := by decide +kernel
theorem dX9_signed_1 : decode cX9_signed 1 = .ok (.getfield 192, 3) := by decide +kernel
theorem dX9_signed_4 : decode cX9_signed 4 = .ok (.ifCond .le 5, 3) := by decide +kernel
theorem dX9_signed_7 : decode cX9_signed 7 = .ok (.iconst 0, 1) := by decide +kernel
theorem dX9_signed_8 : decode cX9_signed 8 = .ok (.ireturn, 1) := by decide +kernel
theorem dX9_signed_9 : decode cX9_signed 9 = .ok (.aload_n 0, 1) := by decide +kernel
theorem dX9_signed_10 : decode cX9_signed 10 = .ok (.getfield 169, 3) := by decide +kernel
theorem dX9_signed_13 : decode cX9_signed 13 = .ok (.istore_n 3, 1) := by decide +kernel
theorem dX9_signed_14 : decode cX9_signed 14 = .ok (.aload_n 0, 1) := by decide +kernel
theorem dX9_signed_15 : decode cX9_signed 15 = .ok (.getfield 179, 3) := by decide +kernel
theorem dX9_signed_18 : decode cX9_signed 18 = .ok (.bipush 45, 2) := by decide +kernel
theorem dX9_signed_20 : decode cX9_signed 20 = .ok (.if_icmp .ne 7, 3) := by decide +kernel
theorem dX9_signed_23 : decode cX9_signed 23 = .ok (.iconst 1, 1) := by decide +kernel
theorem dX9_signed_24 : decode cX9_signed 24 = .ok (.goto 4, 3) := by decide +kernel
theorem dX9_signed_27 : decode cX9_signed 27 = .ok (.iconst 0, 1) := by decide +kernel
theorem dX9_signed_28 : decode cX9_signed 28 = .ok (.istore 4, 2) := by decide +kernel
theorem dX9_signed_30 : decode cX9_signed 30 = .ok (.iload 4, 2) := by decide +kernel
theorem dX9_signed_32 : decode cX9_signed 32 = .ok (.ifCond .eq 7, 3) := by decide +kernel
theorem dX9_signed_35 : decode cX9_signed 35 = .ok (.aload_n 0, 1) := by decide +kernel
theorem dX9_signed_36 : decode cX9_signed 36 = .ok (.invokevirtual 195, 3) := by decide +kernel
theorem dX9_signed_39 : decode cX9_signed 39 = .ok (.aload_n 0, 1) := by decide +kernel
theorem dX9_signed_40 : decode cX9_signed 40 = .ok (.getfield 179, 3) := by decide +kernel
theorem dX9_signed_43 : decode cX9_signed 43 = .ok (.iconst 2, 1) := by decide +kernel
theorem dX9_signed_44 : decode cX9_signed 44 = .ok (.if_icmp .eq 10, 3) := by decide +kernel
theorem dX9_signed_47 : decode cX9_signed 47 = .ok (.aload_n 0, 1) := by decide +kernel
theorem dX9_signed_48 : decode cX9_signed 48 = .ok (.iconst 2, 1) := by decide +kernel
theorem dX9_signed_49 : decode cX9_signed 49 = .ok (.invokevirtual 242, 3) := by decide +kernel
theorem dX9_signed_52 : decode cX9_signed 52 = .ok (.iconst 0, 1) := by decide +kernel
theorem dX9_signed_53 : decode cX9_signed 53 = .ok (.ireturn, 1) := by decide +kernel
theorem dX9_signed_54 : decode cX9_signed 54 = .ok (.iload 4, 2) := by decide +kernel
theorem dX9_signed_56 : decode cX9_signed 56 = .ok (.ifCond .eq 11, 3) := by decide +kernel
theorem dX9_signed_59 : decode cX9_signed 59 = .ok (.aload_n 0, 1) := by decide +kernel
theorem dX9_signed_60 : decode cX9_signed 60 = .ok (.getfield 176, 3) := by decide +kernel
theorem dX9_signed_63 : decode cX9_signed 63 = .ok (.ineg, 1) := by decide +kernel
theorem dX9_signed_64 : decode cX9_signed 64 = .ok (.goto 7, 3) := by decide +kernel
theorem dX9_signed_67 : decode cX9_signed 67 = .ok (.aload_n 0, 1) := by decide +kernel
theorem dX9_signed_68 : decode cX9_signed 68 = .ok (.getfield 176, 3) := by decide +kernel
theorem dX9_signed_71 : decode cX9_signed 71 = .ok (.istore 5, 2) := by decide +kernel
theorem dX9_signed_73 : decode cX9_signed 73 = .ok (.iload 5, 2) := by decide +kernel
theorem dX9_signed_75 : decode cX9_signed 75 = .ok (.iload_n 1, 1) := by decide +kernel
theorem dX9_signed_76 : decode cX9_signed 76 = .ok (.if_icmp .lt 9, 3) := by decide +kernel
theorem dX9_signed_79 : decode cX9_signed 79 = .ok (.iload 5, 2) := by decide +kernel
theorem dX9_signed_81 : decode cX9_signed 81 = .ok (.iload_n 2, 1) := by decide +kernel
theorem dX9_signed_82 : decode cX9_signed 82 = .ok (.if_icmp .le 16, 3) := by decide +kernel
theorem dX9_signed_85 : decode cX9_signed 85 = .ok (.aload_n 0, 1) := by decide +kernel
theorem dX9_signed_86 : decode cX9_signed 86 = .ok (.iconst 4, 1) := by decide +kernel
theorem dX9_signed_87 : decode cX9_signed 87 = .ok (.putfield 192, 3) := by decide +kernel
theorem dX9_signed_90 : decode cX9_signed 90 = .ok (.aload_n 0, 1) := by decide +kernel
theorem dX9_signed_91 : decode cX9_signed 91 = .ok (.iload_n 3, 1) := by decide +kernel
theorem dX9_signed_92 : decode cX9_signed 92 = .ok (.putfield 13, 3) := by decide +kernel
theorem dX9_signed_95 : decode cX9_signed 95 = .ok (.goto 7, 3) := by decide +kernel
theorem dX9_signed_98 : decode cX9_signed 98 = .ok (.aload_n 0, 1) := by decide +kernel
theorem dX9_signed_99 : decode cX9_signed 99 = .ok (.invokevirtual 195, 3) := by decide +kernel
theorem dX9_signed_102 : decode cX9_signed 102 = .ok (.iload 5, 2) := by decide +kernel
theorem dX9_signed_104 : decode cX9_signed 104 = .ok (.ireturn, 1) := by decide +kernel
theorem dX9_named_0 : decode cX9_named 0 = .ok (.aload_n 0, 1) := by decide +kernel
theorem dX9_named_1 : decode cX9_named 1 = .ok (.getfield 192, 3) := by decide +kernel
theorem dX9_named_4 : decode cX9_named 4 = .ok (.ifCond .le 5, 3) := by decide +kernel
theorem dX9_named_7 : decode cX9_named 7 = .ok (.lconst 0, 1) := by decide +kernel
theorem dX9_named_8 : decode cX9_named 8 = .ok (.lreturn, 1) := by decide +kernel
theorem dX9_named_9 : decode cX9_named 9 = .ok (.aload_n 0, 1) := by decide +kernel
theorem dX9_named_10 : decode cX9_named 10 = .ok (.invokevirtual 245, 3) := by decide +kernel
theorem dX9_named_13 : decode cX9_named 13 = .ok (.ifCond .ne 11, 3) := by decide +kernel
theorem dX9_named_16 : decode cX9_named 16 = .ok (.aload_n 0, 1) := by decide +kernel
theorem dX9_named_17 : decode cX9_named 17 = .ok (.iconst 2, 1) := by decide +kernel
theorem dX9_named_18 : decode cX9_named 18 = .ok (.invokevirtual 242, 3) := by decide +kernel
theorem dX9_named_21 : decode cX9_named 21 = .ok (.goto 12, 3) := by decide +kernel
theorem dX9_named_24 : decode cX9_named 24 = .ok (.iload_n 1, 1) := by decide +kernel
theorem dX9_named_25 : decode cX9_named 25 = .ok (.ifCond .eq 8, 3) := by decide +kernel
theorem dX9_named_28 : decode cX9_named 28 = .ok (.aload_n 0, 1) := by decide +kernel
theorem dX9_named_29 : decode cX9_named 29 = .ok (.iconst 3, 1) := by decide +kernel
theorem dX9_named_30 : decode cX9_named 30 = .ok (.invokevirtual 242, 3) := by decide +kernel
theorem dX9_named_33 : decode cX9_named 33 = .ok (.aload_n 0, 1) := by decide +kernel
theorem dX9_named_34 : decode cX9_named 34 = .ok (.getfield 172, 3) := by decide +kernel
theorem dX9_named_37 : decode cX9_named 37 = .ok (.lstore_n 2, 1) := by decide +kernel
theorem dX9_named_38 : decode cX9_named 38 = .ok (.aload_n 0, 1) := by decide +kernel
theorem dX9_named_39 : decode cX9_named 39 = .ok (.getfield 192, 3) := by decide +kernel
theorem dX9_named_42 : decode cX9_named 42 = .ok (.ifCond .ne 7, 3) := by decide +kernel
theorem dX9_named_45 : decode cX9_named 45 = .ok (.aload_n 0, 1) := by decide +kernel
theorem dX9_named_46 : decode cX9_named 46 = .ok (.invokevirtual 195, 3) := by decide +kernel
theorem dX9_named_49 : decode cX9_named 49 = .ok (.lload_n 2, 1) := by decide +kernel
theorem dX9_named_50 : decode cX9_named 50 = .ok (.lreturn, 1) := by decide +kernel
theorem dX9_plain_0 : decode cX9_plain 0 = .ok (.iconst 0, 1) := by decide +kernel
theorem dX9_plain_1 : decode cX9_plain 1 = .ok (.istore_n 1, 1) := by decide +kernel
theorem dX9_plain_2 : decode cX9_plain 2 = .ok (.iload_n 1, 1) := by decide +kernel
theorem dX9_plain_3 : decode cX9_plain 3 = .ok (.bipush 11, 2) := by decide +kernel
theorem dX9_plain_5 : decode cX9_plain 5 = .ok (.if_icmp .ge 19, 3) := by decide +kernel
theorem dX9_plain_8 : decode cX9_plain 8 = .ok (.aload_n 0, 1) := by decide +kernel
theorem dX9_plain_9 : decode cX9_plain 9 = .ok (.getfield 20, 3) := by decide +kernel
theorem dX9_plain_12 : decode cX9_plain 12 = .ok (.iload_n 1, 1) := by decide +kernel
theorem dX9_plain_13 : decode cX9_plain 13 = .ok (.iload_n 1, 1) := by decide +kernel
theorem dX9_plain_14 : decode cX9_plain 14 = .ok (.invokestatic 249, 3) := by decide +kernel
theorem dX9_plain_17 : decode cX9_plain 17 = .ok (.iastore, 1) := by decide +kernel
theorem dX9_plain_18 : decode cX9_plain 18 = .ok (.iinc 1 1, 3) := by decide +kernel
theorem dX9_plain_21 : decode cX9_plain 21 = .ok (.goto (-19), 3) := by decide +kernel
theorem dX9_plain_24 : decode cX9_plain 24 = .ok (.return_, 1) := by decide +kernel
theorem dX9_plainOf_0 : decode cX9_plainOf 0 = .ok (.iload_n 0, 1) := by decide +kernel
theorem dX9_plainOf_1 : decode cX9_plainOf 1 = .ok (.ifCond .eq 13, 3) := by decide +kernel
theorem dX9_plainOf_4 : decode cX9_plainOf 4 = .ok (.iload_n 0, 1) := by decide +kernel
theorem dX9_plainOf_5 : decode cX9_plainOf 5 = .ok (.iconst 2, 1) := by decide +kernel
theorem dX9_plainOf_6 : decode cX9_plainOf 6 = .ok (.if_icmp .eq 8, 3) := by decide +kernel
theorem dX9_plainOf_9 : decode cX9_plainOf 9 = .ok (.iload_n 0, 1) := by decide +kernel
theorem dX9_plainOf_10 : decode cX9_plainOf 10 = .ok (.iconst 4, 1) := by decide +kernel
theorem dX9_plainOf_11 : decode cX9_plainOf 11 = .ok (.if_icmp .ne 8, 3) := by decide +kernel
theorem dX9_plainOf_14 : decode cX9_plainOf 14 = .ok (.bipush 50, 2) := by decide +kernel
theorem dX9_plainOf_16 : decode cX9_plainOf 16 = .ok (.goto 33, 3) := by decide +kernel
theorem dX9_plainOf_19 : decode cX9_plainOf 19 = .ok (.iload_n 0, 1) := by decide +kernel
theorem dX9_plainOf_20 : decode cX9_plainOf 20 = .ok (.iconst 1, 1) := by decide +kernel
theorem dX9_plainOf_21 : decode cX9_plainOf 21 = .ok (.if_icmp .ne 7, 3) := by decide +kernel
theorem dX9_plainOf_24 : decode cX9_plainOf 24 = .ok (.iconst 5, 1) := by decide +kernel
theorem dX9_plainOf_25 : decode cX9_plainOf 25 = .ok (.goto 24, 3) := by decide +kernel
theorem dX9_plainOf_28 : decode cX9_plainOf 28 = .ok (.iload_n 0, 1) := by decide +kernel
theorem dX9_plainOf_29 : decode cX9_plainOf 29 = .ok (.iconst 5, 1) := by decide +kernel
theorem dX9_plainOf_30 : decode cX9_plainOf 30 = .ok (.if_icmp .ne 8, 3) := by decide +kernel
theorem dX9_plainOf_33 : decode cX9_plainOf 33 = .ok (.bipush 90, 2) := by decide +kernel
theorem dX9_plainOf_35 : decode cX9_plainOf 35 = .ok (.goto 14, 3) := by decide +kernel
theorem dX9_plainOf_38 : decode cX9_plainOf 38 = .ok (.iload_n 0, 1) := by decide +kernel
theorem dX9_plainOf_39 : decode cX9_plainOf 39 = .ok (.bipush 6, 2) := by decide +kernel
theorem dX9_plainOf_41 : decode cX9_plainOf 41 = .ok (.if_icmp .ne 7, 3) := by decide +kernel
theorem dX9_plainOf_44 : decode cX9_plainOf 44 = .ok (.iconst 1, 1) := by decide +kernel
theorem dX9_plainOf_45 : decode cX9_plainOf 45 = .ok (.goto 4, 3) := by decide +kernel
theorem dX9_plainOf_48 : decode cX9_plainOf 48 = .ok (.iconst 0, 1) := by decide +kernel
theorem dX9_plainOf_49 : decode cX9_plainOf 49 = .ok (.ireturn, 1) := by decide +kernel
theorem dX9_which_0 : decode cX9_which 0 = .ok (.aload_n 0, 1) := by decide +kernel
theorem dX9_which_1 : decode cX9_which 1 = .ok (.ldc2_w 198, 3) := by decide +kernel
theorem dX9_which_4 : decode cX9_which 4 = .ok (.invokevirtual 238, 3) := by decide +kernel
theorem dX9_which_7 : decode cX9_which 7 = .ok (.ifCond .eq 7, 3) := by decide +kernel
theorem dX9_which_10 : decode cX9_which 10 = .ok (.iconst 0, 1) := by decide +kernel
theorem dX9_which_11 : decode cX9_which 11 = .ok (.goto 121, 3) := by decide +kernel
theorem dX9_which_14 : decode cX9_which 14 = .ok (.aload_n 0, 1) := by decide +kernel
theorem dX9_which_15 : decode cX9_which 15 = .ok (.ldc2_w 204, 3) := by decide +kernel
theorem dX9_which_18 : decode cX9_which 18 = .ok (.invokevirtual 238, 3) := by decide +kernel
theorem dX9_which_21 : decode cX9_which 21 = .ok (.ifCond .eq 7, 3) := by decide +kernel
theorem dX9_which_24 : decode cX9_which 24 = .ok (.iconst 3, 1) := by decide +kernel
theorem dX9_which_25 : decode cX9_which 25 = .ok (.goto 107, 3) := by decide +kernel
theorem dX9_which_28 : decode cX9_which 28 = .ok (.aload_n 0, 1) := by decide +kernel
theorem dX9_which_29 : decode cX9_which 29 = .ok (.ldc2_w 206, 3) := by decide +kernel
theorem dX9_which_32 : decode cX9_which 32 = .ok (.invokevirtual 238, 3) := by decide +kernel
theorem dX9_which_35 : decode cX9_which 35 = .ok (.ifCond .eq 7, 3) := by decide +kernel
theorem dX9_which_38 : decode cX9_which 38 = .ok (.iconst 4, 1) := by decide +kernel
theorem dX9_which_39 : decode cX9_which 39 = .ok (.goto 93, 3) := by decide +kernel
theorem dX9_which_42 : decode cX9_which 42 = .ok (.aload_n 0, 1) := by decide +kernel
theorem dX9_which_43 : decode cX9_which 43 = .ok (.ldc2_w 208, 3) := by decide +kernel
theorem dX9_which_46 : decode cX9_which 46 = .ok (.invokevirtual 238, 3) := by decide +kernel
theorem dX9_which_49 : decode cX9_which 49 = .ok (.ifCond .eq 7, 3) := by decide +kernel
theorem dX9_which_52 : decode cX9_which 52 = .ok (.iconst 5, 1) := by decide +kernel
theorem dX9_which_53 : decode cX9_which 53 = .ok (.goto 79, 3) := by decide +kernel
theorem dX9_which_56 : decode cX9_which 56 = .ok (.aload_n 0, 1) := by decide +kernel
theorem dX9_which_57 : decode cX9_which 57 = .ok (.ldc2_w 210, 3) := by decide +kernel
theorem dX9_which_60 : decode cX9_which 60 = .ok (.invokevirtual 238, 3) := by decide +kernel
theorem dX9_which_63 : decode cX9_which 63 = .ok (.ifCond .eq 8, 3) := by decide +kernel
theorem dX9_which_66 : decode cX9_which 66 = .ok (.bipush 6, 2) := by decide +kernel
theorem dX9_which_68 : decode cX9_which 68 = .ok (.goto 64, 3) := by decide +kernel
theorem dX9_which_71 : decode cX9_which 71 = .ok (.aload_n 0, 1) := by decide +kernel
theorem dX9_which_72 : decode cX9_which 72 = .ok (.ldc2_w 212, 3) := by decide +kernel
theorem dX9_which_75 : decode cX9_which 75 = .ok (.invokevirtual 238, 3) := by decide +kernel
theorem dX9_which_78 : decode cX9_which 78 = .ok (.ifCond .eq 8, 3) := by decide +kernel
theorem dX9_which_81 : decode cX9_which 81 = .ok (.bipush 7, 2) := by decide +kernel
theorem dX9_which_83 : decode cX9_which 83 = .ok (.goto 49, 3) := by decide +kernel
theorem dX9_which_86 : decode cX9_which 86 = .ok (.aload_n 0, 1) := by decide +kernel
theorem dX9_which_87 : decode cX9_which 87 = .ok (.ldc2_w 214, 3) := by decide +kernel
theorem dX9_which_90 : decode cX9_which 90 = .ok (.invokevirtual 238, 3) := by decide +kernel
theorem dX9_which_93 : decode cX9_which 93 = .ok (.ifCond .eq 8, 3) := by decide +kernel
theorem dX9_which_96 : decode cX9_which 96 = .ok (.bipush 8, 2) := by decide +kernel
theorem dX9_which_98 : decode cX9_which 98 = .ok (.goto 34, 3) := by decide +kernel
theorem dX9_which_101 : decode cX9_which 101 = .ok (.aload_n 0, 1) := by decide +kernel
theorem dX9_which_102 : decode cX9_which 102 = .ok (.ldc2_w 216, 3) := by decide +kernel
theorem dX9_which_105 : decode cX9_which 105 = .ok (.invokevirtual 238, 3) := by decide +kernel
theorem dX9_which_108 : decode cX9_which 108 = .ok (.ifCond .eq 8, 3) := by decide +kernel
theorem dX9_which_111 : decode cX9_which 111 = .ok (.bipush 9, 2) := by decide +kernel
theorem dX9_which_113 : decode cX9_which 113 = .ok (.goto 19, 3) := by decide +kernel
theorem dX9_which_116 : decode cX9_which 116 = .ok (.aload_n 0, 1) := by decide +kernel
theorem dX9_which_117 : decode cX9_which 117 = .ok (.ldc2_w 218, 3) := by decide +kernel
theorem dX9_which_120 : decode cX9_which 120 = .ok (.invokevirtual 238, 3) := by decide +kernel
theorem dX9_which_123 : decode cX9_which 123 = .ok (.ifCond .eq 8, 3) := by decide +kernel
theorem dX9_which_126 : decode cX9_which 126 = .ok (.bipush 10, 2) := by decide +kernel
theorem dX9_which_128 : decode cX9_which 128 = .ok (.goto 4, 3) := by decide +kernel
theorem dX9_which_131 : decode cX9_which 131 = .ok (.iconst (-1), 1) := by decide +kernel
theorem dX9_which_132 : decode cX9_which 132 = .ok (.ireturn, 1) := by decide +kernel
theorem dX9_causeOf_0 : decode cX9_causeOf 0 = .ok (.iconst (-1), 1) := by decide +kernel
theorem dX9_causeOf_1 : decode cX9_causeOf 1 = .ok (.istore_n 3, 1) := by decide +kernel
theorem dX9_causeOf_2 : decode cX9_causeOf 2 = .ok (.iconst 0, 1) := by decide +kernel
theorem dX9_causeOf_3 : decode cX9_causeOf 3 = .ok (.istore 4, 2) := by decide +kernel
theorem dX9_causeOf_5 : decode cX9_causeOf 5 = .ok (.iload 4, 2) := by decide +kernel
theorem dX9_causeOf_7 : decode cX9_causeOf 7 = .ok (.aload_n 0, 1) := by decide +kernel
theorem dX9_causeOf_8 : decode cX9_causeOf 8 = .ok (.getfield 252, 3) := by decide +kernel
theorem dX9_causeOf_11 : decode cX9_causeOf 11 = .ok (.if_icmp .ge 28, 3) := by decide +kernel
theorem dX9_causeOf_14 : decode cX9_causeOf 14 = .ok (.aload_n 0, 1) := by decide +kernel
theorem dX9_causeOf_15 : decode cX9_causeOf 15 = .ok (.getfield 33, 3) := by decide +kernel
theorem dX9_causeOf_18 : decode cX9_causeOf 18 = .ok (.iload 4, 2) := by decide +kernel
theorem dX9_causeOf_20 : decode cX9_causeOf 20 = .ok (.laload, 1) := by decide +kernel
theorem dX9_causeOf_21 : decode cX9_causeOf 21 = .ok (.lload_n 1, 1) := by decide +kernel
theorem dX9_causeOf_22 : decode cX9_causeOf 22 = .ok (.lcmp, 1) := by decide +kernel
theorem dX9_causeOf_23 : decode cX9_causeOf 23 = .ok (.ifCond .ne 8, 3) := by decide +kernel
theorem dX9_causeOf_26 : decode cX9_causeOf 26 = .ok (.iload 4, 2) := by decide +kernel
theorem dX9_causeOf_28 : decode cX9_causeOf 28 = .ok (.goto 4, 3) := by decide +kernel
theorem dX9_causeOf_31 : decode cX9_causeOf 31 = .ok (.iload_n 3, 1) := by decide +kernel
theorem dX9_causeOf_32 : decode cX9_causeOf 32 = .ok (.istore_n 3, 1) := by decide +kernel
theorem dX9_causeOf_33 : decode cX9_causeOf 33 = .ok (.iinc 4 1, 3) := by decide +kernel
theorem dX9_causeOf_36 : decode cX9_causeOf 36 = .ok (.goto (-31), 3) := by decide +kernel
theorem dX9_causeOf_39 : decode cX9_causeOf 39 = .ok (.iload_n 3, 1) := by decide +kernel
theorem dX9_causeOf_40 : decode cX9_causeOf 40 = .ok (.ireturn, 1) := by decide +kernel
theorem dX9_readTold_0 : decode cX9_readTold 0 = .ok (.aload_n 0, 1) := by decide +kernel
theorem dX9_readTold_1 : decode cX9_readTold 1 = .ok (.getfield 29, 3) := by decide +kernel
theorem dX9_readTold_4 : decode cX9_readTold 4 = .ok (.iload_n 1, 1) := by decide +kernel
theorem dX9_readTold_5 : decode cX9_readTold 5 = .ok (.iconst 1, 1) := by decide +kernel
theorem dX9_readTold_6 : decode cX9_readTold 6 = .ok (.bastore, 1) := by decide +kernel
theorem dX9_readTold_7 : decode cX9_readTold 7 = .ok (.aload_n 0, 1) := by decide +kernel
theorem dX9_readTold_8 : decode cX9_readTold 8 = .ok (.invokevirtual 195, 3) := by decide +kernel
theorem dX9_readTold_11 : decode cX9_readTold 11 = .ok (.iload_n 1, 1) := by decide +kernel
theorem dX9_readTold_12 : decode cX9_readTold 12 = .ok (.bipush 7, 2) := by decide +kernel
theorem dX9_readTold_14 : decode cX9_readTold 14 = .ok (.if_icmp .lt 22, 3) := by decide +kernel
theorem dX9_readTold_17 : decode cX9_readTold 17 = .ok (.aload_n 0, 1) := by decide +kernel
theorem dX9_readTold_18 : decode cX9_readTold 18 = .ok (.getfield 17, 3) := by decide +kernel
theorem dX9_readTold_21 : decode cX9_readTold 21 = .ok (.iload_n 1, 1) := by decide +kernel
theorem dX9_readTold_22 : decode cX9_readTold 22 = .ok (.aload_n 0, 1) := by decide +kernel
theorem dX9_readTold_23 : decode cX9_readTold 23 = .ok (.sipush (-999), 3) := by decide +kernel
theorem dX9_readTold_26 : decode cX9_readTold 26 = .ok (.sipush 999, 3) := by decide +kernel
theorem dX9_readTold_29 : decode cX9_readTold 29 = .ok (.invokevirtual 255, 3) := by decide +kernel
theorem dX9_readTold_32 : decode cX9_readTold 32 = .ok (.iastore, 1) := by decide +kernel
theorem dX9_readTold_33 : decode cX9_readTold 33 = .ok (.goto 40, 3) := by decide +kernel
theorem dX9_readTold_36 : decode cX9_readTold 36 = .ok (.aload_n 0, 1) := by decide +kernel
theorem dX9_readTold_37 : decode cX9_readTold 37 = .ok (.getfield 17, 3) := by decide +kernel
theorem dX9_readTold_40 : decode cX9_readTold 40 = .ok (.iload_n 1, 1) := by decide +kernel
theorem dX9_readTold_41 : decode cX9_readTold 41 = .ok (.aload_n 0, 1) := by decide +kernel
theorem dX9_readTold_42 : decode cX9_readTold 42 = .ok (.iload_n 1, 1) := by decide +kernel
theorem dX9_readTold_43 : decode cX9_readTold 43 = .ok (.iconst 3, 1) := by decide +kernel
theorem dX9_readTold_44 : decode cX9_readTold 44 = .ok (.if_icmp .eq 8, 3) := by decide +kernel
theorem dX9_readTold_47 : decode cX9_readTold 47 = .ok (.iload_n 1, 1) := by decide +kernel
theorem dX9_readTold_48 : decode cX9_readTold 48 = .ok (.iconst 5, 1) := by decide +kernel
theorem dX9_readTold_49 : decode cX9_readTold 49 = .ok (.if_icmp .ne 7, 3) := by decide +kernel
theorem dX9_readTold_52 : decode cX9_readTold 52 = .ok (.iconst 0, 1) := by decide +kernel
theorem dX9_readTold_53 : decode cX9_readTold 53 = .ok (.goto 4, 3) := by decide +kernel
theorem dX9_readTold_56 : decode cX9_readTold 56 = .ok (.iconst 1, 1) := by decide +kernel
theorem dX9_readTold_57 : decode cX9_readTold 57 = .ok (.iload_n 1, 1) := by decide +kernel
theorem dX9_readTold_58 : decode cX9_readTold 58 = .ok (.iconst 5, 1) := by decide +kernel
theorem dX9_readTold_59 : decode cX9_readTold 59 = .ok (.if_icmp .ne 8, 3) := by decide +kernel
theorem dX9_readTold_62 : decode cX9_readTold 62 = .ok (.bipush 100, 2) := by decide +kernel
theorem dX9_readTold_64 : decode cX9_readTold 64 = .ok (.goto 5, 3) := by decide +kernel
theorem dX9_readTold_67 : decode cX9_readTold 67 = .ok (.bipush 99, 2) := by decide +kernel
theorem dX9_readTold_69 : decode cX9_readTold 69 = .ok (.invokevirtual 259, 3) := by decide +kernel
theorem dX9_readTold_72 : decode cX9_readTold 72 = .ok (.iastore, 1) := by decide +kernel
theorem dX9_readTold_73 : decode cX9_readTold 73 = .ok (.iload_n 1, 1) := by decide +kernel
theorem dX9_readTold_74 : decode cX9_readTold 74 = .ok (.ifCond .eq 4, 3) := by decide +kernel
theorem dX9_readTold_77 : decode cX9_readTold 77 = .ok (.return_, 1) := by decide +kernel
theorem dX9_readTold_78 : decode cX9_readTold 78 = .ok (.aload_n 0, 1) := by decide +kernel
theorem dX9_readTold_79 : decode cX9_readTold 79 = .ok (.ldc2_w 200, 3) := by decide +kernel
theorem dX9_readTold_82 : decode cX9_readTold 82 = .ok (.invokevirtual 262, 3) := by decide +kernel
theorem dX9_readTold_85 : decode cX9_readTold 85 = .ok (.aload_n 0, 1) := by decide +kernel
theorem dX9_readTold_86 : decode cX9_readTold 86 = .ok (.getfield 17, 3) := by decide +kernel
theorem dX9_readTold_89 : decode cX9_readTold 89 = .ok (.iconst 1, 1) := by decide +kernel
theorem dX9_readTold_90 : decode cX9_readTold 90 = .ok (.aload_n 0, 1) := by decide +kernel
theorem dX9_readTold_91 : decode cX9_readTold 91 = .ok (.iconst 1, 1) := by decide +kernel
theorem dX9_readTold_92 : decode cX9_readTold 92 = .ok (.bipush 20, 2) := by decide +kernel
theorem dX9_readTold_94 : decode cX9_readTold 94 = .ok (.invokevirtual 259, 3) := by decide +kernel
theorem dX9_readTold_97 : decode cX9_readTold 97 = .ok (.iastore, 1) := by decide +kernel
theorem dX9_readTold_98 : decode cX9_readTold 98 = .ok (.aload_n 0, 1) := by decide +kernel
theorem dX9_readTold_99 : decode cX9_readTold 99 = .ok (.ldc2_w 202, 3) := by decide +kernel
theorem dX9_readTold_102 : decode cX9_readTold 102 = .ok (.invokevirtual 262, 3) := by decide +kernel
theorem dX9_readTold_105 : decode cX9_readTold 105 = .ok (.aload_n 0, 1) := by decide +kernel
theorem dX9_readTold_106 : decode cX9_readTold 106 = .ok (.getfield 17, 3) := by decide +kernel
theorem dX9_readTold_109 : decode cX9_readTold 109 = .ok (.iconst 2, 1) := by decide +kernel
theorem dX9_readTold_110 : decode cX9_readTold 110 = .ok (.aload_n 0, 1) := by decide +kernel
theorem dX9_readTold_111 : decode cX9_readTold 111 = .ok (.aload_n 0, 1) := by decide +kernel
theorem dX9_readTold_112 : decode cX9_readTold 112 = .ok (.getfield 17, 3) := by decide +kernel
theorem dX9_readTold_115 : decode cX9_readTold 115 = .ok (.iconst 1, 1) := by decide +kernel
theorem dX9_readTold_116 : decode cX9_readTold 116 = .ok (.iaload, 1) := by decide +kernel
theorem dX9_readTold_117 : decode cX9_readTold 117 = .ok (.iconst 1, 1) := by decide +kernel
theorem dX9_readTold_118 : decode cX9_readTold 118 = .ok (.iadd, 1) := by decide +kernel
theorem dX9_readTold_119 : decode cX9_readTold 119 = .ok (.bipush 99, 2) := by decide +kernel
theorem dX9_readTold_121 : decode cX9_readTold 121 = .ok (.invokevirtual 259, 3) := by decide +kernel
theorem dX9_readTold_124 : decode cX9_readTold 124 = .ok (.iastore, 1) := by decide +kernel
theorem dX9_readTold_125 : decode cX9_readTold 125 = .ok (.return_, 1) := by decide +kernel
theorem dX9_readCause_0 : decode cX9_readCause 0 = .ok (.aload_n 0, 1) := by decide +kernel
theorem dX9_readCause_1 : decode cX9_readCause 1 = .ok (.invokevirtual 195, 3) := by decide +kernel
theorem dX9_readCause_4 : decode cX9_readCause 4 = .ok (.aload_n 0, 1) := by decide +kernel
theorem dX9_readCause_5 : decode cX9_readCause 5 = .ok (.aload_n 0, 1) := by decide +kernel
theorem dX9_readCause_6 : decode cX9_readCause 6 = .ok (.aload_n 0, 1) := by decide +kernel
theorem dX9_readCause_7 : decode cX9_readCause 7 = .ok (.getfield 172, 3) := by decide +kernel
theorem dX9_readCause_10 : decode cX9_readCause 10 = .ok (.invokevirtual 266, 3) := by decide +kernel
theorem dX9_readCause_13 : decode cX9_readCause 13 = .ok (.ifCond .lt 7, 3) := by decide +kernel
theorem dX9_readCause_16 : decode cX9_readCause 16 = .ok (.iconst 1, 1) := by decide +kernel
theorem dX9_readCause_17 : decode cX9_readCause 17 = .ok (.goto 4, 3) := by decide +kernel
theorem dX9_readCause_20 : decode cX9_readCause 20 = .ok (.iconst 0, 1) := by decide +kernel
theorem dX9_readCause_21 : decode cX9_readCause 21 = .ok (.invokevirtual 270, 3) := by decide +kernel
theorem dX9_readCause_24 : decode cX9_readCause 24 = .ok (.lstore_n 1, 1) := by decide +kernel
theorem dX9_readCause_25 : decode cX9_readCause 25 = .ok (.aload_n 0, 1) := by decide +kernel
theorem dX9_readCause_26 : decode cX9_readCause 26 = .ok (.getfield 192, 3) := by decide +kernel
theorem dX9_readCause_29 : decode cX9_readCause 29 = .ok (.ifCond .le 4, 3) := by decide +kernel
theorem dX9_readCause_32 : decode cX9_readCause 32 = .ok (.return_, 1) := by decide +kernel
theorem dX9_readCause_33 : decode cX9_readCause 33 = .ok (.aload_n 0, 1) := by decide +kernel
theorem dX9_readCause_34 : decode cX9_readCause 34 = .ok (.getfield 33, 3) := by decide +kernel
theorem dX9_readCause_37 : decode cX9_readCause 37 = .ok (.aload_n 0, 1) := by decide +kernel
theorem dX9_readCause_38 : decode cX9_readCause 38 = .ok (.getfield 252, 3) := by decide +kernel
theorem dX9_readCause_41 : decode cX9_readCause 41 = .ok (.lload_n 1, 1) := by decide +kernel
theorem dX9_readCause_42 : decode cX9_readCause 42 = .ok (.lastore, 1) := by decide +kernel
theorem dX9_readCause_43 : decode cX9_readCause 43 = .ok (.aload_n 0, 1) := by decide +kernel
theorem dX9_readCause_44 : decode cX9_readCause 44 = .ok (.dup, 1) := by decide +kernel
theorem dX9_readCause_45 : decode cX9_readCause 45 = .ok (.getfield 252, 3) := by decide +kernel
theorem dX9_readCause_48 : decode cX9_readCause 48 = .ok (.iconst 1, 1) := by decide +kernel
theorem dX9_readCause_49 : decode cX9_readCause 49 = .ok (.iadd, 1) := by decide +kernel
theorem dX9_readCause_50 : decode cX9_readCause 50 = .ok (.putfield 252, 3) := by decide +kernel
theorem dX9_readCause_53 : decode cX9_readCause 53 = .ok (.return_, 1) := by decide +kernel
theorem dX9_readTrial_0 : decode cX9_readTrial 0 = .ok (.aload_n 0, 1) := by decide +kernel
theorem dX9_readTrial_1 : decode cX9_readTrial 1 = .ok (.invokevirtual 195, 3) := by decide +kernel
theorem dX9_readTrial_4 : decode cX9_readTrial 4 = .ok (.iconst 0, 1) := by decide +kernel
theorem dX9_readTrial_5 : decode cX9_readTrial 5 = .ok (.istore_n 1, 1) := by decide +kernel
theorem dX9_readTrial_6 : decode cX9_readTrial 6 = .ok (.iconst 0, 1) := by decide +kernel
theorem dX9_readTrial_7 : decode cX9_readTrial 7 = .ok (.istore_n 2, 1) := by decide +kernel
theorem dX9_readTrial_8 : decode cX9_readTrial 8 = .ok (.iload_n 2, 1) := by decide +kernel
theorem dX9_readTrial_9 : decode cX9_readTrial 9 = .ok (.aload_n 0, 1) := by decide +kernel
theorem dX9_readTrial_10 : decode cX9_readTrial 10 = .ok (.getfield 274, 3) := by decide +kernel
theorem dX9_readTrial_13 : decode cX9_readTrial 13 = .ok (.if_icmp .ge 33, 3) := by decide +kernel
theorem dX9_readTrial_16 : decode cX9_readTrial 16 = .ok (.iload_n 1, 1) := by decide +kernel
theorem dX9_readTrial_17 : decode cX9_readTrial 17 = .ok (.ifCond .ne 17, 3) := by decide +kernel
theorem dX9_readTrial_20 : decode cX9_readTrial 20 = .ok (.aload_n 0, 1) := by decide +kernel
theorem dX9_readTrial_21 : decode cX9_readTrial 21 = .ok (.getfield 37, 3) := by decide +kernel
theorem dX9_readTrial_24 : decode cX9_readTrial 24 = .ok (.iload_n 2, 1) := by decide +kernel
theorem dX9_readTrial_25 : decode cX9_readTrial 25 = .ok (.laload, 1) := by decide +kernel
theorem dX9_readTrial_26 : decode cX9_readTrial 26 = .ok (.aload_n 0, 1) := by decide +kernel
theorem dX9_readTrial_27 : decode cX9_readTrial 27 = .ok (.getfield 172, 3) := by decide +kernel
theorem dX9_readTrial_30 : decode cX9_readTrial 30 = .ok (.lcmp, 1) := by decide +kernel
theorem dX9_readTrial_31 : decode cX9_readTrial 31 = .ok (.ifCond .ne 7, 3) := by decide +kernel
theorem dX9_readTrial_34 : decode cX9_readTrial 34 = .ok (.iconst 1, 1) := by decide +kernel
theorem dX9_readTrial_35 : decode cX9_readTrial 35 = .ok (.goto 4, 3) := by decide +kernel
theorem dX9_readTrial_38 : decode cX9_readTrial 38 = .ok (.iconst 0, 1) := by decide +kernel
theorem dX9_readTrial_39 : decode cX9_readTrial 39 = .ok (.istore_n 1, 1) := by decide +kernel
theorem dX9_readTrial_40 : decode cX9_readTrial 40 = .ok (.iinc 2 1, 3) := by decide +kernel
theorem dX9_readTrial_43 : decode cX9_readTrial 43 = .ok (.goto (-35), 3) := by decide +kernel
theorem dX9_readTrial_46 : decode cX9_readTrial 46 = .ok (.aload_n 0, 1) := by decide +kernel
theorem dX9_readTrial_47 : decode cX9_readTrial 47 = .ok (.iload_n 1, 1) := by decide +kernel
theorem dX9_readTrial_48 : decode cX9_readTrial 48 = .ok (.invokevirtual 270, 3) := by decide +kernel
theorem dX9_readTrial_51 : decode cX9_readTrial 51 = .ok (.lstore_n 2, 1) := by decide +kernel
theorem dX9_readTrial_52 : decode cX9_readTrial 52 = .ok (.aload_n 0, 1) := by decide +kernel
theorem dX9_readTrial_53 : decode cX9_readTrial 53 = .ok (.ldc2_w 224, 3) := by decide +kernel
theorem dX9_readTrial_56 : decode cX9_readTrial 56 = .ok (.invokevirtual 262, 3) := by decide +kernel
theorem dX9_readTrial_59 : decode cX9_readTrial 59 = .ok (.iconst 0, 1) := by decide +kernel
theorem dX9_readTrial_60 : decode cX9_readTrial 60 = .ok (.istore 4, 2) := by decide +kernel
theorem dX9_readTrial_62 : decode cX9_readTrial 62 = .ok (.aload_n 0, 1) := by decide +kernel
theorem dX9_readTrial_63 : decode cX9_readTrial 63 = .ok (.getfield 192, 3) := by decide +kernel
theorem dX9_readTrial_66 : decode cX9_readTrial 66 = .ok (.ifCond .ne 15, 3) := by decide +kernel
theorem dX9_readTrial_69 : decode cX9_readTrial 69 = .ok (.aload_n 0, 1) := by decide +kernel
theorem dX9_readTrial_70 : decode cX9_readTrial 70 = .ok (.invokevirtual 245, 3) := by decide +kernel
theorem dX9_readTrial_73 : decode cX9_readTrial 73 = .ok (.ifCond .ne 8, 3) := by decide +kernel
theorem dX9_readTrial_76 : decode cX9_readTrial 76 = .ok (.aload_n 0, 1) := by decide +kernel
theorem dX9_readTrial_77 : decode cX9_readTrial 77 = .ok (.iconst 2, 1) := by decide +kernel
theorem dX9_readTrial_78 : decode cX9_readTrial 78 = .ok (.invokevirtual 242, 3) := by decide +kernel
theorem dX9_readTrial_81 : decode cX9_readTrial 81 = .ok (.aload_n 0, 1) := by decide +kernel
theorem dX9_readTrial_82 : decode cX9_readTrial 82 = .ok (.getfield 192, 3) := by decide +kernel
theorem dX9_readTrial_85 : decode cX9_readTrial 85 = .ok (.ifCond .ne 73, 3) := by decide +kernel
theorem dX9_readTrial_88 : decode cX9_readTrial 88 = .ok (.aload_n 0, 1) := by decide +kernel
theorem dX9_readTrial_89 : decode cX9_readTrial 89 = .ok (.invokevirtual 245, 3) := by decide +kernel
theorem dX9_readTrial_92 : decode cX9_readTrial 92 = .ok (.ifCond .eq 66, 3) := by decide +kernel
theorem dX9_readTrial_95 : decode cX9_readTrial 95 = .ok (.aload_n 0, 1) := by decide +kernel
theorem dX9_readTrial_96 : decode cX9_readTrial 96 = .ok (.aload_n 0, 1) := by decide +kernel
theorem dX9_readTrial_97 : decode cX9_readTrial 97 = .ok (.getfield 172, 3) := by decide +kernel
theorem dX9_readTrial_100 : decode cX9_readTrial 100 = .ok (.invokevirtual 266, 3) := by decide +kernel
theorem dX9_readTrial_103 : decode cX9_readTrial 103 = .ok (.istore 5, 2) := by decide +kernel
theorem dX9_readTrial_105 : decode cX9_readTrial 105 = .ok (.iload 5, 2) := by decide +kernel
theorem dX9_readTrial_107 : decode cX9_readTrial 107 = .ok (.ifCond .ge 11, 3) := by decide +kernel
theorem dX9_readTrial_110 : decode cX9_readTrial 110 = .ok (.aload_n 0, 1) := by decide +kernel
theorem dX9_readTrial_111 : decode cX9_readTrial 111 = .ok (.iconst 5, 1) := by decide +kernel
theorem dX9_readTrial_112 : decode cX9_readTrial 112 = .ok (.invokevirtual 242, 3) := by decide +kernel
theorem dX9_readTrial_115 : decode cX9_readTrial 115 = .ok (.goto 19, 3) := by decide +kernel
theorem dX9_readTrial_118 : decode cX9_readTrial 118 = .ok (.iload 4, 2) := by decide +kernel
theorem dX9_readTrial_120 : decode cX9_readTrial 120 = .ok (.iload 5, 2) := by decide +kernel
theorem dX9_readTrial_122 : decode cX9_readTrial 122 = .ok (.ishr, 1) := by decide +kernel
theorem dX9_readTrial_123 : decode cX9_readTrial 123 = .ok (.iconst 1, 1) := by decide +kernel
theorem dX9_readTrial_124 : decode cX9_readTrial 124 = .ok (.iand, 1) := by decide +kernel
theorem dX9_readTrial_125 : decode cX9_readTrial 125 = .ok (.iconst 1, 1) := by decide +kernel
theorem dX9_readTrial_126 : decode cX9_readTrial 126 = .ok (.if_icmp .ne 8, 3) := by decide +kernel
theorem dX9_readTrial_129 : decode cX9_readTrial 129 = .ok (.aload_n 0, 1) := by decide +kernel
theorem dX9_readTrial_130 : decode cX9_readTrial 130 = .ok (.iconst 3, 1) := by decide +kernel
theorem dX9_readTrial_131 : decode cX9_readTrial 131 = .ok (.invokevirtual 242, 3) := by decide +kernel
theorem dX9_readTrial_134 : decode cX9_readTrial 134 = .ok (.aload_n 0, 1) := by decide +kernel
theorem dX9_readTrial_135 : decode cX9_readTrial 135 = .ok (.getfield 192, 3) := by decide +kernel
theorem dX9_readTrial_138 : decode cX9_readTrial 138 = .ok (.ifCond .le 4, 3) := by decide +kernel
theorem dX9_readTrial_141 : decode cX9_readTrial 141 = .ok (.return_, 1) := by decide +kernel
theorem dX9_readTrial_142 : decode cX9_readTrial 142 = .ok (.iload 4, 2) := by decide +kernel
theorem dX9_readTrial_144 : decode cX9_readTrial 144 = .ok (.iconst 1, 1) := by decide +kernel
theorem dX9_readTrial_145 : decode cX9_readTrial 145 = .ok (.iload 5, 2) := by decide +kernel
theorem dX9_readTrial_147 : decode cX9_readTrial 147 = .ok (.ishl, 1) := by decide +kernel
theorem dX9_readTrial_148 : decode cX9_readTrial 148 = .ok (.ior, 1) := by decide +kernel
theorem dX9_readTrial_149 : decode cX9_readTrial 149 = .ok (.istore 4, 2) := by decide +kernel
theorem dX9_readTrial_151 : decode cX9_readTrial 151 = .ok (.aload_n 0, 1) := by decide +kernel
theorem dX9_readTrial_152 : decode cX9_readTrial 152 = .ok (.invokevirtual 195, 3) := by decide +kernel
theorem dX9_readTrial_155 : decode cX9_readTrial 155 = .ok (.goto (-74), 3) := by decide +kernel
theorem dX9_readTrial_158 : decode cX9_readTrial 158 = .ok (.aload_n 0, 1) := by decide +kernel
theorem dX9_readTrial_159 : decode cX9_readTrial 159 = .ok (.getfield 192, 3) := by decide +kernel
theorem dX9_readTrial_162 : decode cX9_readTrial 162 = .ok (.ifCond .le 4, 3) := by decide +kernel
theorem dX9_readTrial_165 : decode cX9_readTrial 165 = .ok (.return_, 1) := by decide +kernel
theorem dX9_readTrial_166 : decode cX9_readTrial 166 = .ok (.aload_n 0, 1) := by decide +kernel
theorem dX9_readTrial_167 : decode cX9_readTrial 167 = .ok (.getfield 37, 3) := by decide +kernel
theorem dX9_readTrial_170 : decode cX9_readTrial 170 = .ok (.aload_n 0, 1) := by decide +kernel
theorem dX9_readTrial_171 : decode cX9_readTrial 171 = .ok (.getfield 274, 3) := by decide +kernel
theorem dX9_readTrial_174 : decode cX9_readTrial 174 = .ok (.lload_n 2, 1) := by decide +kernel
theorem dX9_readTrial_175 : decode cX9_readTrial 175 = .ok (.lastore, 1) := by decide +kernel
theorem dX9_readTrial_176 : decode cX9_readTrial 176 = .ok (.aload_n 0, 1) := by decide +kernel
theorem dX9_readTrial_177 : decode cX9_readTrial 177 = .ok (.getfield 23, 3) := by decide +kernel
theorem dX9_readTrial_180 : decode cX9_readTrial 180 = .ok (.aload_n 0, 1) := by decide +kernel
theorem dX9_readTrial_181 : decode cX9_readTrial 181 = .ok (.getfield 274, 3) := by decide +kernel
theorem dX9_readTrial_184 : decode cX9_readTrial 184 = .ok (.iload 4, 2) := by decide +kernel
theorem dX9_readTrial_186 : decode cX9_readTrial 186 = .ok (.iastore, 1) := by decide +kernel
theorem dX9_readTrial_187 : decode cX9_readTrial 187 = .ok (.aload_n 0, 1) := by decide +kernel
theorem dX9_readTrial_188 : decode cX9_readTrial 188 = .ok (.dup, 1) := by decide +kernel
theorem dX9_readTrial_189 : decode cX9_readTrial 189 = .ok (.getfield 274, 3) := by decide +kernel
theorem dX9_readTrial_192 : decode cX9_readTrial 192 = .ok (.iconst 1, 1) := by decide +kernel
theorem dX9_readTrial_193 : decode cX9_readTrial 193 = .ok (.iadd, 1) := by decide +kernel
theorem dX9_readTrial_194 : decode cX9_readTrial 194 = .ok (.putfield 274, 3) := by decide +kernel
theorem dX9_readTrial_197 : decode cX9_readTrial 197 = .ok (.return_, 1) := by decide +kernel
theorem dX9_shed_0 : decode cX9_shed 0 = .ok (.aload_n 0, 1) := by decide +kernel
theorem dX9_shed_1 : decode cX9_shed 1 = .ok (.iconst 0, 1) := by decide +kernel
theorem dX9_shed_2 : decode cX9_shed 2 = .ok (.putfield 252, 3) := by decide +kernel
theorem dX9_shed_5 : decode cX9_shed 5 = .ok (.aload_n 0, 1) := by decide +kernel
theorem dX9_shed_6 : decode cX9_shed 6 = .ok (.iconst 0, 1) := by decide +kernel
theorem dX9_shed_7 : decode cX9_shed 7 = .ok (.putfield 274, 3) := by decide +kernel
theorem dX9_shed_10 : decode cX9_shed 10 = .ok (.aload_n 0, 1) := by decide +kernel
theorem dX9_shed_11 : decode cX9_shed 11 = .ok (.iconst 0, 1) := by decide +kernel
theorem dX9_shed_12 : decode cX9_shed 12 = .ok (.putfield 277, 3) := by decide +kernel
theorem dX9_shed_15 : decode cX9_shed 15 = .ok (.iconst 0, 1) := by decide +kernel
theorem dX9_shed_16 : decode cX9_shed 16 = .ok (.istore_n 1, 1) := by decide +kernel
theorem dX9_shed_17 : decode cX9_shed 17 = .ok (.iload_n 1, 1) := by decide +kernel
theorem dX9_shed_18 : decode cX9_shed 18 = .ok (.bipush 11, 2) := by decide +kernel
theorem dX9_shed_20 : decode cX9_shed 20 = .ok (.if_icmp .ge 26, 3) := by decide +kernel
theorem dX9_shed_23 : decode cX9_shed 23 = .ok (.aload_n 0, 1) := by decide +kernel
theorem dX9_shed_24 : decode cX9_shed 24 = .ok (.getfield 17, 3) := by decide +kernel
theorem dX9_shed_27 : decode cX9_shed 27 = .ok (.iload_n 1, 1) := by decide +kernel
theorem dX9_shed_28 : decode cX9_shed 28 = .ok (.iload_n 1, 1) := by decide +kernel
theorem dX9_shed_29 : decode cX9_shed 29 = .ok (.invokestatic 249, 3) := by decide +kernel
theorem dX9_shed_32 : decode cX9_shed 32 = .ok (.iastore, 1) := by decide +kernel
theorem dX9_shed_33 : decode cX9_shed 33 = .ok (.aload_n 0, 1) := by decide +kernel
theorem dX9_shed_34 : decode cX9_shed 34 = .ok (.getfield 29, 3) := by decide +kernel
theorem dX9_shed_37 : decode cX9_shed 37 = .ok (.iload_n 1, 1) := by decide +kernel
theorem dX9_shed_38 : decode cX9_shed 38 = .ok (.iconst 0, 1) := by decide +kernel
theorem dX9_shed_39 : decode cX9_shed 39 = .ok (.bastore, 1) := by decide +kernel
theorem dX9_shed_40 : decode cX9_shed 40 = .ok (.iinc 1 1, 3) := by decide +kernel
theorem dX9_shed_43 : decode cX9_shed 43 = .ok (.goto (-26), 3) := by decide +kernel
theorem dX9_shed_46 : decode cX9_shed 46 = .ok (.aload_n 0, 1) := by decide +kernel
theorem dX9_shed_47 : decode cX9_shed 47 = .ok (.iconst 0, 1) := by decide +kernel
theorem dX9_shed_48 : decode cX9_shed 48 = .ok (.invokevirtual 280, 3) := by decide +kernel
theorem dX9_shed_51 : decode cX9_shed 51 = .ok (.aload_n 0, 1) := by decide +kernel
theorem dX9_shed_52 : decode cX9_shed 52 = .ok (.getfield 192, 3) := by decide +kernel
theorem dX9_shed_55 : decode cX9_shed 55 = .ok (.ifCond .ne 138, 3) := by decide +kernel
theorem dX9_shed_58 : decode cX9_shed 58 = .ok (.aload_n 0, 1) := by decide +kernel
theorem dX9_shed_59 : decode cX9_shed 59 = .ok (.getfield 179, 3) := by decide +kernel
theorem dX9_shed_62 : decode cX9_shed 62 = .ok (.ifCond .eq 131, 3) := by decide +kernel
theorem dX9_shed_65 : decode cX9_shed 65 = .ok (.aload_n 0, 1) := by decide +kernel
theorem dX9_shed_66 : decode cX9_shed 66 = .ok (.invokevirtual 284, 3) := by decide +kernel
theorem dX9_shed_69 : decode cX9_shed 69 = .ok (.istore_n 1, 1) := by decide +kernel
theorem dX9_shed_70 : decode cX9_shed 70 = .ok (.iload_n 1, 1) := by decide +kernel
theorem dX9_shed_71 : decode cX9_shed 71 = .ok (.ifCond .lt 20, 3) := by decide +kernel
theorem dX9_shed_74 : decode cX9_shed 74 = .ok (.aload_n 0, 1) := by decide +kernel
theorem dX9_shed_75 : decode cX9_shed 75 = .ok (.getfield 29, 3) := by decide +kernel
theorem dX9_shed_78 : decode cX9_shed 78 = .ok (.iload_n 1, 1) := by decide +kernel
theorem dX9_shed_79 : decode cX9_shed 79 = .ok (.baload, 1) := by decide +kernel
theorem dX9_shed_80 : decode cX9_shed 80 = .ok (.ifCond .ne 11, 3) := by decide +kernel
theorem dX9_shed_83 : decode cX9_shed 83 = .ok (.aload_n 0, 1) := by decide +kernel
theorem dX9_shed_84 : decode cX9_shed 84 = .ok (.iload_n 1, 1) := by decide +kernel
theorem dX9_shed_85 : decode cX9_shed 85 = .ok (.invokevirtual 288, 3) := by decide +kernel
theorem dX9_shed_88 : decode cX9_shed 88 = .ok (.goto 60, 3) := by decide +kernel
theorem dX9_shed_91 : decode cX9_shed 91 = .ok (.aload_n 0, 1) := by decide +kernel
theorem dX9_shed_92 : decode cX9_shed 92 = .ok (.ldc2_w 220, 3) := by decide +kernel
theorem dX9_shed_95 : decode cX9_shed 95 = .ok (.invokevirtual 238, 3) := by decide +kernel
theorem dX9_shed_98 : decode cX9_shed 98 = .ok (.ifCond .eq 19, 3) := by decide +kernel
theorem dX9_shed_101 : decode cX9_shed 101 = .ok (.aload_n 0, 1) := by decide +kernel
theorem dX9_shed_102 : decode cX9_shed 102 = .ok (.getfield 252, 3) := by decide +kernel
theorem dX9_shed_105 : decode cX9_shed 105 = .ok (.bipush 8, 2) := by decide +kernel
theorem dX9_shed_107 : decode cX9_shed 107 = .ok (.if_icmp .ge 10, 3) := by decide +kernel
theorem dX9_shed_110 : decode cX9_shed 110 = .ok (.aload_n 0, 1) := by decide +kernel
theorem dX9_shed_111 : decode cX9_shed 111 = .ok (.invokevirtual 291, 3) := by decide +kernel
theorem dX9_shed_114 : decode cX9_shed 114 = .ok (.goto 34, 3) := by decide +kernel
theorem dX9_shed_117 : decode cX9_shed 117 = .ok (.aload_n 0, 1) := by decide +kernel
theorem dX9_shed_118 : decode cX9_shed 118 = .ok (.ldc2_w 222, 3) := by decide +kernel
theorem dX9_shed_121 : decode cX9_shed 121 = .ok (.invokevirtual 238, 3) := by decide +kernel
theorem dX9_shed_124 : decode cX9_shed 124 = .ok (.ifCond .eq 19, 3) := by decide +kernel
theorem dX9_shed_127 : decode cX9_shed 127 = .ok (.aload_n 0, 1) := by decide +kernel
theorem dX9_shed_128 : decode cX9_shed 128 = .ok (.getfield 274, 3) := by decide +kernel
theorem dX9_shed_131 : decode cX9_shed 131 = .ok (.bipush 8, 2) := by decide +kernel
theorem dX9_shed_133 : decode cX9_shed 133 = .ok (.if_icmp .ge 10, 3) := by decide +kernel
theorem dX9_shed_136 : decode cX9_shed 136 = .ok (.aload_n 0, 1) := by decide +kernel
theorem dX9_shed_137 : decode cX9_shed 137 = .ok (.invokevirtual 294, 3) := by decide +kernel
theorem dX9_shed_140 : decode cX9_shed 140 = .ok (.goto 8, 3) := by decide +kernel
theorem dX9_shed_143 : decode cX9_shed 143 = .ok (.aload_n 0, 1) := by decide +kernel
theorem dX9_shed_144 : decode cX9_shed 144 = .ok (.iconst 2, 1) := by decide +kernel
theorem dX9_shed_145 : decode cX9_shed 145 = .ok (.invokevirtual 242, 3) := by decide +kernel
theorem dX9_shed_148 : decode cX9_shed 148 = .ok (.aload_n 0, 1) := by decide +kernel
theorem dX9_shed_149 : decode cX9_shed 149 = .ok (.getfield 192, 3) := by decide +kernel
theorem dX9_shed_152 : decode cX9_shed 152 = .ok (.ifCond .ne 17, 3) := by decide +kernel
theorem dX9_shed_155 : decode cX9_shed 155 = .ok (.aload_n 0, 1) := by decide +kernel
theorem dX9_shed_156 : decode cX9_shed 156 = .ok (.getfield 179, 3) := by decide +kernel
theorem dX9_shed_159 : decode cX9_shed 159 = .ok (.bipush 59, 2) := by decide +kernel
theorem dX9_shed_161 : decode cX9_shed 161 = .ok (.if_icmp .eq 8, 3) := by decide +kernel
theorem dX9_shed_164 : decode cX9_shed 164 = .ok (.aload_n 0, 1) := by decide +kernel
theorem dX9_shed_165 : decode cX9_shed 165 = .ok (.iconst 2, 1) := by decide +kernel
theorem dX9_shed_166 : decode cX9_shed 166 = .ok (.invokevirtual 242, 3) := by decide +kernel
theorem dX9_shed_169 : decode cX9_shed 169 = .ok (.aload_n 0, 1) := by decide +kernel
theorem dX9_shed_170 : decode cX9_shed 170 = .ok (.getfield 192, 3) := by decide +kernel
theorem dX9_shed_173 : decode cX9_shed 173 = .ok (.ifCond .ne 7, 3) := by decide +kernel
theorem dX9_shed_176 : decode cX9_shed 176 = .ok (.aload_n 0, 1) := by decide +kernel
theorem dX9_shed_177 : decode cX9_shed 177 = .ok (.invokevirtual 195, 3) := by decide +kernel
theorem dX9_shed_180 : decode cX9_shed 180 = .ok (.aload_n 0, 1) := by decide +kernel
theorem dX9_shed_181 : decode cX9_shed 181 = .ok (.dup, 1) := by decide +kernel
theorem dX9_shed_182 : decode cX9_shed 182 = .ok (.getfield 277, 3) := by decide +kernel
theorem dX9_shed_185 : decode cX9_shed 185 = .ok (.iconst 1, 1) := by decide +kernel
theorem dX9_shed_186 : decode cX9_shed 186 = .ok (.iadd, 1) := by decide +kernel
theorem dX9_shed_187 : decode cX9_shed 187 = .ok (.putfield 277, 3) := by decide +kernel
theorem dX9_shed_190 : decode cX9_shed 190 = .ok (.goto (-139), 3) := by decide +kernel
theorem dX9_shed_193 : decode cX9_shed 193 = .ok (.aload_n 0, 1) := by decide +kernel
theorem dX9_shed_194 : decode cX9_shed 194 = .ok (.getfield 192, 3) := by decide +kernel
theorem dX9_shed_197 : decode cX9_shed 197 = .ok (.ifCond .le 5, 3) := by decide +kernel
theorem dX9_shed_200 : decode cX9_shed 200 = .ok (.iconst (-1), 1) := by decide +kernel
theorem dX9_shed_201 : decode cX9_shed 201 = .ok (.ireturn, 1) := by decide +kernel
theorem dX9_shed_202 : decode cX9_shed 202 = .ok (.iconst 0, 1) := by decide +kernel
theorem dX9_shed_203 : decode cX9_shed 203 = .ok (.istore_n 1, 1) := by decide +kernel
theorem dX9_shed_204 : decode cX9_shed 204 = .ok (.iload_n 1, 1) := by decide +kernel
theorem dX9_shed_205 : decode cX9_shed 205 = .ok (.bipush 11, 2) := by decide +kernel
theorem dX9_shed_207 : decode cX9_shed 207 = .ok (.if_icmp .ge 21, 3) := by decide +kernel
theorem dX9_shed_210 : decode cX9_shed 210 = .ok (.aload_n 0, 1) := by decide +kernel
theorem dX9_shed_211 : decode cX9_shed 211 = .ok (.getfield 20, 3) := by decide +kernel
theorem dX9_shed_214 : decode cX9_shed 214 = .ok (.iload_n 1, 1) := by decide +kernel
theorem dX9_shed_215 : decode cX9_shed 215 = .ok (.aload_n 0, 1) := by decide +kernel
theorem dX9_shed_216 : decode cX9_shed 216 = .ok (.getfield 17, 3) := by decide +kernel
theorem dX9_shed_219 : decode cX9_shed 219 = .ok (.iload_n 1, 1) := by decide +kernel
theorem dX9_shed_220 : decode cX9_shed 220 = .ok (.iaload, 1) := by decide +kernel
theorem dX9_shed_221 : decode cX9_shed 221 = .ok (.iastore, 1) := by decide +kernel
theorem dX9_shed_222 : decode cX9_shed 222 = .ok (.iinc 1 1, 3) := by decide +kernel
theorem dX9_shed_225 : decode cX9_shed 225 = .ok (.goto (-21), 3) := by decide +kernel
theorem dX9_shed_228 : decode cX9_shed 228 = .ok (.iconst 0, 1) := by decide +kernel
theorem dX9_shed_229 : decode cX9_shed 229 = .ok (.istore_n 1, 1) := by decide +kernel
theorem dX9_shed_230 : decode cX9_shed 230 = .ok (.iload_n 1, 1) := by decide +kernel
theorem dX9_shed_231 : decode cX9_shed 231 = .ok (.bipush 8, 2) := by decide +kernel
theorem dX9_shed_233 : decode cX9_shed 233 = .ok (.if_icmp .ge 28, 3) := by decide +kernel
theorem dX9_shed_236 : decode cX9_shed 236 = .ok (.aload_n 0, 1) := by decide +kernel
theorem dX9_shed_237 : decode cX9_shed 237 = .ok (.getfield 26, 3) := by decide +kernel
theorem dX9_shed_240 : decode cX9_shed 240 = .ok (.iload_n 1, 1) := by decide +kernel
theorem dX9_shed_241 : decode cX9_shed 241 = .ok (.aload_n 0, 1) := by decide +kernel
theorem dX9_shed_242 : decode cX9_shed 242 = .ok (.getfield 23, 3) := by decide +kernel
theorem dX9_shed_245 : decode cX9_shed 245 = .ok (.iload_n 1, 1) := by decide +kernel
theorem dX9_shed_246 : decode cX9_shed 246 = .ok (.iaload, 1) := by decide +kernel
theorem dX9_shed_247 : decode cX9_shed 247 = .ok (.iastore, 1) := by decide +kernel
theorem dX9_shed_248 : decode cX9_shed 248 = .ok (.aload_n 0, 1) := by decide +kernel
theorem dX9_shed_249 : decode cX9_shed 249 = .ok (.getfield 136, 3) := by decide +kernel
theorem dX9_shed_252 : decode cX9_shed 252 = .ok (.iload_n 1, 1) := by decide +kernel
theorem dX9_shed_253 : decode cX9_shed 253 = .ok (.iconst 0, 1) := by decide +kernel
theorem dX9_shed_254 : decode cX9_shed 254 = .ok (.bastore, 1) := by decide +kernel
theorem dX9_shed_255 : decode cX9_shed 255 = .ok (.iinc 1 1, 3) := by decide +kernel
theorem dX9_shed_258 : decode cX9_shed 258 = .ok (.goto (-28), 3) := by decide +kernel
theorem dX9_shed_261 : decode cX9_shed 261 = .ok (.aload_n 0, 1) := by decide +kernel
theorem dX9_shed_262 : decode cX9_shed 262 = .ok (.aload_n 0, 1) := by decide +kernel
theorem dX9_shed_263 : decode cX9_shed 263 = .ok (.getfield 252, 3) := by decide +kernel
theorem dX9_shed_266 : decode cX9_shed 266 = .ok (.putfield 297, 3) := by decide +kernel
theorem dX9_shed_269 : decode cX9_shed 269 = .ok (.aload_n 0, 1) := by decide +kernel
theorem dX9_shed_270 : decode cX9_shed 270 = .ok (.aload_n 0, 1) := by decide +kernel
theorem dX9_shed_271 : decode cX9_shed 271 = .ok (.getfield 274, 3) := by decide +kernel
theorem dX9_shed_274 : decode cX9_shed 274 = .ok (.putfield 300, 3) := by decide +kernel
theorem dX9_shed_277 : decode cX9_shed 277 = .ok (.aload_n 0, 1) := by decide +kernel
theorem dX9_shed_278 : decode cX9_shed 278 = .ok (.getfield 277, 3) := by decide +kernel
theorem dX9_shed_281 : decode cX9_shed 281 = .ok (.ireturn, 1) := by decide +kernel
theorem dX9_fault_0 : decode cX9_fault 0 = .ok (.iload_n 1, 1) := by decide +kernel
theorem dX9_fault_1 : decode cX9_fault 1 = .ok (.ifCond .ne 10, 3) := by decide +kernel
theorem dX9_fault_4 : decode cX9_fault 4 = .ok (.aload_n 0, 1) := by decide +kernel
theorem dX9_fault_5 : decode cX9_fault 5 = .ok (.getfield 192, 3) := by decide +kernel
theorem dX9_fault_8 : decode cX9_fault 8 = .ok (.goto 16, 3) := by decide +kernel
theorem dX9_fault_11 : decode cX9_fault 11 = .ok (.iload_n 1, 1) := by decide +kernel
theorem dX9_fault_12 : decode cX9_fault 12 = .ok (.iconst 1, 1) := by decide +kernel
theorem dX9_fault_13 : decode cX9_fault 13 = .ok (.if_icmp .ne 10, 3) := by decide +kernel
theorem dX9_fault_16 : decode cX9_fault 16 = .ok (.aload_n 0, 1) := by decide +kernel
theorem dX9_fault_17 : decode cX9_fault 17 = .ok (.getfield 13, 3) := by decide +kernel
theorem dX9_fault_20 : decode cX9_fault 20 = .ok (.goto 4, 3) := by decide +kernel
theorem dX9_fault_23 : decode cX9_fault 23 = .ok (.iconst (-1), 1) := by decide +kernel
theorem dX9_fault_24 : decode cX9_fault 24 = .ok (.ireturn, 1) := by decide +kernel
theorem dX9_common_0 : decode cX9_common 0 = .ok (.lload_n 0, 1) := by decide +kernel
theorem dX9_common_1 : decode cX9_common 1 = .ok (.lconst 0, 1) := by decide +kernel
theorem dX9_common_2 : decode cX9_common 2 = .ok (.lcmp, 1) := by decide +kernel
theorem dX9_common_3 : decode cX9_common 3 = .ok (.ifCond .ge 8, 3) := by decide +kernel
theorem dX9_common_6 : decode cX9_common 6 = .ok (.lload_n 0, 1) := by decide +kernel
theorem dX9_common_7 : decode cX9_common 7 = .ok (.lneg, 1) := by decide +kernel
theorem dX9_common_8 : decode cX9_common 8 = .ok (.goto 4, 3) := by decide +kernel
theorem dX9_common_11 : decode cX9_common 11 = .ok (.lload_n 0, 1) := by decide +kernel
theorem dX9_common_12 : decode cX9_common 12 = .ok (.lstore 4, 2) := by decide +kernel
theorem dX9_common_14 : decode cX9_common 14 = .ok (.lload_n 2, 1) := by decide +kernel
theorem dX9_common_15 : decode cX9_common 15 = .ok (.lconst 0, 1) := by decide +kernel
theorem dX9_common_16 : decode cX9_common 16 = .ok (.lcmp, 1) := by decide +kernel
theorem dX9_common_17 : decode cX9_common 17 = .ok (.ifCond .ge 8, 3) := by decide +kernel
theorem dX9_common_20 : decode cX9_common 20 = .ok (.lload_n 2, 1) := by decide +kernel
theorem dX9_common_21 : decode cX9_common 21 = .ok (.lneg, 1) := by decide +kernel
theorem dX9_common_22 : decode cX9_common 22 = .ok (.goto 4, 3) := by decide +kernel
theorem dX9_common_25 : decode cX9_common 25 = .ok (.lload_n 2, 1) := by decide +kernel
theorem dX9_common_26 : decode cX9_common 26 = .ok (.lstore 6, 2) := by decide +kernel
theorem dX9_common_28 : decode cX9_common 28 = .ok (.lload 6, 2) := by decide +kernel
theorem dX9_common_30 : decode cX9_common 30 = .ok (.lconst 0, 1) := by decide +kernel
theorem dX9_common_31 : decode cX9_common 31 = .ok (.lcmp, 1) := by decide +kernel
theorem dX9_common_32 : decode cX9_common 32 = .ok (.ifCond .le 21, 3) := by decide +kernel
theorem dX9_common_35 : decode cX9_common 35 = .ok (.lload 4, 2) := by decide +kernel
theorem dX9_common_37 : decode cX9_common 37 = .ok (.lload 6, 2) := by decide +kernel
theorem dX9_common_39 : decode cX9_common 39 = .ok (.lrem, 1) := by decide +kernel
theorem dX9_common_40 : decode cX9_common 40 = .ok (.lstore 8, 2) := by decide +kernel
theorem dX9_common_42 : decode cX9_common 42 = .ok (.lload 6, 2) := by decide +kernel
theorem dX9_common_44 : decode cX9_common 44 = .ok (.lstore 4, 2) := by decide +kernel
theorem dX9_common_46 : decode cX9_common 46 = .ok (.lload 8, 2) := by decide +kernel
theorem dX9_common_48 : decode cX9_common 48 = .ok (.lstore 6, 2) := by decide +kernel
theorem dX9_common_50 : decode cX9_common 50 = .ok (.goto (-22), 3) := by decide +kernel
theorem dX9_common_53 : decode cX9_common 53 = .ok (.lload 4, 2) := by decide +kernel
theorem dX9_common_55 : decode cX9_common 55 = .ok (.lreturn, 1) := by decide +kernel
theorem dX9_down_0 : decode cX9_down 0 = .ok (.lload_n 0, 1) := by decide +kernel
theorem dX9_down_1 : decode cX9_down 1 = .ok (.lload_n 2, 1) := by decide +kernel
theorem dX9_down_2 : decode cX9_down 2 = .ok (.ldiv, 1) := by decide +kernel
theorem dX9_down_3 : decode cX9_down 3 = .ok (.lstore 4, 2) := by decide +kernel
theorem dX9_down_5 : decode cX9_down 5 = .ok (.lload_n 0, 1) := by decide +kernel
theorem dX9_down_6 : decode cX9_down 6 = .ok (.lload_n 2, 1) := by decide +kernel
theorem dX9_down_7 : decode cX9_down 7 = .ok (.lrem, 1) := by decide +kernel
theorem dX9_down_8 : decode cX9_down 8 = .ok (.lconst 0, 1) := by decide +kernel
theorem dX9_down_9 : decode cX9_down 9 = .ok (.lcmp, 1) := by decide +kernel
theorem dX9_down_10 : decode cX9_down 10 = .ok (.ifCond .ge 10, 3) := by decide +kernel
theorem dX9_down_13 : decode cX9_down 13 = .ok (.lload 4, 2) := by decide +kernel
theorem dX9_down_15 : decode cX9_down 15 = .ok (.lconst 1, 1) := by decide +kernel
theorem dX9_down_16 : decode cX9_down 16 = .ok (.lsub, 1) := by decide +kernel
theorem dX9_down_17 : decode cX9_down 17 = .ok (.goto 5, 3) := by decide +kernel
theorem dX9_down_20 : decode cX9_down 20 = .ok (.lload 4, 2) := by decide +kernel
theorem dX9_down_22 : decode cX9_down 22 = .ok (.lreturn, 1) := by decide +kernel
theorem dX9_found_0 : decode cX9_found 0 = .ok (.lload_n 1, 1) := by decide +kernel
theorem dX9_found_1 : decode cX9_found 1 = .ok (.lload_n 3, 1) := by decide +kernel
theorem dX9_found_2 : decode cX9_found 2 = .ok (.invokestatic 303, 3) := by decide +kernel
theorem dX9_found_5 : decode cX9_found 5 = .ok (.lstore 5, 2) := by decide +kernel
theorem dX9_found_7 : decode cX9_found 7 = .ok (.aload_n 0, 1) := by decide +kernel
theorem dX9_found_8 : decode cX9_found 8 = .ok (.lload_n 3, 1) := by decide +kernel
theorem dX9_found_9 : decode cX9_found 9 = .ok (.lconst 0, 1) := by decide +kernel
theorem dX9_found_10 : decode cX9_found 10 = .ok (.lcmp, 1) := by decide +kernel
theorem dX9_found_11 : decode cX9_found 11 = .ok (.ifCond .ge 11, 3) := by decide +kernel
theorem dX9_found_14 : decode cX9_found 14 = .ok (.lload_n 1, 1) := by decide +kernel
theorem dX9_found_15 : decode cX9_found 15 = .ok (.lneg, 1) := by decide +kernel
theorem dX9_found_16 : decode cX9_found 16 = .ok (.lload 5, 2) := by decide +kernel
theorem dX9_found_18 : decode cX9_found 18 = .ok (.ldiv, 1) := by decide +kernel
theorem dX9_found_19 : decode cX9_found 19 = .ok (.goto 7, 3) := by decide +kernel
theorem dX9_found_22 : decode cX9_found 22 = .ok (.lload_n 1, 1) := by decide +kernel
theorem dX9_found_23 : decode cX9_found 23 = .ok (.lload 5, 2) := by decide +kernel
theorem dX9_found_25 : decode cX9_found 25 = .ok (.ldiv, 1) := by decide +kernel
theorem dX9_found_26 : decode cX9_found 26 = .ok (.putfield 307, 3) := by decide +kernel
theorem dX9_found_29 : decode cX9_found 29 = .ok (.aload_n 0, 1) := by decide +kernel
theorem dX9_found_30 : decode cX9_found 30 = .ok (.lload_n 3, 1) := by decide +kernel
theorem dX9_found_31 : decode cX9_found 31 = .ok (.lconst 0, 1) := by decide +kernel
theorem dX9_found_32 : decode cX9_found 32 = .ok (.lcmp, 1) := by decide +kernel
theorem dX9_found_33 : decode cX9_found 33 = .ok (.ifCond .ge 11, 3) := by decide +kernel
theorem dX9_found_36 : decode cX9_found 36 = .ok (.lload_n 3, 1) := by decide +kernel
theorem dX9_found_37 : decode cX9_found 37 = .ok (.lneg, 1) := by decide +kernel
theorem dX9_found_38 : decode cX9_found 38 = .ok (.lload 5, 2) := by decide +kernel
theorem dX9_found_40 : decode cX9_found 40 = .ok (.ldiv, 1) := by decide +kernel
theorem dX9_found_41 : decode cX9_found 41 = .ok (.goto 7, 3) := by decide +kernel
theorem dX9_found_44 : decode cX9_found 44 = .ok (.lload_n 3, 1) := by decide +kernel
theorem dX9_found_45 : decode cX9_found 45 = .ok (.lload 5, 2) := by decide +kernel
theorem dX9_found_47 : decode cX9_found 47 = .ok (.ldiv, 1) := by decide +kernel
theorem dX9_found_48 : decode cX9_found 48 = .ok (.putfield 310, 3) := by decide +kernel
theorem dX9_found_51 : decode cX9_found 51 = .ok (.return_, 1) := by decide +kernel
theorem dX9_part_0 : decode cX9_part 0 = .ok (.iload_n 1, 1) := by decide +kernel
theorem dX9_part_1 : decode cX9_part 1 = .ok (.ifCond .ne 10, 3) := by decide +kernel
theorem dX9_part_4 : decode cX9_part 4 = .ok (.aload_n 0, 1) := by decide +kernel
theorem dX9_part_5 : decode cX9_part 5 = .ok (.getfield 307, 3) := by decide +kernel
theorem dX9_part_8 : decode cX9_part 8 = .ok (.goto 7, 3) := by decide +kernel
theorem dX9_part_11 : decode cX9_part 11 = .ok (.aload_n 0, 1) := by decide +kernel
theorem dX9_part_12 : decode cX9_part 12 = .ok (.getfield 310, 3) := by decide +kernel
theorem dX9_part_15 : decode cX9_part 15 = .ok (.lreturn, 1) := by decide +kernel
theorem dX9_isPart_0 : decode cX9_isPart 0 = .ok (.iload_n 0, 1) := by decide +kernel
theorem dX9_isPart_1 : decode cX9_isPart 1 = .ok (.ifCond .eq 8, 3) := by decide +kernel
theorem dX9_isPart_4 : decode cX9_isPart 4 = .ok (.iload_n 0, 1) := by decide +kernel
theorem dX9_isPart_5 : decode cX9_isPart 5 = .ok (.iconst 1, 1) := by decide +kernel
theorem dX9_isPart_6 : decode cX9_isPart 6 = .ok (.if_icmp .ne 7, 3) := by decide +kernel
theorem dX9_isPart_9 : decode cX9_isPart 9 = .ok (.iconst 1, 1) := by decide +kernel
theorem dX9_isPart_10 : decode cX9_isPart 10 = .ok (.goto 4, 3) := by decide +kernel
theorem dX9_isPart_13 : decode cX9_isPart 13 = .ok (.iconst 0, 1) := by decide +kernel
theorem dX9_isPart_14 : decode cX9_isPart 14 = .ok (.ireturn, 1) := by decide +kernel
theorem dX9_isSide_0 : decode cX9_isSide 0 = .ok (.iload_n 0, 1) := by decide +kernel
theorem dX9_isSide_1 : decode cX9_isSide 1 = .ok (.iconst (-1), 1) := by decide +kernel
theorem dX9_isSide_2 : decode cX9_isSide 2 = .ok (.if_icmp .lt 12, 3) := by decide +kernel
theorem dX9_isSide_5 : decode cX9_isSide 5 = .ok (.iload_n 0, 1) := by decide +kernel
theorem dX9_isSide_6 : decode cX9_isSide 6 = .ok (.iconst 1, 1) := by decide +kernel
theorem dX9_isSide_7 : decode cX9_isSide 7 = .ok (.if_icmp .gt 7, 3) := by decide +kernel
theorem dX9_isSide_10 : decode cX9_isSide 10 = .ok (.iconst 1, 1) := by decide +kernel
theorem dX9_isSide_11 : decode cX9_isSide 11 = .ok (.goto 4, 3) := by decide +kernel
theorem dX9_isSide_14 : decode cX9_isSide 14 = .ok (.iconst 0, 1) := by decide +kernel
theorem dX9_isSide_15 : decode cX9_isSide 15 = .ok (.ireturn, 1) := by decide +kernel
theorem dX9_seekPull_0 : decode cX9_seekPull 0 = .ok (.aload_n 0, 1) := by decide +kernel
theorem dX9_seekPull_1 : decode cX9_seekPull 1 = .ok (.getfield 20, 3) := by decide +kernel
theorem dX9_seekPull_4 : decode cX9_seekPull 4 = .ok (.iconst 1, 1) := by decide +kernel
theorem dX9_seekPull_5 : decode cX9_seekPull 5 = .ok (.iaload, 1) := by decide +kernel
theorem dX9_seekPull_6 : decode cX9_seekPull 6 = .ok (.i2l, 1) := by decide +kernel
theorem dX9_seekPull_7 : decode cX9_seekPull 7 = .ok (.aload_n 0, 1) := by decide +kernel
theorem dX9_seekPull_8 : decode cX9_seekPull 8 = .ok (.getfield 20, 3) := by decide +kernel
theorem dX9_seekPull_11 : decode cX9_seekPull 11 = .ok (.iconst 1, 1) := by decide +kernel
theorem dX9_seekPull_12 : decode cX9_seekPull 12 = .ok (.iaload, 1) := by decide +kernel
theorem dX9_seekPull_13 : decode cX9_seekPull 13 = .ok (.i2l, 1) := by decide +kernel
theorem dX9_seekPull_14 : decode cX9_seekPull 14 = .ok (.lmul, 1) := by decide +kernel
theorem dX9_seekPull_15 : decode cX9_seekPull 15 = .ok (.lstore_n 1, 1) := by decide +kernel
theorem dX9_seekPull_16 : decode cX9_seekPull 16 = .ok (.aload_n 0, 1) := by decide +kernel
theorem dX9_seekPull_17 : decode cX9_seekPull 17 = .ok (.getfield 20, 3) := by decide +kernel
theorem dX9_seekPull_20 : decode cX9_seekPull 20 = .ok (.iconst 2, 1) := by decide +kernel
theorem dX9_seekPull_21 : decode cX9_seekPull 21 = .ok (.iaload, 1) := by decide +kernel
theorem dX9_seekPull_22 : decode cX9_seekPull 22 = .ok (.i2l, 1) := by decide +kernel
theorem dX9_seekPull_23 : decode cX9_seekPull 23 = .ok (.aload_n 0, 1) := by decide +kernel
theorem dX9_seekPull_24 : decode cX9_seekPull 24 = .ok (.getfield 20, 3) := by decide +kernel
theorem dX9_seekPull_27 : decode cX9_seekPull 27 = .ok (.iconst 2, 1) := by decide +kernel
theorem dX9_seekPull_28 : decode cX9_seekPull 28 = .ok (.iaload, 1) := by decide +kernel
theorem dX9_seekPull_29 : decode cX9_seekPull 29 = .ok (.i2l, 1) := by decide +kernel
theorem dX9_seekPull_30 : decode cX9_seekPull 30 = .ok (.lmul, 1) := by decide +kernel
theorem dX9_seekPull_31 : decode cX9_seekPull 31 = .ok (.lstore_n 3, 1) := by decide +kernel
theorem dX9_seekPull_32 : decode cX9_seekPull 32 = .ok (.aload_n 0, 1) := by decide +kernel
theorem dX9_seekPull_33 : decode cX9_seekPull 33 = .ok (.aload_n 0, 1) := by decide +kernel
theorem dX9_seekPull_34 : decode cX9_seekPull 34 = .ok (.getfield 20, 3) := by decide +kernel
theorem dX9_seekPull_37 : decode cX9_seekPull 37 = .ok (.iconst 4, 1) := by decide +kernel
theorem dX9_seekPull_38 : decode cX9_seekPull 38 = .ok (.iaload, 1) := by decide +kernel
theorem dX9_seekPull_39 : decode cX9_seekPull 39 = .ok (.i2l, 1) := by decide +kernel
theorem dX9_seekPull_40 : decode cX9_seekPull 40 = .ok (.aload_n 0, 1) := by decide +kernel
theorem dX9_seekPull_41 : decode cX9_seekPull 41 = .ok (.getfield 20, 3) := by decide +kernel
theorem dX9_seekPull_44 : decode cX9_seekPull 44 = .ok (.iconst 0, 1) := by decide +kernel
theorem dX9_seekPull_45 : decode cX9_seekPull 45 = .ok (.iaload, 1) := by decide +kernel
theorem dX9_seekPull_46 : decode cX9_seekPull 46 = .ok (.i2l, 1) := by decide +kernel
theorem dX9_seekPull_47 : decode cX9_seekPull 47 = .ok (.lmul, 1) := by decide +kernel
theorem dX9_seekPull_48 : decode cX9_seekPull 48 = .ok (.sipush 1000, 3) := by decide +kernel
theorem dX9_seekPull_51 : decode cX9_seekPull 51 = .ok (.aload_n 0, 1) := by decide +kernel
theorem dX9_seekPull_52 : decode cX9_seekPull 52 = .ok (.getfield 20, 3) := by decide +kernel
theorem dX9_seekPull_55 : decode cX9_seekPull 55 = .ok (.iconst 3, 1) := by decide +kernel
theorem dX9_seekPull_56 : decode cX9_seekPull 56 = .ok (.iaload, 1) := by decide +kernel
theorem dX9_seekPull_57 : decode cX9_seekPull 57 = .ok (.iadd, 1) := by decide +kernel
theorem dX9_seekPull_58 : decode cX9_seekPull 58 = .ok (.i2l, 1) := by decide +kernel
theorem dX9_seekPull_59 : decode cX9_seekPull 59 = .ok (.lmul, 1) := by decide +kernel
theorem dX9_seekPull_60 : decode cX9_seekPull 60 = .ok (.lload_n 3, 1) := by decide +kernel
theorem dX9_seekPull_61 : decode cX9_seekPull 61 = .ok (.lload_n 1, 1) := by decide +kernel
theorem dX9_seekPull_62 : decode cX9_seekPull 62 = .ok (.lsub, 1) := by decide +kernel
theorem dX9_seekPull_63 : decode cX9_seekPull 63 = .ok (.lmul, 1) := by decide +kernel
theorem dX9_seekPull_64 : decode cX9_seekPull 64 = .ok (.ldc2_w 313, 3) := by decide +kernel
theorem dX9_seekPull_67 : decode cX9_seekPull 67 = .ok (.lload_n 1, 1) := by decide +kernel
theorem dX9_seekPull_68 : decode cX9_seekPull 68 = .ok (.lmul, 1) := by decide +kernel
theorem dX9_seekPull_69 : decode cX9_seekPull 69 = .ok (.lload_n 3, 1) := by decide +kernel
theorem dX9_seekPull_70 : decode cX9_seekPull 70 = .ok (.lmul, 1) := by decide +kernel
theorem dX9_seekPull_71 : decode cX9_seekPull 71 = .ok (.invokevirtual 315, 3) := by decide +kernel
theorem dX9_seekPull_74 : decode cX9_seekPull 74 = .ok (.return_, 1) := by decide +kernel
theorem dX9_seekRest_0 : decode cX9_seekRest 0 = .ok (.aload_n 0, 1) := by decide +kernel
theorem dX9_seekRest_1 : decode cX9_seekRest 1 = .ok (.invokevirtual 319, 3) := by decide +kernel
theorem dX9_seekRest_4 : decode cX9_seekRest 4 = .ok (.aload_n 0, 1) := by decide +kernel
theorem dX9_seekRest_5 : decode cX9_seekRest 5 = .ok (.getfield 20, 3) := by decide +kernel
theorem dX9_seekRest_8 : decode cX9_seekRest 8 = .ok (.bipush 7, 2) := by decide +kernel
theorem dX9_seekRest_10 : decode cX9_seekRest 10 = .ok (.iaload, 1) := by decide +kernel
theorem dX9_seekRest_11 : decode cX9_seekRest 11 = .ok (.i2l, 1) := by decide +kernel
theorem dX9_seekRest_12 : decode cX9_seekRest 12 = .ok (.aload_n 0, 1) := by decide +kernel
theorem dX9_seekRest_13 : decode cX9_seekRest 13 = .ok (.getfield 20, 3) := by decide +kernel
theorem dX9_seekRest_16 : decode cX9_seekRest 16 = .ok (.bipush 10, 2) := by decide +kernel
theorem dX9_seekRest_18 : decode cX9_seekRest 18 = .ok (.iaload, 1) := by decide +kernel
theorem dX9_seekRest_19 : decode cX9_seekRest 19 = .ok (.i2l, 1) := by decide +kernel
theorem dX9_seekRest_20 : decode cX9_seekRest 20 = .ok (.iload_n 1, 1) := by decide +kernel
theorem dX9_seekRest_21 : decode cX9_seekRest 21 = .ok (.i2l, 1) := by decide +kernel
theorem dX9_seekRest_22 : decode cX9_seekRest 22 = .ok (.lmul, 1) := by decide +kernel
theorem dX9_seekRest_23 : decode cX9_seekRest 23 = .ok (.iload_n 1, 1) := by decide +kernel
theorem dX9_seekRest_24 : decode cX9_seekRest 24 = .ok (.i2l, 1) := by decide +kernel
theorem dX9_seekRest_25 : decode cX9_seekRest 25 = .ok (.lmul, 1) := by decide +kernel
theorem dX9_seekRest_26 : decode cX9_seekRest 26 = .ok (.ladd, 1) := by decide +kernel
theorem dX9_seekRest_27 : decode cX9_seekRest 27 = .ok (.aload_n 0, 1) := by decide +kernel
theorem dX9_seekRest_28 : decode cX9_seekRest 28 = .ok (.getfield 20, 3) := by decide +kernel
theorem dX9_seekRest_31 : decode cX9_seekRest 31 = .ok (.bipush 9, 2) := by decide +kernel
theorem dX9_seekRest_33 : decode cX9_seekRest 33 = .ok (.iaload, 1) := by decide +kernel
theorem dX9_seekRest_34 : decode cX9_seekRest 34 = .ok (.i2l, 1) := by decide +kernel
theorem dX9_seekRest_35 : decode cX9_seekRest 35 = .ok (.iload_n 1, 1) := by decide +kernel
theorem dX9_seekRest_36 : decode cX9_seekRest 36 = .ok (.i2l, 1) := by decide +kernel
theorem dX9_seekRest_37 : decode cX9_seekRest 37 = .ok (.lmul, 1) := by decide +kernel
theorem dX9_seekRest_38 : decode cX9_seekRest 38 = .ok (.ladd, 1) := by decide +kernel
theorem dX9_seekRest_39 : decode cX9_seekRest 39 = .ok (.lstore_n 3, 1) := by decide +kernel
theorem dX9_seekRest_40 : decode cX9_seekRest 40 = .ok (.aload_n 0, 1) := by decide +kernel
theorem dX9_seekRest_41 : decode cX9_seekRest 41 = .ok (.getfield 20, 3) := by decide +kernel
theorem dX9_seekRest_44 : decode cX9_seekRest 44 = .ok (.bipush 8, 2) := by decide +kernel
theorem dX9_seekRest_46 : decode cX9_seekRest 46 = .ok (.iaload, 1) := by decide +kernel
theorem dX9_seekRest_47 : decode cX9_seekRest 47 = .ok (.i2l, 1) := by decide +kernel
theorem dX9_seekRest_48 : decode cX9_seekRest 48 = .ok (.iload_n 2, 1) := by decide +kernel
theorem dX9_seekRest_49 : decode cX9_seekRest 49 = .ok (.i2l, 1) := by decide +kernel
theorem dX9_seekRest_50 : decode cX9_seekRest 50 = .ok (.lmul, 1) := by decide +kernel
theorem dX9_seekRest_51 : decode cX9_seekRest 51 = .ok (.lstore 5, 2) := by decide +kernel
theorem dX9_seekRest_53 : decode cX9_seekRest 53 = .ok (.aload_n 0, 1) := by decide +kernel
theorem dX9_seekRest_54 : decode cX9_seekRest 54 = .ok (.lload_n 3, 1) := by decide +kernel
theorem dX9_seekRest_55 : decode cX9_seekRest 55 = .ok (.ldc2_w 322, 3) := by decide +kernel
theorem dX9_seekRest_58 : decode cX9_seekRest 58 = .ok (.lmul, 1) := by decide +kernel
theorem dX9_seekRest_59 : decode cX9_seekRest 59 = .ok (.lload 5, 2) := by decide +kernel
theorem dX9_seekRest_61 : decode cX9_seekRest 61 = .ok (.ladd, 1) := by decide +kernel
theorem dX9_seekRest_62 : decode cX9_seekRest 62 = .ok (.aload_n 0, 1) := by decide +kernel
theorem dX9_seekRest_63 : decode cX9_seekRest 63 = .ok (.getfield 310, 3) := by decide +kernel
theorem dX9_seekRest_66 : decode cX9_seekRest 66 = .ok (.lmul, 1) := by decide +kernel
theorem dX9_seekRest_67 : decode cX9_seekRest 67 = .ok (.ldc2_w 322, 3) := by decide +kernel
theorem dX9_seekRest_70 : decode cX9_seekRest 70 = .ok (.iload_n 1, 1) := by decide +kernel
theorem dX9_seekRest_71 : decode cX9_seekRest 71 = .ok (.i2l, 1) := by decide +kernel
theorem dX9_seekRest_72 : decode cX9_seekRest 72 = .ok (.lmul, 1) := by decide +kernel
theorem dX9_seekRest_73 : decode cX9_seekRest 73 = .ok (.aload_n 0, 1) := by decide +kernel
theorem dX9_seekRest_74 : decode cX9_seekRest 74 = .ok (.getfield 307, 3) := by decide +kernel
theorem dX9_seekRest_77 : decode cX9_seekRest 77 = .ok (.lmul, 1) := by decide +kernel
theorem dX9_seekRest_78 : decode cX9_seekRest 78 = .ok (.ladd, 1) := by decide +kernel
theorem dX9_seekRest_79 : decode cX9_seekRest 79 = .ok (.ldc2_w 322, 3) := by decide +kernel
theorem dX9_seekRest_82 : decode cX9_seekRest 82 = .ok (.aload_n 0, 1) := by decide +kernel
theorem dX9_seekRest_83 : decode cX9_seekRest 83 = .ok (.getfield 310, 3) := by decide +kernel
theorem dX9_seekRest_86 : decode cX9_seekRest 86 = .ok (.lmul, 1) := by decide +kernel
theorem dX9_seekRest_87 : decode cX9_seekRest 87 = .ok (.invokevirtual 315, 3) := by decide +kernel
theorem dX9_seekRest_90 : decode cX9_seekRest 90 = .ok (.return_, 1) := by decide +kernel
theorem dX9_rest_0 : decode cX9_rest 0 = .ok (.iload_n 1, 1) := by decide +kernel
theorem dX9_rest_1 : decode cX9_rest 1 = .ok (.invokestatic 324, 3) := by decide +kernel
theorem dX9_rest_4 : decode cX9_rest 4 = .ok (.ifCond .eq 21, 3) := by decide +kernel
theorem dX9_rest_7 : decode cX9_rest 7 = .ok (.iload_n 2, 1) := by decide +kernel
theorem dX9_rest_8 : decode cX9_rest 8 = .ok (.ifCond .lt 17, 3) := by decide +kernel
theorem dX9_rest_11 : decode cX9_rest 11 = .ok (.iload_n 2, 1) := by decide +kernel
theorem dX9_rest_12 : decode cX9_rest 12 = .ok (.sipush 999, 3) := by decide +kernel
theorem dX9_rest_15 : decode cX9_rest 15 = .ok (.if_icmp .gt 10, 3) := by decide +kernel
theorem dX9_rest_18 : decode cX9_rest 18 = .ok (.iload_n 3, 1) := by decide +kernel
theorem dX9_rest_19 : decode cX9_rest 19 = .ok (.invokestatic 327, 3) := by decide +kernel
theorem dX9_rest_22 : decode cX9_rest 22 = .ok (.ifCond .ne 7, 3) := by decide +kernel
theorem dX9_rest_25 : decode cX9_rest 25 = .ok (.ldc2_w 330, 3) := by decide +kernel
theorem dX9_rest_28 : decode cX9_rest 28 = .ok (.lreturn, 1) := by decide +kernel
theorem dX9_rest_29 : decode cX9_rest 29 = .ok (.aload_n 0, 1) := by decide +kernel
theorem dX9_rest_30 : decode cX9_rest 30 = .ok (.iload_n 1, 1) := by decide +kernel
theorem dX9_rest_31 : decode cX9_rest 31 = .ok (.iload_n 2, 1) := by decide +kernel
theorem dX9_rest_32 : decode cX9_rest 32 = .ok (.invokevirtual 332, 3) := by decide +kernel
theorem dX9_rest_35 : decode cX9_rest 35 = .ok (.aload_n 0, 1) := by decide +kernel
theorem dX9_rest_36 : decode cX9_rest 36 = .ok (.iload_n 3, 1) := by decide +kernel
theorem dX9_rest_37 : decode cX9_rest 37 = .ok (.invokevirtual 336, 3) := by decide +kernel
theorem dX9_rest_40 : decode cX9_rest 40 = .ok (.lreturn, 1) := by decide +kernel
theorem dX9_turning_0 : decode cX9_turning 0 = .ok (.iload_n 1, 1) := by decide +kernel
theorem dX9_turning_1 : decode cX9_turning 1 = .ok (.invokestatic 324, 3) := by decide +kernel
theorem dX9_turning_4 : decode cX9_turning 4 = .ok (.ifCond .eq 40, 3) := by decide +kernel
theorem dX9_turning_7 : decode cX9_turning 7 = .ok (.iload_n 2, 1) := by decide +kernel
theorem dX9_turning_8 : decode cX9_turning 8 = .ok (.ifCond .lt 36, 3) := by decide +kernel
theorem dX9_turning_11 : decode cX9_turning 11 = .ok (.iload_n 2, 1) := by decide +kernel
theorem dX9_turning_12 : decode cX9_turning 12 = .ok (.sipush 999, 3) := by decide +kernel
theorem dX9_turning_15 : decode cX9_turning 15 = .ok (.if_icmp .gt 29, 3) := by decide +kernel
theorem dX9_turning_18 : decode cX9_turning 18 = .ok (.iload_n 3, 1) := by decide +kernel
theorem dX9_turning_19 : decode cX9_turning 19 = .ok (.sipush (-9999), 3) := by decide +kernel
theorem dX9_turning_22 : decode cX9_turning 22 = .ok (.if_icmp .lt 22, 3) := by decide +kernel
theorem dX9_turning_25 : decode cX9_turning 25 = .ok (.iload_n 3, 1) := by decide +kernel
theorem dX9_turning_26 : decode cX9_turning 26 = .ok (.sipush 9999, 3) := by decide +kernel
theorem dX9_turning_29 : decode cX9_turning 29 = .ok (.if_icmp .gt 15, 3) := by decide +kernel
theorem dX9_turning_32 : decode cX9_turning 32 = .ok (.iload 4, 2) := by decide +kernel
theorem dX9_turning_34 : decode cX9_turning 34 = .ok (.ifCond .lt 10, 3) := by decide +kernel
theorem dX9_turning_37 : decode cX9_turning 37 = .ok (.iload 4, 2) := by decide +kernel
theorem dX9_turning_39 : decode cX9_turning 39 = .ok (.bipush 19, 2) := by decide +kernel
theorem dX9_turning_41 : decode cX9_turning 41 = .ok (.if_icmp .le 7, 3) := by decide +kernel
theorem dX9_turning_44 : decode cX9_turning 44 = .ok (.ldc2_w 330, 3) := by decide +kernel
theorem dX9_turning_47 : decode cX9_turning 47 = .ok (.lreturn, 1) := by decide +kernel
theorem dX9_turning_48 : decode cX9_turning 48 = .ok (.aload_n 0, 1) := by decide +kernel
theorem dX9_turning_49 : decode cX9_turning 49 = .ok (.iload_n 1, 1) := by decide +kernel
theorem dX9_turning_50 : decode cX9_turning 50 = .ok (.iload_n 2, 1) := by decide +kernel
theorem dX9_turning_51 : decode cX9_turning 51 = .ok (.invokevirtual 332, 3) := by decide +kernel
theorem dX9_turning_54 : decode cX9_turning 54 = .ok (.aload_n 0, 1) := by decide +kernel
theorem dX9_turning_55 : decode cX9_turning 55 = .ok (.getfield 307, 3) := by decide +kernel
theorem dX9_turning_58 : decode cX9_turning 58 = .ok (.ldc2_w 313, 3) := by decide +kernel
theorem dX9_turning_61 : decode cX9_turning 61 = .ok (.lmul, 1) := by decide +kernel
theorem dX9_turning_62 : decode cX9_turning 62 = .ok (.aload_n 0, 1) := by decide +kernel
theorem dX9_turning_63 : decode cX9_turning 63 = .ok (.getfield 310, 3) := by decide +kernel
theorem dX9_turning_66 : decode cX9_turning 66 = .ok (.invokestatic 340, 3) := by decide +kernel
theorem dX9_turning_69 : decode cX9_turning 69 = .ok (.lstore 5, 2) := by decide +kernel
theorem dX9_turning_71 : decode cX9_turning 71 = .ok (.iload_n 3, 1) := by decide +kernel
theorem dX9_turning_72 : decode cX9_turning 72 = .ok (.i2l, 1) := by decide +kernel
theorem dX9_turning_73 : decode cX9_turning 73 = .ok (.ldc2_w 313, 3) := by decide +kernel
theorem dX9_turning_76 : decode cX9_turning 76 = .ok (.lmul, 1) := by decide +kernel
theorem dX9_turning_77 : decode cX9_turning 77 = .ok (.lstore 7, 2) := by decide +kernel
theorem dX9_turning_79 : decode cX9_turning 79 = .ok (.iconst 0, 1) := by decide +kernel
theorem dX9_turning_80 : decode cX9_turning 80 = .ok (.istore 9, 2) := by decide +kernel
theorem dX9_turning_82 : decode cX9_turning 82 = .ok (.iload 9, 2) := by decide +kernel
theorem dX9_turning_84 : decode cX9_turning 84 = .ok (.iload 4, 2) := by decide +kernel
theorem dX9_turning_86 : decode cX9_turning 86 = .ok (.if_icmp .ge 37, 3) := by decide +kernel
theorem dX9_turning_89 : decode cX9_turning 89 = .ok (.ldc2_w 343, 3) := by decide +kernel
theorem dX9_turning_92 : decode cX9_turning 92 = .ok (.lload 5, 2) := by decide +kernel
theorem dX9_turning_94 : decode cX9_turning 94 = .ok (.lmul, 1) := by decide +kernel
theorem dX9_turning_95 : decode cX9_turning 95 = .ok (.lload 7, 2) := by decide +kernel
theorem dX9_turning_97 : decode cX9_turning 97 = .ok (.lload 5, 2) := by decide +kernel
theorem dX9_turning_99 : decode cX9_turning 99 = .ok (.lsub, 1) := by decide +kernel
theorem dX9_turning_100 : decode cX9_turning 100 = .ok (.aload_n 0, 1) := by decide +kernel
theorem dX9_turning_101 : decode cX9_turning 101 = .ok (.getfield 20, 3) := by decide +kernel
theorem dX9_turning_104 : decode cX9_turning 104 = .ok (.iconst 5, 1) := by decide +kernel
theorem dX9_turning_105 : decode cX9_turning 105 = .ok (.iaload, 1) := by decide +kernel
theorem dX9_turning_106 : decode cX9_turning 106 = .ok (.i2l, 1) := by decide +kernel
theorem dX9_turning_107 : decode cX9_turning 107 = .ok (.lmul, 1) := by decide +kernel
theorem dX9_turning_108 : decode cX9_turning 108 = .ok (.lsub, 1) := by decide +kernel
theorem dX9_turning_109 : decode cX9_turning 109 = .ok (.ldc2_w 343, 3) := by decide +kernel
theorem dX9_turning_112 : decode cX9_turning 112 = .ok (.invokestatic 340, 3) := by decide +kernel
theorem dX9_turning_115 : decode cX9_turning 115 = .ok (.lstore 7, 2) := by decide +kernel
theorem dX9_turning_117 : decode cX9_turning 117 = .ok (.iinc 9 1, 3) := by decide +kernel
theorem dX9_turning_120 : decode cX9_turning 120 = .ok (.goto (-38), 3) := by decide +kernel
theorem dX9_turning_123 : decode cX9_turning 123 = .ok (.lload 7, 2) := by decide +kernel
theorem dX9_turning_125 : decode cX9_turning 125 = .ok (.ldc2_w 313, 3) := by decide +kernel
theorem dX9_turning_128 : decode cX9_turning 128 = .ok (.aload_n 0, 1) := by decide +kernel
theorem dX9_turning_129 : decode cX9_turning 129 = .ok (.getfield 20, 3) := by decide +kernel
theorem dX9_turning_132 : decode cX9_turning 132 = .ok (.bipush 6, 2) := by decide +kernel
theorem dX9_turning_134 : decode cX9_turning 134 = .ok (.iaload, 1) := by decide +kernel
theorem dX9_turning_135 : decode cX9_turning 135 = .ok (.i2l, 1) := by decide +kernel
theorem dX9_turning_136 : decode cX9_turning 136 = .ok (.lmul, 1) := by decide +kernel
theorem dX9_turning_137 : decode cX9_turning 137 = .ok (.invokestatic 340, 3) := by decide +kernel
theorem dX9_turning_140 : decode cX9_turning 140 = .ok (.aload_n 0, 1) := by decide +kernel
theorem dX9_turning_141 : decode cX9_turning 141 = .ok (.getfield 20, 3) := by decide +kernel
theorem dX9_turning_144 : decode cX9_turning 144 = .ok (.bipush 6, 2) := by decide +kernel
theorem dX9_turning_146 : decode cX9_turning 146 = .ok (.iaload, 1) := by decide +kernel
theorem dX9_turning_147 : decode cX9_turning 147 = .ok (.i2l, 1) := by decide +kernel
theorem dX9_turning_148 : decode cX9_turning 148 = .ok (.lmul, 1) := by decide +kernel
theorem dX9_turning_149 : decode cX9_turning 149 = .ok (.lreturn, 1) := by decide +kernel
theorem dX9_had_0 : decode cX9_had 0 = .ok (.iload_n 1, 1) := by decide +kernel
theorem dX9_had_1 : decode cX9_had 1 = .ok (.sipush (-9999), 3) := by decide +kernel
theorem dX9_had_4 : decode cX9_had 4 = .ok (.if_icmp .lt 57, 3) := by decide +kernel
theorem dX9_had_7 : decode cX9_had 7 = .ok (.iload_n 1, 1) := by decide +kernel
theorem dX9_had_8 : decode cX9_had 8 = .ok (.sipush 9999, 3) := by decide +kernel
theorem dX9_had_11 : decode cX9_had 11 = .ok (.if_icmp .gt 50, 3) := by decide +kernel
theorem dX9_had_14 : decode cX9_had 14 = .ok (.iload_n 2, 1) := by decide +kernel
theorem dX9_had_15 : decode cX9_had 15 = .ok (.sipush (-9999), 3) := by decide +kernel
theorem dX9_had_18 : decode cX9_had 18 = .ok (.if_icmp .lt 43, 3) := by decide +kernel
theorem dX9_had_21 : decode cX9_had 21 = .ok (.iload_n 2, 1) := by decide +kernel
theorem dX9_had_22 : decode cX9_had 22 = .ok (.sipush 9999, 3) := by decide +kernel
theorem dX9_had_25 : decode cX9_had 25 = .ok (.if_icmp .gt 36, 3) := by decide +kernel
theorem dX9_had_28 : decode cX9_had 28 = .ok (.iload_n 3, 1) := by decide +kernel
theorem dX9_had_29 : decode cX9_had 29 = .ok (.sipush (-9999), 3) := by decide +kernel
theorem dX9_had_32 : decode cX9_had 32 = .ok (.if_icmp .lt 29, 3) := by decide +kernel
theorem dX9_had_35 : decode cX9_had 35 = .ok (.iload_n 3, 1) := by decide +kernel
theorem dX9_had_36 : decode cX9_had 36 = .ok (.sipush 9999, 3) := by decide +kernel
theorem dX9_had_39 : decode cX9_had 39 = .ok (.if_icmp .gt 22, 3) := by decide +kernel
theorem dX9_had_42 : decode cX9_had 42 = .ok (.iload 4, 2) := by decide +kernel
theorem dX9_had_44 : decode cX9_had 44 = .ok (.ifCond .lt 17, 3) := by decide +kernel
theorem dX9_had_47 : decode cX9_had 47 = .ok (.iload 4, 2) := by decide +kernel
theorem dX9_had_49 : decode cX9_had 49 = .ok (.iconst 1, 1) := by decide +kernel
theorem dX9_had_50 : decode cX9_had 50 = .ok (.if_icmp .gt 11, 3) := by decide +kernel
theorem dX9_had_53 : decode cX9_had 53 = .ok (.iload 5, 2) := by decide +kernel
theorem dX9_had_55 : decode cX9_had 55 = .ok (.invokestatic 327, 3) := by decide +kernel
theorem dX9_had_58 : decode cX9_had 58 = .ok (.ifCond .ne 7, 3) := by decide +kernel
theorem dX9_had_61 : decode cX9_had 61 = .ok (.ldc2_w 330, 3) := by decide +kernel
theorem dX9_had_64 : decode cX9_had 64 = .ok (.lreturn, 1) := by decide +kernel
theorem dX9_had_65 : decode cX9_had 65 = .ok (.iload 4, 2) := by decide +kernel
theorem dX9_had_67 : decode cX9_had 67 = .ok (.ifCond .ne 18, 3) := by decide +kernel
theorem dX9_had_70 : decode cX9_had 70 = .ok (.iload_n 1, 1) := by decide +kernel
theorem dX9_had_71 : decode cX9_had 71 = .ok (.i2l, 1) := by decide +kernel
theorem dX9_had_72 : decode cX9_had 72 = .ok (.iload_n 3, 1) := by decide +kernel
theorem dX9_had_73 : decode cX9_had 73 = .ok (.i2l, 1) := by decide +kernel
theorem dX9_had_74 : decode cX9_had 74 = .ok (.ladd, 1) := by decide +kernel
theorem dX9_had_75 : decode cX9_had 75 = .ok (.ldc2_w 345, 3) := by decide +kernel
theorem dX9_had_78 : decode cX9_had 78 = .ok (.iload_n 2, 1) := by decide +kernel
theorem dX9_had_79 : decode cX9_had 79 = .ok (.i2l, 1) := by decide +kernel
theorem dX9_had_80 : decode cX9_had 80 = .ok (.lmul, 1) := by decide +kernel
theorem dX9_had_81 : decode cX9_had 81 = .ok (.lsub, 1) := by decide +kernel
theorem dX9_had_82 : decode cX9_had 82 = .ok (.goto 8, 3) := by decide +kernel
theorem dX9_had_85 : decode cX9_had 85 = .ok (.iload_n 2, 1) := by decide +kernel
theorem dX9_had_86 : decode cX9_had 86 = .ok (.i2l, 1) := by decide +kernel
theorem dX9_had_87 : decode cX9_had 87 = .ok (.iload_n 1, 1) := by decide +kernel
theorem dX9_had_88 : decode cX9_had 88 = .ok (.i2l, 1) := by decide +kernel
theorem dX9_had_89 : decode cX9_had 89 = .ok (.lsub, 1) := by decide +kernel
theorem dX9_had_90 : decode cX9_had 90 = .ok (.lstore 6, 2) := by decide +kernel
theorem dX9_had_92 : decode cX9_had 92 = .ok (.lload 6, 2) := by decide +kernel
theorem dX9_had_94 : decode cX9_had 94 = .ok (.lconst 0, 1) := by decide +kernel
theorem dX9_had_95 : decode cX9_had 95 = .ok (.lcmp, 1) := by decide +kernel
theorem dX9_had_96 : decode cX9_had 96 = .ok (.ifCond .ne 7, 3) := by decide +kernel
theorem dX9_had_99 : decode cX9_had 99 = .ok (.ldc2_w 330, 3) := by decide +kernel
theorem dX9_had_102 : decode cX9_had 102 = .ok (.lreturn, 1) := by decide +kernel
theorem dX9_had_103 : decode cX9_had 103 = .ok (.aload_n 0, 1) := by decide +kernel
theorem dX9_had_104 : decode cX9_had 104 = .ok (.iload 4, 2) := by decide +kernel
theorem dX9_had_106 : decode cX9_had 106 = .ok (.ifCond .ne 17, 3) := by decide +kernel
theorem dX9_had_109 : decode cX9_had 109 = .ok (.iload_n 1, 1) := by decide +kernel
theorem dX9_had_110 : decode cX9_had 110 = .ok (.i2l, 1) := by decide +kernel
theorem dX9_had_111 : decode cX9_had 111 = .ok (.iload_n 3, 1) := by decide +kernel
theorem dX9_had_112 : decode cX9_had 112 = .ok (.i2l, 1) := by decide +kernel
theorem dX9_had_113 : decode cX9_had 113 = .ok (.lmul, 1) := by decide +kernel
theorem dX9_had_114 : decode cX9_had 114 = .ok (.iload_n 2, 1) := by decide +kernel
theorem dX9_had_115 : decode cX9_had 115 = .ok (.i2l, 1) := by decide +kernel
theorem dX9_had_116 : decode cX9_had 116 = .ok (.iload_n 2, 1) := by decide +kernel
theorem dX9_had_117 : decode cX9_had 117 = .ok (.i2l, 1) := by decide +kernel
theorem dX9_had_118 : decode cX9_had 118 = .ok (.lmul, 1) := by decide +kernel
theorem dX9_had_119 : decode cX9_had 119 = .ok (.lsub, 1) := by decide +kernel
theorem dX9_had_120 : decode cX9_had 120 = .ok (.goto 8, 3) := by decide +kernel
theorem dX9_had_123 : decode cX9_had 123 = .ok (.iload_n 2, 1) := by decide +kernel
theorem dX9_had_124 : decode cX9_had 124 = .ok (.i2l, 1) := by decide +kernel
theorem dX9_had_125 : decode cX9_had 125 = .ok (.iload_n 3, 1) := by decide +kernel
theorem dX9_had_126 : decode cX9_had 126 = .ok (.i2l, 1) := by decide +kernel
theorem dX9_had_127 : decode cX9_had 127 = .ok (.lsub, 1) := by decide +kernel
theorem dX9_had_128 : decode cX9_had 128 = .ok (.lload 6, 2) := by decide +kernel
theorem dX9_had_130 : decode cX9_had 130 = .ok (.invokevirtual 315, 3) := by decide +kernel
theorem dX9_had_133 : decode cX9_had 133 = .ok (.aload_n 0, 1) := by decide +kernel
theorem dX9_had_134 : decode cX9_had 134 = .ok (.iload 5, 2) := by decide +kernel
theorem dX9_had_136 : decode cX9_had 136 = .ok (.invokevirtual 336, 3) := by decide +kernel
theorem dX9_had_139 : decode cX9_had 139 = .ok (.lreturn, 1) := by decide +kernel
theorem dX9_reading_0 : decode cX9_reading 0 = .ok (.iload_n 1, 1) := by decide +kernel
theorem dX9_reading_1 : decode cX9_reading 1 = .ok (.ifCond .lt 40, 3) := by decide +kernel
theorem dX9_reading_4 : decode cX9_reading 4 = .ok (.iload_n 1, 1) := by decide +kernel
theorem dX9_reading_5 : decode cX9_reading 5 = .ok (.sipush 199, 3) := by decide +kernel
theorem dX9_reading_8 : decode cX9_reading 8 = .ok (.if_icmp .gt 33, 3) := by decide +kernel
theorem dX9_reading_11 : decode cX9_reading 11 = .ok (.iload_n 2, 1) := by decide +kernel
theorem dX9_reading_12 : decode cX9_reading 12 = .ok (.invokestatic 324, 3) := by decide +kernel
theorem dX9_reading_15 : decode cX9_reading 15 = .ok (.ifCond .eq 26, 3) := by decide +kernel
theorem dX9_reading_18 : decode cX9_reading 18 = .ok (.iload_n 3, 1) := by decide +kernel
theorem dX9_reading_19 : decode cX9_reading 19 = .ok (.sipush (-999), 3) := by decide +kernel
theorem dX9_reading_22 : decode cX9_reading 22 = .ok (.if_icmp .lt 19, 3) := by decide +kernel
theorem dX9_reading_25 : decode cX9_reading 25 = .ok (.iload_n 3, 1) := by decide +kernel
theorem dX9_reading_26 : decode cX9_reading 26 = .ok (.sipush 999, 3) := by decide +kernel
theorem dX9_reading_29 : decode cX9_reading 29 = .ok (.if_icmp .gt 12, 3) := by decide +kernel
theorem dX9_reading_32 : decode cX9_reading 32 = .ok (.aload_n 0, 1) := by decide +kernel
theorem dX9_reading_33 : decode cX9_reading 33 = .ok (.getfield 347, 3) := by decide +kernel
theorem dX9_reading_36 : decode cX9_reading 36 = .ok (.bipush 40, 2) := by decide +kernel
theorem dX9_reading_38 : decode cX9_reading 38 = .ok (.if_icmp .ne 5, 3) := by decide +kernel
theorem dX9_reading_41 : decode cX9_reading 41 = .ok (.iconst (-1), 1) := by decide +kernel
theorem dX9_reading_42 : decode cX9_reading 42 = .ok (.ireturn, 1) := by decide +kernel
theorem dX9_reading_43 : decode cX9_reading 43 = .ok (.aload_n 0, 1) := by decide +kernel
theorem dX9_reading_44 : decode cX9_reading 44 = .ok (.getfield 40, 3) := by decide +kernel
theorem dX9_reading_47 : decode cX9_reading 47 = .ok (.aload_n 0, 1) := by decide +kernel
theorem dX9_reading_48 : decode cX9_reading 48 = .ok (.getfield 347, 3) := by decide +kernel
theorem dX9_reading_51 : decode cX9_reading 51 = .ok (.iload_n 1, 1) := by decide +kernel
theorem dX9_reading_52 : decode cX9_reading 52 = .ok (.iastore, 1) := by decide +kernel
theorem dX9_reading_53 : decode cX9_reading 53 = .ok (.aload_n 0, 1) := by decide +kernel
theorem dX9_reading_54 : decode cX9_reading 54 = .ok (.getfield 43, 3) := by decide +kernel
theorem dX9_reading_57 : decode cX9_reading 57 = .ok (.aload_n 0, 1) := by decide +kernel
theorem dX9_reading_58 : decode cX9_reading 58 = .ok (.getfield 347, 3) := by decide +kernel
theorem dX9_reading_61 : decode cX9_reading 61 = .ok (.iload_n 2, 1) := by decide +kernel
theorem dX9_reading_62 : decode cX9_reading 62 = .ok (.iastore, 1) := by decide +kernel
theorem dX9_reading_63 : decode cX9_reading 63 = .ok (.aload_n 0, 1) := by decide +kernel
theorem dX9_reading_64 : decode cX9_reading 64 = .ok (.getfield 46, 3) := by decide +kernel
theorem dX9_reading_67 : decode cX9_reading 67 = .ok (.aload_n 0, 1) := by decide +kernel
theorem dX9_reading_68 : decode cX9_reading 68 = .ok (.getfield 347, 3) := by decide +kernel
theorem dX9_reading_71 : decode cX9_reading 71 = .ok (.iload_n 3, 1) := by decide +kernel
theorem dX9_reading_72 : decode cX9_reading 72 = .ok (.iastore, 1) := by decide +kernel
theorem dX9_reading_73 : decode cX9_reading 73 = .ok (.aload_n 0, 1) := by decide +kernel
theorem dX9_reading_74 : decode cX9_reading 74 = .ok (.getfield 49, 3) := by decide +kernel
theorem dX9_reading_77 : decode cX9_reading 77 = .ok (.aload_n 0, 1) := by decide +kernel
theorem dX9_reading_78 : decode cX9_reading 78 = .ok (.getfield 347, 3) := by decide +kernel
theorem dX9_reading_81 : decode cX9_reading 81 = .ok (.aload_n 0, 1) := by decide +kernel
theorem dX9_reading_82 : decode cX9_reading 82 = .ok (.getfield 350, 3) := by decide +kernel
theorem dX9_reading_85 : decode cX9_reading 85 = .ok (.iastore, 1) := by decide +kernel
theorem dX9_reading_86 : decode cX9_reading 86 = .ok (.aload_n 0, 1) := by decide +kernel
theorem dX9_reading_87 : decode cX9_reading 87 = .ok (.getfield 52, 3) := by decide +kernel
theorem dX9_reading_90 : decode cX9_reading 90 = .ok (.aload_n 0, 1) := by decide +kernel
theorem dX9_reading_91 : decode cX9_reading 91 = .ok (.getfield 347, 3) := by decide +kernel
theorem dX9_reading_94 : decode cX9_reading 94 = .ok (.iconst (-1), 1) := by decide +kernel
theorem dX9_reading_95 : decode cX9_reading 95 = .ok (.iastore, 1) := by decide +kernel
theorem dX9_reading_96 : decode cX9_reading 96 = .ok (.aload_n 0, 1) := by decide +kernel
theorem dX9_reading_97 : decode cX9_reading 97 = .ok (.dup, 1) := by decide +kernel
theorem dX9_reading_98 : decode cX9_reading 98 = .ok (.getfield 347, 3) := by decide +kernel
theorem dX9_reading_101 : decode cX9_reading 101 = .ok (.iconst 1, 1) := by decide +kernel
theorem dX9_reading_102 : decode cX9_reading 102 = .ok (.iadd, 1) := by decide +kernel
theorem dX9_reading_103 : decode cX9_reading 103 = .ok (.putfield 347, 3) := by decide +kernel
theorem dX9_reading_106 : decode cX9_reading 106 = .ok (.aload_n 0, 1) := by decide +kernel
theorem dX9_reading_107 : decode cX9_reading 107 = .ok (.getfield 347, 3) := by decide +kernel
theorem dX9_reading_110 : decode cX9_reading 110 = .ok (.iconst 1, 1) := by decide +kernel
theorem dX9_reading_111 : decode cX9_reading 111 = .ok (.isub, 1) := by decide +kernel
theorem dX9_reading_112 : decode cX9_reading 112 = .ok (.ireturn, 1) := by decide +kernel
theorem dX9_untell_0 : decode cX9_untell 0 = .ok (.iload_n 1, 1) := by decide +kernel
theorem dX9_untell_1 : decode cX9_untell 1 = .ok (.ifCond .lt 20, 3) := by decide +kernel
theorem dX9_untell_4 : decode cX9_untell 4 = .ok (.iload_n 1, 1) := by decide +kernel
theorem dX9_untell_5 : decode cX9_untell 5 = .ok (.aload_n 0, 1) := by decide +kernel
theorem dX9_untell_6 : decode cX9_untell 6 = .ok (.getfield 347, 3) := by decide +kernel
theorem dX9_untell_9 : decode cX9_untell 9 = .ok (.if_icmp .ge 12, 3) := by decide +kernel
theorem dX9_untell_12 : decode cX9_untell 12 = .ok (.aload_n 0, 1) := by decide +kernel
theorem dX9_untell_13 : decode cX9_untell 13 = .ok (.getfield 52, 3) := by decide +kernel
theorem dX9_untell_16 : decode cX9_untell 16 = .ok (.iload_n 1, 1) := by decide +kernel
theorem dX9_untell_17 : decode cX9_untell 17 = .ok (.iaload, 1) := by decide +kernel
theorem dX9_untell_18 : decode cX9_untell 18 = .ok (.ifCond .lt 5, 3) := by decide +kernel
theorem dX9_untell_21 : decode cX9_untell 21 = .ok (.iconst 0, 1) := by decide +kernel
theorem dX9_untell_22 : decode cX9_untell 22 = .ok (.ireturn, 1) := by decide +kernel
theorem dX9_untell_23 : decode cX9_untell 23 = .ok (.aload_n 0, 1) := by decide +kernel
theorem dX9_untell_24 : decode cX9_untell 24 = .ok (.getfield 52, 3) := by decide +kernel
theorem dX9_untell_27 : decode cX9_untell 27 = .ok (.iload_n 1, 1) := by decide +kernel
theorem dX9_untell_28 : decode cX9_untell 28 = .ok (.aload_n 0, 1) := by decide +kernel
theorem dX9_untell_29 : decode cX9_untell 29 = .ok (.getfield 350, 3) := by decide +kernel
theorem dX9_untell_32 : decode cX9_untell 32 = .ok (.iastore, 1) := by decide +kernel
theorem dX9_untell_33 : decode cX9_untell 33 = .ok (.iconst 1, 1) := by decide +kernel
theorem dX9_untell_34 : decode cX9_untell 34 = .ok (.ireturn, 1) := by decide +kernel
theorem dX9_later_0 : decode cX9_later 0 = .ok (.iload_n 1, 1) := by decide +kernel
theorem dX9_later_1 : decode cX9_later 1 = .ok (.ifCond .lt 22, 3) := by decide +kernel
theorem dX9_later_4 : decode cX9_later 4 = .ok (.iload_n 1, 1) := by decide +kernel
theorem dX9_later_5 : decode cX9_later 5 = .ok (.sipush 1000, 3) := by decide +kernel
theorem dX9_later_8 : decode cX9_later 8 = .ok (.if_icmp .gt 15, 3) := by decide +kernel
theorem dX9_later_11 : decode cX9_later 11 = .ok (.aload_n 0, 1) := by decide +kernel
theorem dX9_later_12 : decode cX9_later 12 = .ok (.getfield 350, 3) := by decide +kernel
theorem dX9_later_15 : decode cX9_later 15 = .ok (.iload_n 1, 1) := by decide +kernel
theorem dX9_later_16 : decode cX9_later 16 = .ok (.iadd, 1) := by decide +kernel
theorem dX9_later_17 : decode cX9_later 17 = .ok (.ldc_w 353, 3) := by decide +kernel
theorem dX9_later_20 : decode cX9_later 20 = .ok (.if_icmp .le 5, 3) := by decide +kernel
theorem dX9_later_23 : decode cX9_later 23 = .ok (.iconst (-1), 1) := by decide +kernel
theorem dX9_later_24 : decode cX9_later 24 = .ok (.ireturn, 1) := by decide +kernel
theorem dX9_later_25 : decode cX9_later 25 = .ok (.aload_n 0, 1) := by decide +kernel
theorem dX9_later_26 : decode cX9_later 26 = .ok (.dup, 1) := by decide +kernel
theorem dX9_later_27 : decode cX9_later 27 = .ok (.getfield 350, 3) := by decide +kernel
theorem dX9_later_30 : decode cX9_later 30 = .ok (.iload_n 1, 1) := by decide +kernel
theorem dX9_later_31 : decode cX9_later 31 = .ok (.iadd, 1) := by decide +kernel
theorem dX9_later_32 : decode cX9_later 32 = .ok (.putfield 350, 3) := by decide +kernel
theorem dX9_later_35 : decode cX9_later 35 = .ok (.aload_n 0, 1) := by decide +kernel
theorem dX9_later_36 : decode cX9_later 36 = .ok (.getfield 350, 3) := by decide +kernel
theorem dX9_later_39 : decode cX9_later 39 = .ok (.ireturn, 1) := by decide +kernel
theorem dX9_counts_0 : decode cX9_counts 0 = .ok (.aload_n 0, 1) := by decide +kernel
theorem dX9_counts_1 : decode cX9_counts 1 = .ok (.getfield 49, 3) := by decide +kernel
theorem dX9_counts_4 : decode cX9_counts 4 = .ok (.iload_n 1, 1) := by decide +kernel
theorem dX9_counts_5 : decode cX9_counts 5 = .ok (.iaload, 1) := by decide +kernel
theorem dX9_counts_6 : decode cX9_counts 6 = .ok (.iload_n 2, 1) := by decide +kernel
theorem dX9_counts_7 : decode cX9_counts 7 = .ok (.if_icmp .gt 26, 3) := by decide +kernel
theorem dX9_counts_10 : decode cX9_counts 10 = .ok (.aload_n 0, 1) := by decide +kernel
theorem dX9_counts_11 : decode cX9_counts 11 = .ok (.getfield 52, 3) := by decide +kernel
theorem dX9_counts_14 : decode cX9_counts 14 = .ok (.iload_n 1, 1) := by decide +kernel
theorem dX9_counts_15 : decode cX9_counts 15 = .ok (.iaload, 1) := by decide +kernel
theorem dX9_counts_16 : decode cX9_counts 16 = .ok (.ifCond .lt 13, 3) := by decide +kernel
theorem dX9_counts_19 : decode cX9_counts 19 = .ok (.aload_n 0, 1) := by decide +kernel
theorem dX9_counts_20 : decode cX9_counts 20 = .ok (.getfield 52, 3) := by decide +kernel
theorem dX9_counts_23 : decode cX9_counts 23 = .ok (.iload_n 1, 1) := by decide +kernel
theorem dX9_counts_24 : decode cX9_counts 24 = .ok (.iaload, 1) := by decide +kernel
theorem dX9_counts_25 : decode cX9_counts 25 = .ok (.iload_n 2, 1) := by decide +kernel
theorem dX9_counts_26 : decode cX9_counts 26 = .ok (.if_icmp .le 7, 3) := by decide +kernel
theorem dX9_counts_29 : decode cX9_counts 29 = .ok (.iconst 1, 1) := by decide +kernel
theorem dX9_counts_30 : decode cX9_counts 30 = .ok (.goto 4, 3) := by decide +kernel
theorem dX9_counts_33 : decode cX9_counts 33 = .ok (.iconst 0, 1) := by decide +kernel
theorem dX9_counts_34 : decode cX9_counts 34 = .ok (.ireturn, 1) := by decide +kernel
theorem dX9_goes_0 : decode cX9_goes 0 = .ok (.iload_n 2, 1) := by decide +kernel
theorem dX9_goes_1 : decode cX9_goes 1 = .ok (.ifCond .ne 7, 3) := by decide +kernel
theorem dX9_goes_4 : decode cX9_goes 4 = .ok (.iconst 1, 1) := by decide +kernel
theorem dX9_goes_5 : decode cX9_goes 5 = .ok (.goto 44, 3) := by decide +kernel
theorem dX9_goes_8 : decode cX9_goes 8 = .ok (.iload_n 2, 1) := by decide +kernel
theorem dX9_goes_9 : decode cX9_goes 9 = .ok (.iconst 1, 1) := by decide +kernel
theorem dX9_goes_10 : decode cX9_goes 10 = .ok (.if_icmp .ne 12, 3) := by decide +kernel
theorem dX9_goes_13 : decode cX9_goes 13 = .ok (.aload_n 0, 1) := by decide +kernel
theorem dX9_goes_14 : decode cX9_goes 14 = .ok (.getfield 43, 3) := by decide +kernel
theorem dX9_goes_17 : decode cX9_goes 17 = .ok (.iload_n 1, 1) := by decide +kernel
theorem dX9_goes_18 : decode cX9_goes 18 = .ok (.iaload, 1) := by decide +kernel
theorem dX9_goes_19 : decode cX9_goes 19 = .ok (.goto 30, 3) := by decide +kernel
theorem dX9_goes_22 : decode cX9_goes 22 = .ok (.iload_n 2, 1) := by decide +kernel
theorem dX9_goes_23 : decode cX9_goes 23 = .ok (.iconst 2, 1) := by decide +kernel
theorem dX9_goes_24 : decode cX9_goes 24 = .ok (.if_icmp .ne 12, 3) := by decide +kernel
theorem dX9_goes_27 : decode cX9_goes 27 = .ok (.aload_n 0, 1) := by decide +kernel
theorem dX9_goes_28 : decode cX9_goes 28 = .ok (.getfield 40, 3) := by decide +kernel
theorem dX9_goes_31 : decode cX9_goes 31 = .ok (.iload_n 1, 1) := by decide +kernel
theorem dX9_goes_32 : decode cX9_goes 32 = .ok (.iaload, 1) := by decide +kernel
theorem dX9_goes_33 : decode cX9_goes 33 = .ok (.goto 16, 3) := by decide +kernel
theorem dX9_goes_36 : decode cX9_goes 36 = .ok (.aload_n 0, 1) := by decide +kernel
theorem dX9_goes_37 : decode cX9_goes 37 = .ok (.getfield 43, 3) := by decide +kernel
theorem dX9_goes_40 : decode cX9_goes 40 = .ok (.iload_n 1, 1) := by decide +kernel
theorem dX9_goes_41 : decode cX9_goes 41 = .ok (.iaload, 1) := by decide +kernel
theorem dX9_goes_42 : decode cX9_goes 42 = .ok (.aload_n 0, 1) := by decide +kernel
theorem dX9_goes_43 : decode cX9_goes 43 = .ok (.getfield 43, 3) := by decide +kernel
theorem dX9_goes_46 : decode cX9_goes 46 = .ok (.iload_n 1, 1) := by decide +kernel
theorem dX9_goes_47 : decode cX9_goes 47 = .ok (.iaload, 1) := by decide +kernel
theorem dX9_goes_48 : decode cX9_goes 48 = .ok (.imul, 1) := by decide +kernel
theorem dX9_goes_49 : decode cX9_goes 49 = .ok (.ireturn, 1) := by decide +kernel
theorem dX9_two_0 : decode cX9_two 0 = .ok (.aload_n 0, 1) := by decide +kernel
theorem dX9_two_1 : decode cX9_two 1 = .ok (.getfield 61, 3) := by decide +kernel
theorem dX9_two_4 : decode cX9_two 4 = .ok (.iconst 4, 1) := by decide +kernel
theorem dX9_two_5 : decode cX9_two 5 = .ok (.iload_n 1, 1) := by decide +kernel
theorem dX9_two_6 : decode cX9_two 6 = .ok (.imul, 1) := by decide +kernel
theorem dX9_two_7 : decode cX9_two 7 = .ok (.iload_n 3, 1) := by decide +kernel
theorem dX9_two_8 : decode cX9_two 8 = .ok (.iadd, 1) := by decide +kernel
theorem dX9_two_9 : decode cX9_two 9 = .ok (.laload, 1) := by decide +kernel
theorem dX9_two_10 : decode cX9_two 10 = .ok (.aload_n 0, 1) := by decide +kernel
theorem dX9_two_11 : decode cX9_two 11 = .ok (.getfield 61, 3) := by decide +kernel
theorem dX9_two_14 : decode cX9_two 14 = .ok (.iconst 4, 1) := by decide +kernel
theorem dX9_two_15 : decode cX9_two 15 = .ok (.iload_n 2, 1) := by decide +kernel
theorem dX9_two_16 : decode cX9_two 16 = .ok (.imul, 1) := by decide +kernel
theorem dX9_two_17 : decode cX9_two 17 = .ok (.iload 4, 2) := by decide +kernel
theorem dX9_two_19 : decode cX9_two 19 = .ok (.iadd, 1) := by decide +kernel
theorem dX9_two_20 : decode cX9_two 20 = .ok (.laload, 1) := by decide +kernel
theorem dX9_two_21 : decode cX9_two 21 = .ok (.lmul, 1) := by decide +kernel
theorem dX9_two_22 : decode cX9_two 22 = .ok (.aload_n 0, 1) := by decide +kernel
theorem dX9_two_23 : decode cX9_two 23 = .ok (.getfield 61, 3) := by decide +kernel
theorem dX9_two_26 : decode cX9_two 26 = .ok (.iconst 4, 1) := by decide +kernel
theorem dX9_two_27 : decode cX9_two 27 = .ok (.iload_n 1, 1) := by decide +kernel
theorem dX9_two_28 : decode cX9_two 28 = .ok (.imul, 1) := by decide +kernel
theorem dX9_two_29 : decode cX9_two 29 = .ok (.iload 4, 2) := by decide +kernel
theorem dX9_two_31 : decode cX9_two 31 = .ok (.iadd, 1) := by decide +kernel
theorem dX9_two_32 : decode cX9_two 32 = .ok (.laload, 1) := by decide +kernel
theorem dX9_two_33 : decode cX9_two 33 = .ok (.aload_n 0, 1) := by decide +kernel
theorem dX9_two_34 : decode cX9_two 34 = .ok (.getfield 61, 3) := by decide +kernel
theorem dX9_two_37 : decode cX9_two 37 = .ok (.iconst 4, 1) := by decide +kernel
theorem dX9_two_38 : decode cX9_two 38 = .ok (.iload_n 2, 1) := by decide +kernel
theorem dX9_two_39 : decode cX9_two 39 = .ok (.imul, 1) := by decide +kernel
theorem dX9_two_40 : decode cX9_two 40 = .ok (.iload_n 3, 1) := by decide +kernel
theorem dX9_two_41 : decode cX9_two 41 = .ok (.iadd, 1) := by decide +kernel
theorem dX9_two_42 : decode cX9_two 42 = .ok (.laload, 1) := by decide +kernel
theorem dX9_two_43 : decode cX9_two 43 = .ok (.lmul, 1) := by decide +kernel
theorem dX9_two_44 : decode cX9_two 44 = .ok (.lsub, 1) := by decide +kernel
theorem dX9_two_45 : decode cX9_two 45 = .ok (.lreturn, 1) := by decide +kernel
theorem dX9_three_0 : decode cX9_three 0 = .ok (.aload_n 0, 1) := by decide +kernel
theorem dX9_three_1 : decode cX9_three 1 = .ok (.getfield 61, 3) := by decide +kernel
theorem dX9_three_4 : decode cX9_three 4 = .ok (.iconst 4, 1) := by decide +kernel
theorem dX9_three_5 : decode cX9_three 5 = .ok (.iload_n 1, 1) := by decide +kernel
theorem dX9_three_6 : decode cX9_three 6 = .ok (.imul, 1) := by decide +kernel
theorem dX9_three_7 : decode cX9_three 7 = .ok (.iload 4, 2) := by decide +kernel
theorem dX9_three_9 : decode cX9_three 9 = .ok (.iadd, 1) := by decide +kernel
theorem dX9_three_10 : decode cX9_three 10 = .ok (.laload, 1) := by decide +kernel
theorem dX9_three_11 : decode cX9_three 11 = .ok (.aload_n 0, 1) := by decide +kernel
theorem dX9_three_12 : decode cX9_three 12 = .ok (.iload_n 2, 1) := by decide +kernel
theorem dX9_three_13 : decode cX9_three 13 = .ok (.iload_n 3, 1) := by decide +kernel
theorem dX9_three_14 : decode cX9_three 14 = .ok (.iload 5, 2) := by decide +kernel
theorem dX9_three_16 : decode cX9_three 16 = .ok (.iload 6, 2) := by decide +kernel
theorem dX9_three_18 : decode cX9_three 18 = .ok (.invokevirtual 354, 3) := by decide +kernel
theorem dX9_three_21 : decode cX9_three 21 = .ok (.lmul, 1) := by decide +kernel
theorem dX9_three_22 : decode cX9_three 22 = .ok (.aload_n 0, 1) := by decide +kernel
theorem dX9_three_23 : decode cX9_three 23 = .ok (.getfield 61, 3) := by decide +kernel
theorem dX9_three_26 : decode cX9_three 26 = .ok (.iconst 4, 1) := by decide +kernel
theorem dX9_three_27 : decode cX9_three 27 = .ok (.iload_n 1, 1) := by decide +kernel
theorem dX9_three_28 : decode cX9_three 28 = .ok (.imul, 1) := by decide +kernel
theorem dX9_three_29 : decode cX9_three 29 = .ok (.iload 5, 2) := by decide +kernel
theorem dX9_three_31 : decode cX9_three 31 = .ok (.iadd, 1) := by decide +kernel
theorem dX9_three_32 : decode cX9_three 32 = .ok (.laload, 1) := by decide +kernel
theorem dX9_three_33 : decode cX9_three 33 = .ok (.aload_n 0, 1) := by decide +kernel
theorem dX9_three_34 : decode cX9_three 34 = .ok (.iload_n 2, 1) := by decide +kernel
theorem dX9_three_35 : decode cX9_three 35 = .ok (.iload_n 3, 1) := by decide +kernel
theorem dX9_three_36 : decode cX9_three 36 = .ok (.iload 4, 2) := by decide +kernel
theorem dX9_three_38 : decode cX9_three 38 = .ok (.iload 6, 2) := by decide +kernel
theorem dX9_three_40 : decode cX9_three 40 = .ok (.invokevirtual 354, 3) := by decide +kernel
theorem dX9_three_43 : decode cX9_three 43 = .ok (.lmul, 1) := by decide +kernel
theorem dX9_three_44 : decode cX9_three 44 = .ok (.lsub, 1) := by decide +kernel
theorem dX9_three_45 : decode cX9_three 45 = .ok (.aload_n 0, 1) := by decide +kernel
theorem dX9_three_46 : decode cX9_three 46 = .ok (.getfield 61, 3) := by decide +kernel
theorem dX9_three_49 : decode cX9_three 49 = .ok (.iconst 4, 1) := by decide +kernel
theorem dX9_three_50 : decode cX9_three 50 = .ok (.iload_n 1, 1) := by decide +kernel
theorem dX9_three_51 : decode cX9_three 51 = .ok (.imul, 1) := by decide +kernel
theorem dX9_three_52 : decode cX9_three 52 = .ok (.iload 6, 2) := by decide +kernel
theorem dX9_three_54 : decode cX9_three 54 = .ok (.iadd, 1) := by decide +kernel
theorem dX9_three_55 : decode cX9_three 55 = .ok (.laload, 1) := by decide +kernel
theorem dX9_three_56 : decode cX9_three 56 = .ok (.aload_n 0, 1) := by decide +kernel
theorem dX9_three_57 : decode cX9_three 57 = .ok (.iload_n 2, 1) := by decide +kernel
theorem dX9_three_58 : decode cX9_three 58 = .ok (.iload_n 3, 1) := by decide +kernel
theorem dX9_three_59 : decode cX9_three 59 = .ok (.iload 4, 2) := by decide +kernel
theorem dX9_three_61 : decode cX9_three 61 = .ok (.iload 5, 2) := by decide +kernel
theorem dX9_three_63 : decode cX9_three 63 = .ok (.invokevirtual 354, 3) := by decide +kernel
theorem dX9_three_66 : decode cX9_three 66 = .ok (.lmul, 1) := by decide +kernel
theorem dX9_three_67 : decode cX9_three 67 = .ok (.ladd, 1) := by decide +kernel
theorem dX9_three_68 : decode cX9_three 68 = .ok (.lreturn, 1) := by decide +kernel
theorem dX9_determinant_0 : decode cX9_determinant 0 = .ok (.iconst 0, 1) := by decide +kernel
theorem dX9_determinant_1 : decode cX9_determinant 1 = .ok (.istore_n 3, 1) := by decide +kernel
theorem dX9_determinant_2 : decode cX9_determinant 2 = .ok (.iload_n 3, 1) := by decide +kernel
theorem dX9_determinant_3 : decode cX9_determinant 3 = .ok (.bipush 16, 2) := by decide +kernel
theorem dX9_determinant_5 : decode cX9_determinant 5 = .ok (.if_icmp .ge 39, 3) := by decide +kernel
theorem dX9_determinant_8 : decode cX9_determinant 8 = .ok (.aload_n 0, 1) := by decide +kernel
theorem dX9_determinant_9 : decode cX9_determinant 9 = .ok (.getfield 61, 3) := by decide +kernel
theorem dX9_determinant_12 : decode cX9_determinant 12 = .ok (.iload_n 3, 1) := by decide +kernel
theorem dX9_determinant_13 : decode cX9_determinant 13 = .ok (.iload_n 3, 1) := by decide +kernel
theorem dX9_determinant_14 : decode cX9_determinant 14 = .ok (.iconst 4, 1) := by decide +kernel
theorem dX9_determinant_15 : decode cX9_determinant 15 = .ok (.irem, 1) := by decide +kernel
theorem dX9_determinant_16 : decode cX9_determinant 16 = .ok (.iload_n 2, 1) := by decide +kernel
theorem dX9_determinant_17 : decode cX9_determinant 17 = .ok (.if_icmp .ne 14, 3) := by decide +kernel
theorem dX9_determinant_20 : decode cX9_determinant 20 = .ok (.aload_n 0, 1) := by decide +kernel
theorem dX9_determinant_21 : decode cX9_determinant 21 = .ok (.getfield 58, 3) := by decide +kernel
theorem dX9_determinant_24 : decode cX9_determinant 24 = .ok (.iload_n 3, 1) := by decide +kernel
theorem dX9_determinant_25 : decode cX9_determinant 25 = .ok (.iconst 4, 1) := by decide +kernel
theorem dX9_determinant_26 : decode cX9_determinant 26 = .ok (.idiv, 1) := by decide +kernel
theorem dX9_determinant_27 : decode cX9_determinant 27 = .ok (.laload, 1) := by decide +kernel
theorem dX9_determinant_28 : decode cX9_determinant 28 = .ok (.goto 9, 3) := by decide +kernel
theorem dX9_determinant_31 : decode cX9_determinant 31 = .ok (.aload_n 0, 1) := by decide +kernel
theorem dX9_determinant_32 : decode cX9_determinant 32 = .ok (.getfield 55, 3) := by decide +kernel
theorem dX9_determinant_35 : decode cX9_determinant 35 = .ok (.iload_n 3, 1) := by decide +kernel
theorem dX9_determinant_36 : decode cX9_determinant 36 = .ok (.laload, 1) := by decide +kernel
theorem dX9_determinant_37 : decode cX9_determinant 37 = .ok (.lastore, 1) := by decide +kernel
theorem dX9_determinant_38 : decode cX9_determinant 38 = .ok (.iinc 3 1, 3) := by decide +kernel
theorem dX9_determinant_41 : decode cX9_determinant 41 = .ok (.goto (-39), 3) := by decide +kernel
theorem dX9_determinant_44 : decode cX9_determinant 44 = .ok (.iload_n 1, 1) := by decide +kernel
theorem dX9_determinant_45 : decode cX9_determinant 45 = .ok (.iconst 2, 1) := by decide +kernel
theorem dX9_determinant_46 : decode cX9_determinant 46 = .ok (.if_icmp .ne 12, 3) := by decide +kernel
theorem dX9_determinant_49 : decode cX9_determinant 49 = .ok (.aload_n 0, 1) := by decide +kernel
theorem dX9_determinant_50 : decode cX9_determinant 50 = .ok (.iconst 0, 1) := by decide +kernel
theorem dX9_determinant_51 : decode cX9_determinant 51 = .ok (.iconst 1, 1) := by decide +kernel
theorem dX9_determinant_52 : decode cX9_determinant 52 = .ok (.iconst 0, 1) := by decide +kernel
theorem dX9_determinant_53 : decode cX9_determinant 53 = .ok (.iconst 1, 1) := by decide +kernel
theorem dX9_determinant_54 : decode cX9_determinant 54 = .ok (.invokevirtual 354, 3) := by decide +kernel
theorem dX9_determinant_57 : decode cX9_determinant 57 = .ok (.lreturn, 1) := by decide +kernel
theorem dX9_determinant_58 : decode cX9_determinant 58 = .ok (.iload_n 1, 1) := by decide +kernel
theorem dX9_determinant_59 : decode cX9_determinant 59 = .ok (.iconst 3, 1) := by decide +kernel
theorem dX9_determinant_60 : decode cX9_determinant 60 = .ok (.if_icmp .ne 14, 3) := by decide +kernel
theorem dX9_determinant_63 : decode cX9_determinant 63 = .ok (.aload_n 0, 1) := by decide +kernel
theorem dX9_determinant_64 : decode cX9_determinant 64 = .ok (.iconst 0, 1) := by decide +kernel
theorem dX9_determinant_65 : decode cX9_determinant 65 = .ok (.iconst 1, 1) := by decide +kernel
theorem dX9_determinant_66 : decode cX9_determinant 66 = .ok (.iconst 2, 1) := by decide +kernel
theorem dX9_determinant_67 : decode cX9_determinant 67 = .ok (.iconst 0, 1) := by decide +kernel
theorem dX9_determinant_68 : decode cX9_determinant 68 = .ok (.iconst 1, 1) := by decide +kernel
theorem dX9_determinant_69 : decode cX9_determinant 69 = .ok (.iconst 2, 1) := by decide +kernel
theorem dX9_determinant_70 : decode cX9_determinant 70 = .ok (.invokevirtual 358, 3) := by decide +kernel
theorem dX9_determinant_73 : decode cX9_determinant 73 = .ok (.lreturn, 1) := by decide +kernel
theorem dX9_determinant_74 : decode cX9_determinant 74 = .ok (.aload_n 0, 1) := by decide +kernel
theorem dX9_determinant_75 : decode cX9_determinant 75 = .ok (.getfield 61, 3) := by decide +kernel
theorem dX9_determinant_78 : decode cX9_determinant 78 = .ok (.iconst 0, 1) := by decide +kernel
theorem dX9_determinant_79 : decode cX9_determinant 79 = .ok (.laload, 1) := by decide +kernel
theorem dX9_determinant_80 : decode cX9_determinant 80 = .ok (.aload_n 0, 1) := by decide +kernel
theorem dX9_determinant_81 : decode cX9_determinant 81 = .ok (.iconst 1, 1) := by decide +kernel
theorem dX9_determinant_82 : decode cX9_determinant 82 = .ok (.iconst 2, 1) := by decide +kernel
theorem dX9_determinant_83 : decode cX9_determinant 83 = .ok (.iconst 3, 1) := by decide +kernel
theorem dX9_determinant_84 : decode cX9_determinant 84 = .ok (.iconst 1, 1) := by decide +kernel
theorem dX9_determinant_85 : decode cX9_determinant 85 = .ok (.iconst 2, 1) := by decide +kernel
theorem dX9_determinant_86 : decode cX9_determinant 86 = .ok (.iconst 3, 1) := by decide +kernel
theorem dX9_determinant_87 : decode cX9_determinant 87 = .ok (.invokevirtual 358, 3) := by decide +kernel
theorem dX9_determinant_90 : decode cX9_determinant 90 = .ok (.lmul, 1) := by decide +kernel
theorem dX9_determinant_91 : decode cX9_determinant 91 = .ok (.aload_n 0, 1) := by decide +kernel
theorem dX9_determinant_92 : decode cX9_determinant 92 = .ok (.getfield 61, 3) := by decide +kernel
theorem dX9_determinant_95 : decode cX9_determinant 95 = .ok (.iconst 1, 1) := by decide +kernel
theorem dX9_determinant_96 : decode cX9_determinant 96 = .ok (.laload, 1) := by decide +kernel
theorem dX9_determinant_97 : decode cX9_determinant 97 = .ok (.aload_n 0, 1) := by decide +kernel
theorem dX9_determinant_98 : decode cX9_determinant 98 = .ok (.iconst 1, 1) := by decide +kernel
theorem dX9_determinant_99 : decode cX9_determinant 99 = .ok (.iconst 2, 1) := by decide +kernel
theorem dX9_determinant_100 : decode cX9_determinant 100 = .ok (.iconst 3, 1) := by decide +kernel
theorem dX9_determinant_101 : decode cX9_determinant 101 = .ok (.iconst 0, 1) := by decide +kernel
theorem dX9_determinant_102 : decode cX9_determinant 102 = .ok (.iconst 2, 1) := by decide +kernel
theorem dX9_determinant_103 : decode cX9_determinant 103 = .ok (.iconst 3, 1) := by decide +kernel
theorem dX9_determinant_104 : decode cX9_determinant 104 = .ok (.invokevirtual 358, 3) := by decide +kernel
theorem dX9_determinant_107 : decode cX9_determinant 107 = .ok (.lmul, 1) := by decide +kernel
theorem dX9_determinant_108 : decode cX9_determinant 108 = .ok (.lsub, 1) := by decide +kernel
theorem dX9_determinant_109 : decode cX9_determinant 109 = .ok (.aload_n 0, 1) := by decide +kernel
theorem dX9_determinant_110 : decode cX9_determinant 110 = .ok (.getfield 61, 3) := by decide +kernel
theorem dX9_determinant_113 : decode cX9_determinant 113 = .ok (.iconst 2, 1) := by decide +kernel
theorem dX9_determinant_114 : decode cX9_determinant 114 = .ok (.laload, 1) := by decide +kernel
theorem dX9_determinant_115 : decode cX9_determinant 115 = .ok (.aload_n 0, 1) := by decide +kernel
theorem dX9_determinant_116 : decode cX9_determinant 116 = .ok (.iconst 1, 1) := by decide +kernel
theorem dX9_determinant_117 : decode cX9_determinant 117 = .ok (.iconst 2, 1) := by decide +kernel
theorem dX9_determinant_118 : decode cX9_determinant 118 = .ok (.iconst 3, 1) := by decide +kernel
theorem dX9_determinant_119 : decode cX9_determinant 119 = .ok (.iconst 0, 1) := by decide +kernel
theorem dX9_determinant_120 : decode cX9_determinant 120 = .ok (.iconst 1, 1) := by decide +kernel
theorem dX9_determinant_121 : decode cX9_determinant 121 = .ok (.iconst 3, 1) := by decide +kernel
theorem dX9_determinant_122 : decode cX9_determinant 122 = .ok (.invokevirtual 358, 3) := by decide +kernel
theorem dX9_determinant_125 : decode cX9_determinant 125 = .ok (.lmul, 1) := by decide +kernel
theorem dX9_determinant_126 : decode cX9_determinant 126 = .ok (.ladd, 1) := by decide +kernel
theorem dX9_determinant_127 : decode cX9_determinant 127 = .ok (.aload_n 0, 1) := by decide +kernel
theorem dX9_determinant_128 : decode cX9_determinant 128 = .ok (.getfield 61, 3) := by decide +kernel
theorem dX9_determinant_131 : decode cX9_determinant 131 = .ok (.iconst 3, 1) := by decide +kernel
theorem dX9_determinant_132 : decode cX9_determinant 132 = .ok (.laload, 1) := by decide +kernel
theorem dX9_determinant_133 : decode cX9_determinant 133 = .ok (.aload_n 0, 1) := by decide +kernel
theorem dX9_determinant_134 : decode cX9_determinant 134 = .ok (.iconst 1, 1) := by decide +kernel
theorem dX9_determinant_135 : decode cX9_determinant 135 = .ok (.iconst 2, 1) := by decide +kernel
theorem dX9_determinant_136 : decode cX9_determinant 136 = .ok (.iconst 3, 1) := by decide +kernel
theorem dX9_determinant_137 : decode cX9_determinant 137 = .ok (.iconst 0, 1) := by decide +kernel
theorem dX9_determinant_138 : decode cX9_determinant 138 = .ok (.iconst 1, 1) := by decide +kernel
theorem dX9_determinant_139 : decode cX9_determinant 139 = .ok (.iconst 2, 1) := by decide +kernel
theorem dX9_determinant_140 : decode cX9_determinant 140 = .ok (.invokevirtual 358, 3) := by decide +kernel
theorem dX9_determinant_143 : decode cX9_determinant 143 = .ok (.lmul, 1) := by decide +kernel
theorem dX9_determinant_144 : decode cX9_determinant 144 = .ok (.lsub, 1) := by decide +kernel
theorem dX9_determinant_145 : decode cX9_determinant 145 = .ok (.lreturn, 1) := by decide +kernel
theorem dX9_seekFit_0 : decode cX9_seekFit 0 = .ok (.iconst 0, 1) := by decide +kernel
theorem dX9_seekFit_1 : decode cX9_seekFit 1 = .ok (.istore_n 3, 1) := by decide +kernel
theorem dX9_seekFit_2 : decode cX9_seekFit 2 = .ok (.iload_n 3, 1) := by decide +kernel
theorem dX9_seekFit_3 : decode cX9_seekFit 3 = .ok (.iconst 4, 1) := by decide +kernel
theorem dX9_seekFit_4 : decode cX9_seekFit 4 = .ok (.if_icmp .ge 172, 3) := by decide +kernel
theorem dX9_seekFit_7 : decode cX9_seekFit 7 = .ok (.aload_n 0, 1) := by decide +kernel
theorem dX9_seekFit_8 : decode cX9_seekFit 8 = .ok (.getfield 58, 3) := by decide +kernel
theorem dX9_seekFit_11 : decode cX9_seekFit 11 = .ok (.iload_n 3, 1) := by decide +kernel
theorem dX9_seekFit_12 : decode cX9_seekFit 12 = .ok (.lconst 0, 1) := by decide +kernel
theorem dX9_seekFit_13 : decode cX9_seekFit 13 = .ok (.lastore, 1) := by decide +kernel
theorem dX9_seekFit_14 : decode cX9_seekFit 14 = .ok (.aload_n 0, 1) := by decide +kernel
theorem dX9_seekFit_15 : decode cX9_seekFit 15 = .ok (.getfield 64, 3) := by decide +kernel
theorem dX9_seekFit_18 : decode cX9_seekFit 18 = .ok (.iload_n 3, 1) := by decide +kernel
theorem dX9_seekFit_19 : decode cX9_seekFit 19 = .ok (.lconst 0, 1) := by decide +kernel
theorem dX9_seekFit_20 : decode cX9_seekFit 20 = .ok (.lastore, 1) := by decide +kernel
theorem dX9_seekFit_21 : decode cX9_seekFit 21 = .ok (.iconst 0, 1) := by decide +kernel
theorem dX9_seekFit_22 : decode cX9_seekFit 22 = .ok (.istore 4, 2) := by decide +kernel
theorem dX9_seekFit_24 : decode cX9_seekFit 24 = .ok (.iload 4, 2) := by decide +kernel
theorem dX9_seekFit_26 : decode cX9_seekFit 26 = .ok (.iconst 4, 1) := by decide +kernel
theorem dX9_seekFit_27 : decode cX9_seekFit 27 = .ok (.if_icmp .ge 85, 3) := by decide +kernel
theorem dX9_seekFit_30 : decode cX9_seekFit 30 = .ok (.aload_n 0, 1) := by decide +kernel
theorem dX9_seekFit_31 : decode cX9_seekFit 31 = .ok (.getfield 55, 3) := by decide +kernel
theorem dX9_seekFit_34 : decode cX9_seekFit 34 = .ok (.iconst 4, 1) := by decide +kernel
theorem dX9_seekFit_35 : decode cX9_seekFit 35 = .ok (.iload 4, 2) := by decide +kernel
theorem dX9_seekFit_37 : decode cX9_seekFit 37 = .ok (.imul, 1) := by decide +kernel
theorem dX9_seekFit_38 : decode cX9_seekFit 38 = .ok (.iload_n 3, 1) := by decide +kernel
theorem dX9_seekFit_39 : decode cX9_seekFit 39 = .ok (.iadd, 1) := by decide +kernel
theorem dX9_seekFit_40 : decode cX9_seekFit 40 = .ok (.lconst 0, 1) := by decide +kernel
theorem dX9_seekFit_41 : decode cX9_seekFit 41 = .ok (.lastore, 1) := by decide +kernel
theorem dX9_seekFit_42 : decode cX9_seekFit 42 = .ok (.iconst 0, 1) := by decide +kernel
theorem dX9_seekFit_43 : decode cX9_seekFit 43 = .ok (.istore 5, 2) := by decide +kernel
theorem dX9_seekFit_45 : decode cX9_seekFit 45 = .ok (.iload 5, 2) := by decide +kernel
theorem dX9_seekFit_47 : decode cX9_seekFit 47 = .ok (.aload_n 0, 1) := by decide +kernel
theorem dX9_seekFit_48 : decode cX9_seekFit 48 = .ok (.getfield 347, 3) := by decide +kernel
theorem dX9_seekFit_51 : decode cX9_seekFit 51 = .ok (.if_icmp .ge 55, 3) := by decide +kernel
theorem dX9_seekFit_54 : decode cX9_seekFit 54 = .ok (.aload_n 0, 1) := by decide +kernel
theorem dX9_seekFit_55 : decode cX9_seekFit 55 = .ok (.getfield 55, 3) := by decide +kernel
theorem dX9_seekFit_58 : decode cX9_seekFit 58 = .ok (.iconst 4, 1) := by decide +kernel
theorem dX9_seekFit_59 : decode cX9_seekFit 59 = .ok (.iload 4, 2) := by decide +kernel
theorem dX9_seekFit_61 : decode cX9_seekFit 61 = .ok (.imul, 1) := by decide +kernel
theorem dX9_seekFit_62 : decode cX9_seekFit 62 = .ok (.iload_n 3, 1) := by decide +kernel
theorem dX9_seekFit_63 : decode cX9_seekFit 63 = .ok (.iadd, 1) := by decide +kernel
theorem dX9_seekFit_64 : decode cX9_seekFit 64 = .ok (.dup2, 1) := by decide +kernel
theorem dX9_seekFit_65 : decode cX9_seekFit 65 = .ok (.laload, 1) := by decide +kernel
theorem dX9_seekFit_66 : decode cX9_seekFit 66 = .ok (.aload_n 0, 1) := by decide +kernel
theorem dX9_seekFit_67 : decode cX9_seekFit 67 = .ok (.iload 5, 2) := by decide +kernel
theorem dX9_seekFit_69 : decode cX9_seekFit 69 = .ok (.iload_n 2, 1) := by decide +kernel
theorem dX9_seekFit_70 : decode cX9_seekFit 70 = .ok (.invokevirtual 362, 3) := by decide +kernel
theorem dX9_seekFit_73 : decode cX9_seekFit 73 = .ok (.ifCond .eq 24, 3) := by decide +kernel
theorem dX9_seekFit_76 : decode cX9_seekFit 76 = .ok (.aload_n 0, 1) := by decide +kernel
theorem dX9_seekFit_77 : decode cX9_seekFit 77 = .ok (.iload 5, 2) := by decide +kernel
theorem dX9_seekFit_79 : decode cX9_seekFit 79 = .ok (.iload 4, 2) := by decide +kernel
theorem dX9_seekFit_81 : decode cX9_seekFit 81 = .ok (.invokevirtual 366, 3) := by decide +kernel
theorem dX9_seekFit_84 : decode cX9_seekFit 84 = .ok (.i2l, 1) := by decide +kernel
theorem dX9_seekFit_85 : decode cX9_seekFit 85 = .ok (.aload_n 0, 1) := by decide +kernel
theorem dX9_seekFit_86 : decode cX9_seekFit 86 = .ok (.iload 5, 2) := by decide +kernel
theorem dX9_seekFit_88 : decode cX9_seekFit 88 = .ok (.iload_n 3, 1) := by decide +kernel
theorem dX9_seekFit_89 : decode cX9_seekFit 89 = .ok (.invokevirtual 366, 3) := by decide +kernel
theorem dX9_seekFit_92 : decode cX9_seekFit 92 = .ok (.i2l, 1) := by decide +kernel
theorem dX9_seekFit_93 : decode cX9_seekFit 93 = .ok (.lmul, 1) := by decide +kernel
theorem dX9_seekFit_94 : decode cX9_seekFit 94 = .ok (.goto 4, 3) := by decide +kernel
theorem dX9_seekFit_97 : decode cX9_seekFit 97 = .ok (.lconst 0, 1) := by decide +kernel
theorem dX9_seekFit_98 : decode cX9_seekFit 98 = .ok (.ladd, 1) := by decide +kernel
theorem dX9_seekFit_99 : decode cX9_seekFit 99 = .ok (.lastore, 1) := by decide +kernel
theorem dX9_seekFit_100 : decode cX9_seekFit 100 = .ok (.iinc 5 1, 3) := by decide +kernel
theorem dX9_seekFit_103 : decode cX9_seekFit 103 = .ok (.goto (-58), 3) := by decide +kernel
theorem dX9_seekFit_106 : decode cX9_seekFit 106 = .ok (.iinc 4 1, 3) := by decide +kernel
theorem dX9_seekFit_109 : decode cX9_seekFit 109 = .ok (.goto (-85), 3) := by decide +kernel
theorem dX9_seekFit_112 : decode cX9_seekFit 112 = .ok (.iconst 0, 1) := by decide +kernel
theorem dX9_seekFit_113 : decode cX9_seekFit 113 = .ok (.istore 4, 2) := by decide +kernel
theorem dX9_seekFit_115 : decode cX9_seekFit 115 = .ok (.iload 4, 2) := by decide +kernel
theorem dX9_seekFit_117 : decode cX9_seekFit 117 = .ok (.aload_n 0, 1) := by decide +kernel
theorem dX9_seekFit_118 : decode cX9_seekFit 118 = .ok (.getfield 347, 3) := by decide +kernel
theorem dX9_seekFit_121 : decode cX9_seekFit 121 = .ok (.if_icmp .ge 49, 3) := by decide +kernel
theorem dX9_seekFit_124 : decode cX9_seekFit 124 = .ok (.aload_n 0, 1) := by decide +kernel
theorem dX9_seekFit_125 : decode cX9_seekFit 125 = .ok (.getfield 58, 3) := by decide +kernel
theorem dX9_seekFit_128 : decode cX9_seekFit 128 = .ok (.iload_n 3, 1) := by decide +kernel
theorem dX9_seekFit_129 : decode cX9_seekFit 129 = .ok (.dup2, 1) := by decide +kernel
theorem dX9_seekFit_130 : decode cX9_seekFit 130 = .ok (.laload, 1) := by decide +kernel
theorem dX9_seekFit_131 : decode cX9_seekFit 131 = .ok (.aload_n 0, 1) := by decide +kernel
theorem dX9_seekFit_132 : decode cX9_seekFit 132 = .ok (.iload 4, 2) := by decide +kernel
theorem dX9_seekFit_134 : decode cX9_seekFit 134 = .ok (.iload_n 2, 1) := by decide +kernel
theorem dX9_seekFit_135 : decode cX9_seekFit 135 = .ok (.invokevirtual 362, 3) := by decide +kernel
theorem dX9_seekFit_138 : decode cX9_seekFit 138 = .ok (.ifCond .eq 23, 3) := by decide +kernel
theorem dX9_seekFit_141 : decode cX9_seekFit 141 = .ok (.aload_n 0, 1) := by decide +kernel
theorem dX9_seekFit_142 : decode cX9_seekFit 142 = .ok (.iload 4, 2) := by decide +kernel
theorem dX9_seekFit_144 : decode cX9_seekFit 144 = .ok (.iload_n 3, 1) := by decide +kernel
theorem dX9_seekFit_145 : decode cX9_seekFit 145 = .ok (.invokevirtual 366, 3) := by decide +kernel
theorem dX9_seekFit_148 : decode cX9_seekFit 148 = .ok (.i2l, 1) := by decide +kernel
theorem dX9_seekFit_149 : decode cX9_seekFit 149 = .ok (.aload_n 0, 1) := by decide +kernel
theorem dX9_seekFit_150 : decode cX9_seekFit 150 = .ok (.getfield 46, 3) := by decide +kernel
theorem dX9_seekFit_153 : decode cX9_seekFit 153 = .ok (.iload 4, 2) := by decide +kernel
theorem dX9_seekFit_155 : decode cX9_seekFit 155 = .ok (.iaload, 1) := by decide +kernel
theorem dX9_seekFit_156 : decode cX9_seekFit 156 = .ok (.i2l, 1) := by decide +kernel
theorem dX9_seekFit_157 : decode cX9_seekFit 157 = .ok (.lmul, 1) := by decide +kernel
theorem dX9_seekFit_158 : decode cX9_seekFit 158 = .ok (.goto 4, 3) := by decide +kernel
theorem dX9_seekFit_161 : decode cX9_seekFit 161 = .ok (.lconst 0, 1) := by decide +kernel
theorem dX9_seekFit_162 : decode cX9_seekFit 162 = .ok (.ladd, 1) := by decide +kernel
theorem dX9_seekFit_163 : decode cX9_seekFit 163 = .ok (.lastore, 1) := by decide +kernel
theorem dX9_seekFit_164 : decode cX9_seekFit 164 = .ok (.iinc 4 1, 3) := by decide +kernel
theorem dX9_seekFit_167 : decode cX9_seekFit 167 = .ok (.goto (-52), 3) := by decide +kernel
theorem dX9_seekFit_170 : decode cX9_seekFit 170 = .ok (.iinc 3 1, 3) := by decide +kernel
theorem dX9_seekFit_173 : decode cX9_seekFit 173 = .ok (.goto (-171), 3) := by decide +kernel
theorem dX9_seekFit_176 : decode cX9_seekFit 176 = .ok (.iload_n 1, 1) := by decide +kernel
theorem dX9_seekFit_177 : decode cX9_seekFit 177 = .ok (.iconst 2, 1) := by decide +kernel
theorem dX9_seekFit_178 : decode cX9_seekFit 178 = .ok (.iadd, 1) := by decide +kernel
theorem dX9_seekFit_179 : decode cX9_seekFit 179 = .ok (.istore_n 3, 1) := by decide +kernel
theorem dX9_seekFit_180 : decode cX9_seekFit 180 = .ok (.aload_n 0, 1) := by decide +kernel
theorem dX9_seekFit_181 : decode cX9_seekFit 181 = .ok (.aload_n 0, 1) := by decide +kernel
theorem dX9_seekFit_182 : decode cX9_seekFit 182 = .ok (.iload_n 3, 1) := by decide +kernel
theorem dX9_seekFit_183 : decode cX9_seekFit 183 = .ok (.iconst (-1), 1) := by decide +kernel
theorem dX9_seekFit_184 : decode cX9_seekFit 184 = .ok (.invokevirtual 369, 3) := by decide +kernel
theorem dX9_seekFit_187 : decode cX9_seekFit 187 = .ok (.putfield 373, 3) := by decide +kernel
theorem dX9_seekFit_190 : decode cX9_seekFit 190 = .ok (.iconst 0, 1) := by decide +kernel
theorem dX9_seekFit_191 : decode cX9_seekFit 191 = .ok (.istore 4, 2) := by decide +kernel
theorem dX9_seekFit_193 : decode cX9_seekFit 193 = .ok (.iload 4, 2) := by decide +kernel
theorem dX9_seekFit_195 : decode cX9_seekFit 195 = .ok (.iload_n 3, 1) := by decide +kernel
theorem dX9_seekFit_196 : decode cX9_seekFit 196 = .ok (.if_icmp .ge 23, 3) := by decide +kernel
theorem dX9_seekFit_199 : decode cX9_seekFit 199 = .ok (.aload_n 0, 1) := by decide +kernel
theorem dX9_seekFit_200 : decode cX9_seekFit 200 = .ok (.getfield 64, 3) := by decide +kernel
theorem dX9_seekFit_203 : decode cX9_seekFit 203 = .ok (.iload 4, 2) := by decide +kernel
theorem dX9_seekFit_205 : decode cX9_seekFit 205 = .ok (.aload_n 0, 1) := by decide +kernel
theorem dX9_seekFit_206 : decode cX9_seekFit 206 = .ok (.iload_n 3, 1) := by decide +kernel
theorem dX9_seekFit_207 : decode cX9_seekFit 207 = .ok (.iload 4, 2) := by decide +kernel
theorem dX9_seekFit_209 : decode cX9_seekFit 209 = .ok (.invokevirtual 369, 3) := by decide +kernel
theorem dX9_seekFit_212 : decode cX9_seekFit 212 = .ok (.lastore, 1) := by decide +kernel
theorem dX9_seekFit_213 : decode cX9_seekFit 213 = .ok (.iinc 4 1, 3) := by decide +kernel
theorem dX9_seekFit_216 : decode cX9_seekFit 216 = .ok (.goto (-23), 3) := by decide +kernel
theorem dX9_seekFit_219 : decode cX9_seekFit 219 = .ok (.return_, 1) := by decide +kernel
theorem dX9_offOf_0 : decode cX9_offOf 0 = .ok (.aload_n 0, 1) := by decide +kernel
theorem dX9_offOf_1 : decode cX9_offOf 1 = .ok (.getfield 46, 3) := by decide +kernel
theorem dX9_offOf_4 : decode cX9_offOf 4 = .ok (.iload_n 1, 1) := by decide +kernel
theorem dX9_offOf_5 : decode cX9_offOf 5 = .ok (.iaload, 1) := by decide +kernel
theorem dX9_offOf_6 : decode cX9_offOf 6 = .ok (.i2l, 1) := by decide +kernel
theorem dX9_offOf_7 : decode cX9_offOf 7 = .ok (.aload_n 0, 1) := by decide +kernel
theorem dX9_offOf_8 : decode cX9_offOf 8 = .ok (.getfield 373, 3) := by decide +kernel
theorem dX9_offOf_11 : decode cX9_offOf 11 = .ok (.lmul, 1) := by decide +kernel
theorem dX9_offOf_12 : decode cX9_offOf 12 = .ok (.lstore_n 2, 1) := by decide +kernel
theorem dX9_offOf_13 : decode cX9_offOf 13 = .ok (.iconst 0, 1) := by decide +kernel
theorem dX9_offOf_14 : decode cX9_offOf 14 = .ok (.istore 4, 2) := by decide +kernel
theorem dX9_offOf_16 : decode cX9_offOf 16 = .ok (.iload 4, 2) := by decide +kernel
theorem dX9_offOf_18 : decode cX9_offOf 18 = .ok (.iconst 4, 1) := by decide +kernel
theorem dX9_offOf_19 : decode cX9_offOf 19 = .ok (.if_icmp .ge 28, 3) := by decide +kernel
theorem dX9_offOf_22 : decode cX9_offOf 22 = .ok (.lload_n 2, 1) := by decide +kernel
theorem dX9_offOf_23 : decode cX9_offOf 23 = .ok (.aload_n 0, 1) := by decide +kernel
theorem dX9_offOf_24 : decode cX9_offOf 24 = .ok (.iload_n 1, 1) := by decide +kernel
theorem dX9_offOf_25 : decode cX9_offOf 25 = .ok (.iload 4, 2) := by decide +kernel
theorem dX9_offOf_27 : decode cX9_offOf 27 = .ok (.invokevirtual 366, 3) := by decide +kernel
theorem dX9_offOf_30 : decode cX9_offOf 30 = .ok (.i2l, 1) := by decide +kernel
theorem dX9_offOf_31 : decode cX9_offOf 31 = .ok (.aload_n 0, 1) := by decide +kernel
theorem dX9_offOf_32 : decode cX9_offOf 32 = .ok (.getfield 64, 3) := by decide +kernel
theorem dX9_offOf_35 : decode cX9_offOf 35 = .ok (.iload 4, 2) := by decide +kernel
theorem dX9_offOf_37 : decode cX9_offOf 37 = .ok (.laload, 1) := by decide +kernel
theorem dX9_offOf_38 : decode cX9_offOf 38 = .ok (.lmul, 1) := by decide +kernel
theorem dX9_offOf_39 : decode cX9_offOf 39 = .ok (.lsub, 1) := by decide +kernel
theorem dX9_offOf_40 : decode cX9_offOf 40 = .ok (.lstore_n 2, 1) := by decide +kernel
theorem dX9_offOf_41 : decode cX9_offOf 41 = .ok (.iinc 4 1, 3) := by decide +kernel
theorem dX9_offOf_44 : decode cX9_offOf 44 = .ok (.goto (-28), 3) := by decide +kernel
theorem dX9_offOf_47 : decode cX9_offOf 47 = .ok (.lload_n 2, 1) := by decide +kernel
theorem dX9_offOf_48 : decode cX9_offOf 48 = .ok (.lconst 0, 1) := by decide +kernel
theorem dX9_offOf_49 : decode cX9_offOf 49 = .ok (.lcmp, 1) := by decide +kernel
theorem dX9_offOf_50 : decode cX9_offOf 50 = .ok (.ifCond .ge 8, 3) := by decide +kernel
theorem dX9_offOf_53 : decode cX9_offOf 53 = .ok (.lload_n 2, 1) := by decide +kernel
theorem dX9_offOf_54 : decode cX9_offOf 54 = .ok (.lneg, 1) := by decide +kernel
theorem dX9_offOf_55 : decode cX9_offOf 55 = .ok (.goto 4, 3) := by decide +kernel
theorem dX9_offOf_58 : decode cX9_offOf 58 = .ok (.lload_n 2, 1) := by decide +kernel
theorem dX9_offOf_59 : decode cX9_offOf 59 = .ok (.lreturn, 1) := by decide +kernel
theorem dX9_fit_0 : decode cX9_fit 0 = .ok (.iload_n 1, 1) := by decide +kernel
theorem dX9_fit_1 : decode cX9_fit 1 = .ok (.ifCond .lt 24, 3) := by decide +kernel
theorem dX9_fit_4 : decode cX9_fit 4 = .ok (.iload_n 1, 1) := by decide +kernel
theorem dX9_fit_5 : decode cX9_fit 5 = .ok (.iconst 2, 1) := by decide +kernel
theorem dX9_fit_6 : decode cX9_fit 6 = .ok (.if_icmp .gt 19, 3) := by decide +kernel
theorem dX9_fit_9 : decode cX9_fit 9 = .ok (.iload_n 2, 1) := by decide +kernel
theorem dX9_fit_10 : decode cX9_fit 10 = .ok (.ifCond .lt 15, 3) := by decide +kernel
theorem dX9_fit_13 : decode cX9_fit 13 = .ok (.iload_n 2, 1) := by decide +kernel
theorem dX9_fit_14 : decode cX9_fit 14 = .ok (.iconst 4, 1) := by decide +kernel
theorem dX9_fit_15 : decode cX9_fit 15 = .ok (.if_icmp .gt 10, 3) := by decide +kernel
theorem dX9_fit_18 : decode cX9_fit 18 = .ok (.iload_n 3, 1) := by decide +kernel
theorem dX9_fit_19 : decode cX9_fit 19 = .ok (.invokestatic 327, 3) := by decide +kernel
theorem dX9_fit_22 : decode cX9_fit 22 = .ok (.ifCond .ne 7, 3) := by decide +kernel
theorem dX9_fit_25 : decode cX9_fit 25 = .ok (.ldc2_w 330, 3) := by decide +kernel
theorem dX9_fit_28 : decode cX9_fit 28 = .ok (.lreturn, 1) := by decide +kernel
theorem dX9_fit_29 : decode cX9_fit 29 = .ok (.aload_n 0, 1) := by decide +kernel
theorem dX9_fit_30 : decode cX9_fit 30 = .ok (.iload_n 1, 1) := by decide +kernel
theorem dX9_fit_31 : decode cX9_fit 31 = .ok (.iload 4, 2) := by decide +kernel
theorem dX9_fit_33 : decode cX9_fit 33 = .ok (.invokevirtual 376, 3) := by decide +kernel
theorem dX9_fit_36 : decode cX9_fit 36 = .ok (.aload_n 0, 1) := by decide +kernel
theorem dX9_fit_37 : decode cX9_fit 37 = .ok (.getfield 373, 3) := by decide +kernel
theorem dX9_fit_40 : decode cX9_fit 40 = .ok (.lconst 0, 1) := by decide +kernel
theorem dX9_fit_41 : decode cX9_fit 41 = .ok (.lcmp, 1) := by decide +kernel
theorem dX9_fit_42 : decode cX9_fit 42 = .ok (.ifCond .ne 7, 3) := by decide +kernel
theorem dX9_fit_45 : decode cX9_fit 45 = .ok (.ldc2_w 330, 3) := by decide +kernel
theorem dX9_fit_48 : decode cX9_fit 48 = .ok (.lreturn, 1) := by decide +kernel
theorem dX9_fit_49 : decode cX9_fit 49 = .ok (.lconst 0, 1) := by decide +kernel
theorem dX9_fit_50 : decode cX9_fit 50 = .ok (.lstore 5, 2) := by decide +kernel
theorem dX9_fit_52 : decode cX9_fit 52 = .ok (.iconst 0, 1) := by decide +kernel
theorem dX9_fit_53 : decode cX9_fit 53 = .ok (.istore 7, 2) := by decide +kernel
theorem dX9_fit_55 : decode cX9_fit 55 = .ok (.iload 7, 2) := by decide +kernel
theorem dX9_fit_57 : decode cX9_fit 57 = .ok (.aload_n 0, 1) := by decide +kernel
theorem dX9_fit_58 : decode cX9_fit 58 = .ok (.getfield 347, 3) := by decide +kernel
theorem dX9_fit_61 : decode cX9_fit 61 = .ok (.if_icmp .ge 45, 3) := by decide +kernel
theorem dX9_fit_64 : decode cX9_fit 64 = .ok (.iload_n 2, 1) := by decide +kernel
theorem dX9_fit_65 : decode cX9_fit 65 = .ok (.iconst 4, 1) := by decide +kernel
theorem dX9_fit_66 : decode cX9_fit 66 = .ok (.if_icmp .ne 40, 3) := by decide +kernel
theorem dX9_fit_69 : decode cX9_fit 69 = .ok (.aload_n 0, 1) := by decide +kernel
theorem dX9_fit_70 : decode cX9_fit 70 = .ok (.iload 7, 2) := by decide +kernel
theorem dX9_fit_72 : decode cX9_fit 72 = .ok (.iload 4, 2) := by decide +kernel
theorem dX9_fit_74 : decode cX9_fit 74 = .ok (.invokevirtual 362, 3) := by decide +kernel
theorem dX9_fit_77 : decode cX9_fit 77 = .ok (.ifCond .eq 23, 3) := by decide +kernel
theorem dX9_fit_80 : decode cX9_fit 80 = .ok (.aload_n 0, 1) := by decide +kernel
theorem dX9_fit_81 : decode cX9_fit 81 = .ok (.iload 7, 2) := by decide +kernel
theorem dX9_fit_83 : decode cX9_fit 83 = .ok (.invokevirtual 379, 3) := by decide +kernel
theorem dX9_fit_86 : decode cX9_fit 86 = .ok (.lload 5, 2) := by decide +kernel
theorem dX9_fit_88 : decode cX9_fit 88 = .ok (.lcmp, 1) := by decide +kernel
theorem dX9_fit_89 : decode cX9_fit 89 = .ok (.ifCond .le 11, 3) := by decide +kernel
theorem dX9_fit_92 : decode cX9_fit 92 = .ok (.aload_n 0, 1) := by decide +kernel
theorem dX9_fit_93 : decode cX9_fit 93 = .ok (.iload 7, 2) := by decide +kernel
theorem dX9_fit_95 : decode cX9_fit 95 = .ok (.invokevirtual 379, 3) := by decide +kernel
theorem dX9_fit_98 : decode cX9_fit 98 = .ok (.lstore 5, 2) := by decide +kernel
theorem dX9_fit_100 : decode cX9_fit 100 = .ok (.iinc 7 1, 3) := by decide +kernel
theorem dX9_fit_103 : decode cX9_fit 103 = .ok (.goto (-48), 3) := by decide +kernel
theorem dX9_fit_106 : decode cX9_fit 106 = .ok (.aload_n 0, 1) := by decide +kernel
theorem dX9_fit_107 : decode cX9_fit 107 = .ok (.iload_n 2, 1) := by decide +kernel
theorem dX9_fit_108 : decode cX9_fit 108 = .ok (.iconst 4, 1) := by decide +kernel
theorem dX9_fit_109 : decode cX9_fit 109 = .ok (.if_icmp .ne 8, 3) := by decide +kernel
theorem dX9_fit_112 : decode cX9_fit 112 = .ok (.lload 5, 2) := by decide +kernel
theorem dX9_fit_114 : decode cX9_fit 114 = .ok (.goto 9, 3) := by decide +kernel
theorem dX9_fit_117 : decode cX9_fit 117 = .ok (.aload_n 0, 1) := by decide +kernel
theorem dX9_fit_118 : decode cX9_fit 118 = .ok (.getfield 64, 3) := by decide +kernel
theorem dX9_fit_121 : decode cX9_fit 121 = .ok (.iload_n 2, 1) := by decide +kernel
theorem dX9_fit_122 : decode cX9_fit 122 = .ok (.laload, 1) := by decide +kernel
theorem dX9_fit_123 : decode cX9_fit 123 = .ok (.iload_n 2, 1) := by decide +kernel
theorem dX9_fit_124 : decode cX9_fit 124 = .ok (.iconst 4, 1) := by decide +kernel
theorem dX9_fit_125 : decode cX9_fit 125 = .ok (.if_icmp .ne 20, 3) := by decide +kernel
theorem dX9_fit_128 : decode cX9_fit 128 = .ok (.aload_n 0, 1) := by decide +kernel
theorem dX9_fit_129 : decode cX9_fit 129 = .ok (.getfield 373, 3) := by decide +kernel
theorem dX9_fit_132 : decode cX9_fit 132 = .ok (.lconst 0, 1) := by decide +kernel
theorem dX9_fit_133 : decode cX9_fit 133 = .ok (.lcmp, 1) := by decide +kernel
theorem dX9_fit_134 : decode cX9_fit 134 = .ok (.ifCond .ge 11, 3) := by decide +kernel
theorem dX9_fit_137 : decode cX9_fit 137 = .ok (.aload_n 0, 1) := by decide +kernel
theorem dX9_fit_138 : decode cX9_fit 138 = .ok (.getfield 373, 3) := by decide +kernel
theorem dX9_fit_141 : decode cX9_fit 141 = .ok (.lneg, 1) := by decide +kernel
theorem dX9_fit_142 : decode cX9_fit 142 = .ok (.goto 7, 3) := by decide +kernel
theorem dX9_fit_145 : decode cX9_fit 145 = .ok (.aload_n 0, 1) := by decide +kernel
theorem dX9_fit_146 : decode cX9_fit 146 = .ok (.getfield 373, 3) := by decide +kernel
theorem dX9_fit_149 : decode cX9_fit 149 = .ok (.invokevirtual 315, 3) := by decide +kernel
theorem dX9_fit_152 : decode cX9_fit 152 = .ok (.aload_n 0, 1) := by decide +kernel
theorem dX9_fit_153 : decode cX9_fit 153 = .ok (.iload_n 3, 1) := by decide +kernel
theorem dX9_fit_154 : decode cX9_fit 154 = .ok (.invokevirtual 336, 3) := by decide +kernel
theorem dX9_fit_157 : decode cX9_fit 157 = .ok (.lreturn, 1) := by decide +kernel
theorem dX9_world_0 : decode cX9_world 0 = .ok (.aload_n 0, 1) := by decide +kernel
theorem dX9_world_1 : decode cX9_world 1 = .ok (.iconst 1, 1) := by decide +kernel
theorem dX9_world_2 : decode cX9_world 2 = .ok (.iload_n 1, 1) := by decide +kernel
theorem dX9_world_3 : decode cX9_world 3 = .ok (.invokevirtual 376, 3) := by decide +kernel
theorem dX9_world_6 : decode cX9_world 6 = .ok (.aload_n 0, 1) := by decide +kernel
theorem dX9_world_7 : decode cX9_world 7 = .ok (.getfield 373, 3) := by decide +kernel
theorem dX9_world_10 : decode cX9_world 10 = .ok (.lconst 0, 1) := by decide +kernel
theorem dX9_world_11 : decode cX9_world 11 = .ok (.lcmp, 1) := by decide +kernel
theorem dX9_world_12 : decode cX9_world 12 = .ok (.ifCond .ne 7, 3) := by decide +kernel
theorem dX9_world_15 : decode cX9_world 15 = .ok (.ldc2_w 382, 3) := by decide +kernel
theorem dX9_world_18 : decode cX9_world 18 = .ok (.lreturn, 1) := by decide +kernel
theorem dX9_world_19 : decode cX9_world 19 = .ok (.aload_n 0, 1) := by decide +kernel
theorem dX9_world_20 : decode cX9_world 20 = .ok (.aload_n 0, 1) := by decide +kernel
theorem dX9_world_21 : decode cX9_world 21 = .ok (.getfield 64, 3) := by decide +kernel
theorem dX9_world_24 : decode cX9_world 24 = .ok (.iconst 1, 1) := by decide +kernel
theorem dX9_world_25 : decode cX9_world 25 = .ok (.laload, 1) := by decide +kernel
theorem dX9_world_26 : decode cX9_world 26 = .ok (.aload_n 0, 1) := by decide +kernel
theorem dX9_world_27 : decode cX9_world 27 = .ok (.getfield 373, 3) := by decide +kernel
theorem dX9_world_30 : decode cX9_world 30 = .ok (.invokevirtual 315, 3) := by decide +kernel
theorem dX9_world_33 : decode cX9_world 33 = .ok (.aload_n 0, 1) := by decide +kernel
theorem dX9_world_34 : decode cX9_world 34 = .ok (.getfield 307, 3) := by decide +kernel
theorem dX9_world_37 : decode cX9_world 37 = .ok (.ldc2_w 313, 3) := by decide +kernel
theorem dX9_world_40 : decode cX9_world 40 = .ok (.lmul, 1) := by decide +kernel
theorem dX9_world_41 : decode cX9_world 41 = .ok (.aload_n 0, 1) := by decide +kernel
theorem dX9_world_42 : decode cX9_world 42 = .ok (.getfield 310, 3) := by decide +kernel
theorem dX9_world_45 : decode cX9_world 45 = .ok (.invokestatic 340, 3) := by decide +kernel
theorem dX9_world_48 : decode cX9_world 48 = .ok (.lstore_n 2, 1) := by decide +kernel
theorem dX9_world_49 : decode cX9_world 49 = .ok (.lload_n 2, 1) := by decide +kernel
theorem dX9_world_50 : decode cX9_world 50 = .ok (.lconst 0, 1) := by decide +kernel
theorem dX9_world_51 : decode cX9_world 51 = .ok (.lcmp, 1) := by decide +kernel
theorem dX9_world_52 : decode cX9_world 52 = .ok (.ifCond .gt 7, 3) := by decide +kernel
theorem dX9_world_55 : decode cX9_world 55 = .ok (.ldc2_w 382, 3) := by decide +kernel
theorem dX9_world_58 : decode cX9_world 58 = .ok (.lreturn, 1) := by decide +kernel
theorem dX9_world_59 : decode cX9_world 59 = .ok (.aload_n 0, 1) := by decide +kernel
theorem dX9_world_60 : decode cX9_world 60 = .ok (.invokevirtual 319, 3) := by decide +kernel
theorem dX9_world_63 : decode cX9_world 63 = .ok (.aload_n 0, 1) := by decide +kernel
theorem dX9_world_64 : decode cX9_world 64 = .ok (.getfield 307, 3) := by decide +kernel
theorem dX9_world_67 : decode cX9_world 67 = .ok (.ldc2_w 384, 3) := by decide +kernel
theorem dX9_world_70 : decode cX9_world 70 = .ok (.lmul, 1) := by decide +kernel
theorem dX9_world_71 : decode cX9_world 71 = .ok (.aload_n 0, 1) := by decide +kernel
theorem dX9_world_72 : decode cX9_world 72 = .ok (.getfield 310, 3) := by decide +kernel
theorem dX9_world_75 : decode cX9_world 75 = .ok (.lload_n 2, 1) := by decide +kernel
theorem dX9_world_76 : decode cX9_world 76 = .ok (.lmul, 1) := by decide +kernel
theorem dX9_world_77 : decode cX9_world 77 = .ok (.invokestatic 340, 3) := by decide +kernel
theorem dX9_world_80 : decode cX9_world 80 = .ok (.lreturn, 1) := by decide +kernel
theorem dX9_sized_0 : decode cX9_sized 0 = .ok (.lload_n 0, 1) := by decide +kernel
theorem dX9_sized_1 : decode cX9_sized 1 = .ok (.lconst 0, 1) := by decide +kernel
theorem dX9_sized_2 : decode cX9_sized 2 = .ok (.lcmp, 1) := by decide +kernel
theorem dX9_sized_3 : decode cX9_sized 3 = .ok (.ifCond .ge 8, 3) := by decide +kernel
theorem dX9_sized_6 : decode cX9_sized 6 = .ok (.lload_n 0, 1) := by decide +kernel
theorem dX9_sized_7 : decode cX9_sized 7 = .ok (.lneg, 1) := by decide +kernel
theorem dX9_sized_8 : decode cX9_sized 8 = .ok (.goto 4, 3) := by decide +kernel
theorem dX9_sized_11 : decode cX9_sized 11 = .ok (.lload_n 0, 1) := by decide +kernel
theorem dX9_sized_12 : decode cX9_sized 12 = .ok (.lreturn, 1) := by decide +kernel
theorem dX9_ones_0 : decode cX9_ones 0 = .ok (.iconst 0, 1) := by decide +kernel
theorem dX9_ones_1 : decode cX9_ones 1 = .ok (.istore_n 1, 1) := by decide +kernel
theorem dX9_ones_2 : decode cX9_ones 2 = .ok (.iconst 0, 1) := by decide +kernel
theorem dX9_ones_3 : decode cX9_ones 3 = .ok (.istore_n 2, 1) := by decide +kernel
theorem dX9_ones_4 : decode cX9_ones 4 = .ok (.iload_n 2, 1) := by decide +kernel
theorem dX9_ones_5 : decode cX9_ones 5 = .ok (.bipush 16, 2) := by decide +kernel
theorem dX9_ones_7 : decode cX9_ones 7 = .ok (.if_icmp .ge 17, 3) := by decide +kernel
theorem dX9_ones_10 : decode cX9_ones 10 = .ok (.iload_n 1, 1) := by decide +kernel
theorem dX9_ones_11 : decode cX9_ones 11 = .ok (.iload_n 0, 1) := by decide +kernel
theorem dX9_ones_12 : decode cX9_ones 12 = .ok (.iload_n 2, 1) := by decide +kernel
theorem dX9_ones_13 : decode cX9_ones 13 = .ok (.ishr, 1) := by decide +kernel
theorem dX9_ones_14 : decode cX9_ones 14 = .ok (.iconst 1, 1) := by decide +kernel
theorem dX9_ones_15 : decode cX9_ones 15 = .ok (.iand, 1) := by decide +kernel
theorem dX9_ones_16 : decode cX9_ones 16 = .ok (.iadd, 1) := by decide +kernel
theorem dX9_ones_17 : decode cX9_ones 17 = .ok (.istore_n 1, 1) := by decide +kernel
theorem dX9_ones_18 : decode cX9_ones 18 = .ok (.iinc 2 1, 3) := by decide +kernel
theorem dX9_ones_21 : decode cX9_ones 21 = .ok (.goto (-17), 3) := by decide +kernel
theorem dX9_ones_24 : decode cX9_ones 24 = .ok (.iload_n 1, 1) := by decide +kernel
theorem dX9_ones_25 : decode cX9_ones 25 = .ok (.ireturn, 1) := by decide +kernel
theorem dX9_weigh_0 : decode cX9_weigh 0 = .ok (.iconst 0, 1) := by decide +kernel
theorem dX9_weigh_1 : decode cX9_weigh 1 = .ok (.istore_n 3, 1) := by decide +kernel
theorem dX9_weigh_2 : decode cX9_weigh 2 = .ok (.iload_n 3, 1) := by decide +kernel
theorem dX9_weigh_3 : decode cX9_weigh 3 = .ok (.iconst 3, 1) := by decide +kernel
theorem dX9_weigh_4 : decode cX9_weigh 4 = .ok (.if_icmp .ge 16, 3) := by decide +kernel
theorem dX9_weigh_7 : decode cX9_weigh 7 = .ok (.aload_n 0, 1) := by decide +kernel
theorem dX9_weigh_8 : decode cX9_weigh 8 = .ok (.getfield 70, 3) := by decide +kernel
theorem dX9_weigh_11 : decode cX9_weigh 11 = .ok (.iload_n 3, 1) := by decide +kernel
theorem dX9_weigh_12 : decode cX9_weigh 12 = .ok (.lconst 0, 1) := by decide +kernel
theorem dX9_weigh_13 : decode cX9_weigh 13 = .ok (.lastore, 1) := by decide +kernel
theorem dX9_weigh_14 : decode cX9_weigh 14 = .ok (.iinc 3 1, 3) := by decide +kernel
theorem dX9_weigh_17 : decode cX9_weigh 17 = .ok (.goto (-15), 3) := by decide +kernel
theorem dX9_weigh_20 : decode cX9_weigh 20 = .ok (.iconst 0, 1) := by decide +kernel
theorem dX9_weigh_21 : decode cX9_weigh 21 = .ok (.istore_n 3, 1) := by decide +kernel
theorem dX9_weigh_22 : decode cX9_weigh 22 = .ok (.iload_n 3, 1) := by decide +kernel
theorem dX9_weigh_23 : decode cX9_weigh 23 = .ok (.iload_n 2, 1) := by decide +kernel
theorem dX9_weigh_24 : decode cX9_weigh 24 = .ok (.if_icmp .ge 78, 3) := by decide +kernel
theorem dX9_weigh_27 : decode cX9_weigh 27 = .ok (.iload_n 1, 1) := by decide +kernel
theorem dX9_weigh_28 : decode cX9_weigh 28 = .ok (.iload_n 3, 1) := by decide +kernel
theorem dX9_weigh_29 : decode cX9_weigh 29 = .ok (.ishr, 1) := by decide +kernel
theorem dX9_weigh_30 : decode cX9_weigh 30 = .ok (.iconst 1, 1) := by decide +kernel
theorem dX9_weigh_31 : decode cX9_weigh 31 = .ok (.iand, 1) := by decide +kernel
theorem dX9_weigh_32 : decode cX9_weigh 32 = .ok (.iconst 1, 1) := by decide +kernel
theorem dX9_weigh_33 : decode cX9_weigh 33 = .ok (.if_icmp .ne 7, 3) := by decide +kernel
theorem dX9_weigh_36 : decode cX9_weigh 36 = .ok (.lconst 1, 1) := by decide +kernel
theorem dX9_weigh_37 : decode cX9_weigh 37 = .ok (.goto 6, 3) := by decide +kernel
theorem dX9_weigh_40 : decode cX9_weigh 40 = .ok (.ldc2_w 382, 3) := by decide +kernel
theorem dX9_weigh_43 : decode cX9_weigh 43 = .ok (.lstore 4, 2) := by decide +kernel
theorem dX9_weigh_45 : decode cX9_weigh 45 = .ok (.aload_n 0, 1) := by decide +kernel
theorem dX9_weigh_46 : decode cX9_weigh 46 = .ok (.getfield 70, 3) := by decide +kernel
theorem dX9_weigh_49 : decode cX9_weigh 49 = .ok (.iconst 0, 1) := by decide +kernel
theorem dX9_weigh_50 : decode cX9_weigh 50 = .ok (.dup2, 1) := by decide +kernel
theorem dX9_weigh_51 : decode cX9_weigh 51 = .ok (.laload, 1) := by decide +kernel
theorem dX9_weigh_52 : decode cX9_weigh 52 = .ok (.lload 4, 2) := by decide +kernel
theorem dX9_weigh_54 : decode cX9_weigh 54 = .ok (.iload_n 3, 1) := by decide +kernel
theorem dX9_weigh_55 : decode cX9_weigh 55 = .ok (.i2l, 1) := by decide +kernel
theorem dX9_weigh_56 : decode cX9_weigh 56 = .ok (.lmul, 1) := by decide +kernel
theorem dX9_weigh_57 : decode cX9_weigh 57 = .ok (.ladd, 1) := by decide +kernel
theorem dX9_weigh_58 : decode cX9_weigh 58 = .ok (.lastore, 1) := by decide +kernel
theorem dX9_weigh_59 : decode cX9_weigh 59 = .ok (.aload_n 0, 1) := by decide +kernel
theorem dX9_weigh_60 : decode cX9_weigh 60 = .ok (.getfield 70, 3) := by decide +kernel
theorem dX9_weigh_63 : decode cX9_weigh 63 = .ok (.iconst 1, 1) := by decide +kernel
theorem dX9_weigh_64 : decode cX9_weigh 64 = .ok (.dup2, 1) := by decide +kernel
theorem dX9_weigh_65 : decode cX9_weigh 65 = .ok (.laload, 1) := by decide +kernel
theorem dX9_weigh_66 : decode cX9_weigh 66 = .ok (.lload 4, 2) := by decide +kernel
theorem dX9_weigh_68 : decode cX9_weigh 68 = .ok (.iload_n 3, 1) := by decide +kernel
theorem dX9_weigh_69 : decode cX9_weigh 69 = .ok (.i2l, 1) := by decide +kernel
theorem dX9_weigh_70 : decode cX9_weigh 70 = .ok (.lmul, 1) := by decide +kernel
theorem dX9_weigh_71 : decode cX9_weigh 71 = .ok (.iload_n 3, 1) := by decide +kernel
theorem dX9_weigh_72 : decode cX9_weigh 72 = .ok (.i2l, 1) := by decide +kernel
theorem dX9_weigh_73 : decode cX9_weigh 73 = .ok (.lmul, 1) := by decide +kernel
theorem dX9_weigh_74 : decode cX9_weigh 74 = .ok (.ladd, 1) := by decide +kernel
theorem dX9_weigh_75 : decode cX9_weigh 75 = .ok (.lastore, 1) := by decide +kernel
theorem dX9_weigh_76 : decode cX9_weigh 76 = .ok (.aload_n 0, 1) := by decide +kernel
theorem dX9_weigh_77 : decode cX9_weigh 77 = .ok (.getfield 70, 3) := by decide +kernel
theorem dX9_weigh_80 : decode cX9_weigh 80 = .ok (.iconst 2, 1) := by decide +kernel
theorem dX9_weigh_81 : decode cX9_weigh 81 = .ok (.dup2, 1) := by decide +kernel
theorem dX9_weigh_82 : decode cX9_weigh 82 = .ok (.laload, 1) := by decide +kernel
theorem dX9_weigh_83 : decode cX9_weigh 83 = .ok (.lload 4, 2) := by decide +kernel
theorem dX9_weigh_85 : decode cX9_weigh 85 = .ok (.iload_n 3, 1) := by decide +kernel
theorem dX9_weigh_86 : decode cX9_weigh 86 = .ok (.i2l, 1) := by decide +kernel
theorem dX9_weigh_87 : decode cX9_weigh 87 = .ok (.lmul, 1) := by decide +kernel
theorem dX9_weigh_88 : decode cX9_weigh 88 = .ok (.iload_n 3, 1) := by decide +kernel
theorem dX9_weigh_89 : decode cX9_weigh 89 = .ok (.i2l, 1) := by decide +kernel
theorem dX9_weigh_90 : decode cX9_weigh 90 = .ok (.lmul, 1) := by decide +kernel
theorem dX9_weigh_91 : decode cX9_weigh 91 = .ok (.iload_n 3, 1) := by decide +kernel
theorem dX9_weigh_92 : decode cX9_weigh 92 = .ok (.i2l, 1) := by decide +kernel
theorem dX9_weigh_93 : decode cX9_weigh 93 = .ok (.lmul, 1) := by decide +kernel
theorem dX9_weigh_94 : decode cX9_weigh 94 = .ok (.ladd, 1) := by decide +kernel
theorem dX9_weigh_95 : decode cX9_weigh 95 = .ok (.lastore, 1) := by decide +kernel
theorem dX9_weigh_96 : decode cX9_weigh 96 = .ok (.iinc 3 1, 3) := by decide +kernel
theorem dX9_weigh_99 : decode cX9_weigh 99 = .ok (.goto (-77), 3) := by decide +kernel
theorem dX9_weigh_102 : decode cX9_weigh 102 = .ok (.iconst 0, 1) := by decide +kernel
theorem dX9_weigh_103 : decode cX9_weigh 103 = .ok (.istore_n 3, 1) := by decide +kernel
theorem dX9_weigh_104 : decode cX9_weigh 104 = .ok (.iload_n 3, 1) := by decide +kernel
theorem dX9_weigh_105 : decode cX9_weigh 105 = .ok (.iconst 3, 1) := by decide +kernel
theorem dX9_weigh_106 : decode cX9_weigh 106 = .ok (.if_icmp .ge 24, 3) := by decide +kernel
theorem dX9_weigh_109 : decode cX9_weigh 109 = .ok (.aload_n 0, 1) := by decide +kernel
theorem dX9_weigh_110 : decode cX9_weigh 110 = .ok (.getfield 70, 3) := by decide +kernel
theorem dX9_weigh_113 : decode cX9_weigh 113 = .ok (.iload_n 3, 1) := by decide +kernel
theorem dX9_weigh_114 : decode cX9_weigh 114 = .ok (.aload_n 0, 1) := by decide +kernel
theorem dX9_weigh_115 : decode cX9_weigh 115 = .ok (.getfield 70, 3) := by decide +kernel
theorem dX9_weigh_118 : decode cX9_weigh 118 = .ok (.iload_n 3, 1) := by decide +kernel
theorem dX9_weigh_119 : decode cX9_weigh 119 = .ok (.laload, 1) := by decide +kernel
theorem dX9_weigh_120 : decode cX9_weigh 120 = .ok (.invokestatic 386, 3) := by decide +kernel
theorem dX9_weigh_123 : decode cX9_weigh 123 = .ok (.lastore, 1) := by decide +kernel
theorem dX9_weigh_124 : decode cX9_weigh 124 = .ok (.iinc 3 1, 3) := by decide +kernel
theorem dX9_weigh_127 : decode cX9_weigh 127 = .ok (.goto (-23), 3) := by decide +kernel
theorem dX9_weigh_130 : decode cX9_weigh 130 = .ok (.return_, 1) := by decide +kernel
theorem dX9_isLess_0 : decode cX9_isLess 0 = .ok (.iconst 0, 1) := by decide +kernel
theorem dX9_isLess_1 : decode cX9_isLess 1 = .ok (.istore_n 1, 1) := by decide +kernel
theorem dX9_isLess_2 : decode cX9_isLess 2 = .ok (.iload_n 1, 1) := by decide +kernel
theorem dX9_isLess_3 : decode cX9_isLess 3 = .ok (.iconst 3, 1) := by decide +kernel
theorem dX9_isLess_4 : decode cX9_isLess 4 = .ok (.if_icmp .ge 47, 3) := by decide +kernel
theorem dX9_isLess_7 : decode cX9_isLess 7 = .ok (.aload_n 0, 1) := by decide +kernel
theorem dX9_isLess_8 : decode cX9_isLess 8 = .ok (.getfield 70, 3) := by decide +kernel
theorem dX9_isLess_11 : decode cX9_isLess 11 = .ok (.iload_n 1, 1) := by decide +kernel
theorem dX9_isLess_12 : decode cX9_isLess 12 = .ok (.laload, 1) := by decide +kernel
theorem dX9_isLess_13 : decode cX9_isLess 13 = .ok (.aload_n 0, 1) := by decide +kernel
theorem dX9_isLess_14 : decode cX9_isLess 14 = .ok (.getfield 67, 3) := by decide +kernel
theorem dX9_isLess_17 : decode cX9_isLess 17 = .ok (.iload_n 1, 1) := by decide +kernel
theorem dX9_isLess_18 : decode cX9_isLess 18 = .ok (.laload, 1) := by decide +kernel
theorem dX9_isLess_19 : decode cX9_isLess 19 = .ok (.lcmp, 1) := by decide +kernel
theorem dX9_isLess_20 : decode cX9_isLess 20 = .ok (.ifCond .eq 25, 3) := by decide +kernel
theorem dX9_isLess_23 : decode cX9_isLess 23 = .ok (.aload_n 0, 1) := by decide +kernel
theorem dX9_isLess_24 : decode cX9_isLess 24 = .ok (.getfield 70, 3) := by decide +kernel
theorem dX9_isLess_27 : decode cX9_isLess 27 = .ok (.iload_n 1, 1) := by decide +kernel
theorem dX9_isLess_28 : decode cX9_isLess 28 = .ok (.laload, 1) := by decide +kernel
theorem dX9_isLess_29 : decode cX9_isLess 29 = .ok (.aload_n 0, 1) := by decide +kernel
theorem dX9_isLess_30 : decode cX9_isLess 30 = .ok (.getfield 67, 3) := by decide +kernel
theorem dX9_isLess_33 : decode cX9_isLess 33 = .ok (.iload_n 1, 1) := by decide +kernel
theorem dX9_isLess_34 : decode cX9_isLess 34 = .ok (.laload, 1) := by decide +kernel
theorem dX9_isLess_35 : decode cX9_isLess 35 = .ok (.lcmp, 1) := by decide +kernel
theorem dX9_isLess_36 : decode cX9_isLess 36 = .ok (.ifCond .ge 7, 3) := by decide +kernel
theorem dX9_isLess_39 : decode cX9_isLess 39 = .ok (.iconst 1, 1) := by decide +kernel
theorem dX9_isLess_40 : decode cX9_isLess 40 = .ok (.goto 4, 3) := by decide +kernel
theorem dX9_isLess_43 : decode cX9_isLess 43 = .ok (.iconst 0, 1) := by decide +kernel
theorem dX9_isLess_44 : decode cX9_isLess 44 = .ok (.ireturn, 1) := by decide +kernel
theorem dX9_isLess_45 : decode cX9_isLess 45 = .ok (.iinc 1 1, 3) := by decide +kernel
theorem dX9_isLess_48 : decode cX9_isLess 48 = .ok (.goto (-46), 3) := by decide +kernel
theorem dX9_isLess_51 : decode cX9_isLess 51 = .ok (.iconst 0, 1) := by decide +kernel
theorem dX9_isLess_52 : decode cX9_isLess 52 = .ok (.ireturn, 1) := by decide +kernel
theorem dX9_order_0 : decode cX9_order 0 = .ok (.iload_n 1, 1) := by decide +kernel
theorem dX9_order_1 : decode cX9_order 1 = .ok (.iconst 2, 1) := by decide +kernel
theorem dX9_order_2 : decode cX9_order 2 = .ok (.if_icmp .lt 15, 3) := by decide +kernel
theorem dX9_order_5 : decode cX9_order 5 = .ok (.iload_n 1, 1) := by decide +kernel
theorem dX9_order_6 : decode cX9_order 6 = .ok (.bipush 12, 2) := by decide +kernel
theorem dX9_order_8 : decode cX9_order 8 = .ok (.if_icmp .gt 9, 3) := by decide +kernel
theorem dX9_order_11 : decode cX9_order 11 = .ok (.iload_n 1, 1) := by decide +kernel
theorem dX9_order_12 : decode cX9_order 12 = .ok (.iconst 2, 1) := by decide +kernel
theorem dX9_order_13 : decode cX9_order 13 = .ok (.irem, 1) := by decide +kernel
theorem dX9_order_14 : decode cX9_order 14 = .ok (.ifCond .eq 5, 3) := by decide +kernel
theorem dX9_order_17 : decode cX9_order 17 = .ok (.iconst (-1), 1) := by decide +kernel
theorem dX9_order_18 : decode cX9_order 18 = .ok (.ireturn, 1) := by decide +kernel
theorem dX9_order_19 : decode cX9_order 19 = .ok (.iconst (-1), 1) := by decide +kernel
theorem dX9_order_20 : decode cX9_order 20 = .ok (.istore_n 2, 1) := by decide +kernel
theorem dX9_order_21 : decode cX9_order 21 = .ok (.iconst 1, 1) := by decide +kernel
theorem dX9_order_22 : decode cX9_order 22 = .ok (.istore_n 3, 1) := by decide +kernel
theorem dX9_order_23 : decode cX9_order 23 = .ok (.iload_n 3, 1) := by decide +kernel
theorem dX9_order_24 : decode cX9_order 24 = .ok (.iconst 1, 1) := by decide +kernel
theorem dX9_order_25 : decode cX9_order 25 = .ok (.iload_n 1, 1) := by decide +kernel
theorem dX9_order_26 : decode cX9_order 26 = .ok (.ishl, 1) := by decide +kernel
theorem dX9_order_27 : decode cX9_order 27 = .ok (.if_icmp .ge 73, 3) := by decide +kernel
theorem dX9_order_30 : decode cX9_order 30 = .ok (.iload_n 3, 1) := by decide +kernel
theorem dX9_order_31 : decode cX9_order 31 = .ok (.invokestatic 390, 3) := by decide +kernel
theorem dX9_order_34 : decode cX9_order 34 = .ok (.iconst 2, 1) := by decide +kernel
theorem dX9_order_35 : decode cX9_order 35 = .ok (.imul, 1) := by decide +kernel
theorem dX9_order_36 : decode cX9_order 36 = .ok (.iload_n 1, 1) := by decide +kernel
theorem dX9_order_37 : decode cX9_order 37 = .ok (.if_icmp .eq 6, 3) := by decide +kernel
theorem dX9_order_40 : decode cX9_order 40 = .ok (.goto 54, 3) := by decide +kernel
theorem dX9_order_43 : decode cX9_order 43 = .ok (.aload_n 0, 1) := by decide +kernel
theorem dX9_order_44 : decode cX9_order 44 = .ok (.iload_n 3, 1) := by decide +kernel
theorem dX9_order_45 : decode cX9_order 45 = .ok (.iload_n 1, 1) := by decide +kernel
theorem dX9_order_46 : decode cX9_order 46 = .ok (.invokevirtual 393, 3) := by decide +kernel
theorem dX9_order_49 : decode cX9_order 49 = .ok (.iload_n 2, 1) := by decide +kernel
theorem dX9_order_50 : decode cX9_order 50 = .ok (.ifCond .lt 13, 3) := by decide +kernel
theorem dX9_order_53 : decode cX9_order 53 = .ok (.aload_n 0, 1) := by decide +kernel
theorem dX9_order_54 : decode cX9_order 54 = .ok (.invokevirtual 396, 3) := by decide +kernel
theorem dX9_order_57 : decode cX9_order 57 = .ok (.ifCond .ne 6, 3) := by decide +kernel
theorem dX9_order_60 : decode cX9_order 60 = .ok (.goto 34, 3) := by decide +kernel
theorem dX9_order_63 : decode cX9_order 63 = .ok (.iload_n 3, 1) := by decide +kernel
theorem dX9_order_64 : decode cX9_order 64 = .ok (.istore_n 2, 1) := by decide +kernel
theorem dX9_order_65 : decode cX9_order 65 = .ok (.iconst 0, 1) := by decide +kernel
theorem dX9_order_66 : decode cX9_order 66 = .ok (.istore 4, 2) := by decide +kernel
theorem dX9_order_68 : decode cX9_order 68 = .ok (.iload 4, 2) := by decide +kernel
theorem dX9_order_70 : decode cX9_order 70 = .ok (.iconst 3, 1) := by decide +kernel
theorem dX9_order_71 : decode cX9_order 71 = .ok (.if_icmp .ge 23, 3) := by decide +kernel
theorem dX9_order_74 : decode cX9_order 74 = .ok (.aload_n 0, 1) := by decide +kernel
theorem dX9_order_75 : decode cX9_order 75 = .ok (.getfield 67, 3) := by decide +kernel
theorem dX9_order_78 : decode cX9_order 78 = .ok (.iload 4, 2) := by decide +kernel
theorem dX9_order_80 : decode cX9_order 80 = .ok (.aload_n 0, 1) := by decide +kernel
theorem dX9_order_81 : decode cX9_order 81 = .ok (.getfield 70, 3) := by decide +kernel
theorem dX9_order_84 : decode cX9_order 84 = .ok (.iload 4, 2) := by decide +kernel
theorem dX9_order_86 : decode cX9_order 86 = .ok (.laload, 1) := by decide +kernel
theorem dX9_order_87 : decode cX9_order 87 = .ok (.lastore, 1) := by decide +kernel
theorem dX9_order_88 : decode cX9_order 88 = .ok (.iinc 4 1, 3) := by decide +kernel
theorem dX9_order_91 : decode cX9_order 91 = .ok (.goto (-23), 3) := by decide +kernel
theorem dX9_order_94 : decode cX9_order 94 = .ok (.iinc 3 2, 3) := by decide +kernel
theorem dX9_order_97 : decode cX9_order 97 = .ok (.goto (-74), 3) := by decide +kernel
theorem dX9_order_100 : decode cX9_order 100 = .ok (.iload_n 2, 1) := by decide +kernel
theorem dX9_order_101 : decode cX9_order 101 = .ok (.ireturn, 1) := by decide +kernel
theorem dX9_readHouse_0 : decode cX9_readHouse 0 = .ok (.aload_n 0, 1) := by decide +kernel
theorem dX9_readHouse_1 : decode cX9_readHouse 1 = .ok (.getfield 399, 3) := by decide +kernel
theorem dX9_readHouse_4 : decode cX9_readHouse 4 = .ok (.bipush 12, 2) := by decide +kernel
theorem dX9_readHouse_6 : decode cX9_readHouse 6 = .ok (.if_icmp .ne 8, 3) := by decide +kernel
theorem dX9_readHouse_9 : decode cX9_readHouse 9 = .ok (.aload_n 0, 1) := by decide +kernel
theorem dX9_readHouse_10 : decode cX9_readHouse 10 = .ok (.iconst 2, 1) := by decide +kernel
theorem dX9_readHouse_11 : decode cX9_readHouse 11 = .ok (.invokevirtual 242, 3) := by decide +kernel
theorem dX9_readHouse_14 : decode cX9_readHouse 14 = .ok (.aload_n 0, 1) := by decide +kernel
theorem dX9_readHouse_15 : decode cX9_readHouse 15 = .ok (.ldc2_w 226, 3) := by decide +kernel
theorem dX9_readHouse_18 : decode cX9_readHouse 18 = .ok (.invokevirtual 262, 3) := by decide +kernel
theorem dX9_readHouse_21 : decode cX9_readHouse 21 = .ok (.aload_n 0, 1) := by decide +kernel
theorem dX9_readHouse_22 : decode cX9_readHouse 22 = .ok (.getfield 399, 3) := by decide +kernel
theorem dX9_readHouse_25 : decode cX9_readHouse 25 = .ok (.istore_n 1, 1) := by decide +kernel
theorem dX9_readHouse_26 : decode cX9_readHouse 26 = .ok (.iconst 0, 1) := by decide +kernel
theorem dX9_readHouse_27 : decode cX9_readHouse 27 = .ok (.istore_n 2, 1) := by decide +kernel
theorem dX9_readHouse_28 : decode cX9_readHouse 28 = .ok (.iconst 0, 1) := by decide +kernel
theorem dX9_readHouse_29 : decode cX9_readHouse 29 = .ok (.istore_n 3, 1) := by decide +kernel
theorem dX9_readHouse_30 : decode cX9_readHouse 30 = .ok (.iload_n 3, 1) := by decide +kernel
theorem dX9_readHouse_31 : decode cX9_readHouse 31 = .ok (.iload_n 1, 1) := by decide +kernel
theorem dX9_readHouse_32 : decode cX9_readHouse 32 = .ok (.if_icmp .ge 41, 3) := by decide +kernel
theorem dX9_readHouse_35 : decode cX9_readHouse 35 = .ok (.iload_n 2, 1) := by decide +kernel
theorem dX9_readHouse_36 : decode cX9_readHouse 36 = .ok (.ifCond .ne 25, 3) := by decide +kernel
theorem dX9_readHouse_39 : decode cX9_readHouse 39 = .ok (.aload_n 0, 1) := by decide +kernel
theorem dX9_readHouse_40 : decode cX9_readHouse 40 = .ok (.getfield 179, 3) := by decide +kernel
theorem dX9_readHouse_43 : decode cX9_readHouse 43 = .ok (.iconst 1, 1) := by decide +kernel
theorem dX9_readHouse_44 : decode cX9_readHouse 44 = .ok (.if_icmp .ne 21, 3) := by decide +kernel
theorem dX9_readHouse_47 : decode cX9_readHouse 47 = .ok (.aload_n 0, 1) := by decide +kernel
theorem dX9_readHouse_48 : decode cX9_readHouse 48 = .ok (.getfield 73, 3) := by decide +kernel
theorem dX9_readHouse_51 : decode cX9_readHouse 51 = .ok (.iload_n 3, 1) := by decide +kernel
theorem dX9_readHouse_52 : decode cX9_readHouse 52 = .ok (.laload, 1) := by decide +kernel
theorem dX9_readHouse_53 : decode cX9_readHouse 53 = .ok (.aload_n 0, 1) := by decide +kernel
theorem dX9_readHouse_54 : decode cX9_readHouse 54 = .ok (.getfield 172, 3) := by decide +kernel
theorem dX9_readHouse_57 : decode cX9_readHouse 57 = .ok (.lcmp, 1) := by decide +kernel
theorem dX9_readHouse_58 : decode cX9_readHouse 58 = .ok (.ifCond .ne 7, 3) := by decide +kernel
theorem dX9_readHouse_61 : decode cX9_readHouse 61 = .ok (.iconst 1, 1) := by decide +kernel
theorem dX9_readHouse_62 : decode cX9_readHouse 62 = .ok (.goto 4, 3) := by decide +kernel
theorem dX9_readHouse_65 : decode cX9_readHouse 65 = .ok (.iconst 0, 1) := by decide +kernel
theorem dX9_readHouse_66 : decode cX9_readHouse 66 = .ok (.istore_n 2, 1) := by decide +kernel
theorem dX9_readHouse_67 : decode cX9_readHouse 67 = .ok (.iinc 3 1, 3) := by decide +kernel
theorem dX9_readHouse_70 : decode cX9_readHouse 70 = .ok (.goto (-40), 3) := by decide +kernel
theorem dX9_readHouse_73 : decode cX9_readHouse 73 = .ok (.aload_n 0, 1) := by decide +kernel
theorem dX9_readHouse_74 : decode cX9_readHouse 74 = .ok (.iload_n 2, 1) := by decide +kernel
theorem dX9_readHouse_75 : decode cX9_readHouse 75 = .ok (.invokevirtual 270, 3) := by decide +kernel
theorem dX9_readHouse_78 : decode cX9_readHouse 78 = .ok (.lstore_n 3, 1) := by decide +kernel
theorem dX9_readHouse_79 : decode cX9_readHouse 79 = .ok (.aload_n 0, 1) := by decide +kernel
theorem dX9_readHouse_80 : decode cX9_readHouse 80 = .ok (.ldc2_w 228, 3) := by decide +kernel
theorem dX9_readHouse_83 : decode cX9_readHouse 83 = .ok (.invokevirtual 262, 3) := by decide +kernel
theorem dX9_readHouse_86 : decode cX9_readHouse 86 = .ok (.aload_n 0, 1) := by decide +kernel
theorem dX9_readHouse_87 : decode cX9_readHouse 87 = .ok (.iconst 0, 1) := by decide +kernel
theorem dX9_readHouse_88 : decode cX9_readHouse 88 = .ok (.sipush 9999, 3) := by decide +kernel
theorem dX9_readHouse_91 : decode cX9_readHouse 91 = .ok (.invokevirtual 259, 3) := by decide +kernel
theorem dX9_readHouse_94 : decode cX9_readHouse 94 = .ok (.istore 5, 2) := by decide +kernel
theorem dX9_readHouse_96 : decode cX9_readHouse 96 = .ok (.aload_n 0, 1) := by decide +kernel
theorem dX9_readHouse_97 : decode cX9_readHouse 97 = .ok (.ldc2_w 230, 3) := by decide +kernel
theorem dX9_readHouse_100 : decode cX9_readHouse 100 = .ok (.invokevirtual 262, 3) := by decide +kernel
theorem dX9_readHouse_103 : decode cX9_readHouse 103 = .ok (.aload_n 0, 1) := by decide +kernel
theorem dX9_readHouse_104 : decode cX9_readHouse 104 = .ok (.iconst 0, 1) := by decide +kernel
theorem dX9_readHouse_105 : decode cX9_readHouse 105 = .ok (.sipush 999, 3) := by decide +kernel
theorem dX9_readHouse_108 : decode cX9_readHouse 108 = .ok (.invokevirtual 259, 3) := by decide +kernel
theorem dX9_readHouse_111 : decode cX9_readHouse 111 = .ok (.istore 6, 2) := by decide +kernel
theorem dX9_readHouse_113 : decode cX9_readHouse 113 = .ok (.aload_n 0, 1) := by decide +kernel
theorem dX9_readHouse_114 : decode cX9_readHouse 114 = .ok (.ldc2_w 206, 3) := by decide +kernel
theorem dX9_readHouse_117 : decode cX9_readHouse 117 = .ok (.invokevirtual 262, 3) := by decide +kernel
theorem dX9_readHouse_120 : decode cX9_readHouse 120 = .ok (.aload_n 0, 1) := by decide +kernel
theorem dX9_readHouse_121 : decode cX9_readHouse 121 = .ok (.iconst 0, 1) := by decide +kernel
theorem dX9_readHouse_122 : decode cX9_readHouse 122 = .ok (.invokevirtual 270, 3) := by decide +kernel
theorem dX9_readHouse_125 : decode cX9_readHouse 125 = .ok (.lstore 7, 2) := by decide +kernel
theorem dX9_readHouse_127 : decode cX9_readHouse 127 = .ok (.aload_n 0, 1) := by decide +kernel
theorem dX9_readHouse_128 : decode cX9_readHouse 128 = .ok (.ldc2_w 232, 3) := by decide +kernel
theorem dX9_readHouse_131 : decode cX9_readHouse 131 = .ok (.invokevirtual 262, 3) := by decide +kernel
theorem dX9_readHouse_134 : decode cX9_readHouse 134 = .ok (.aload_n 0, 1) := by decide +kernel
theorem dX9_readHouse_135 : decode cX9_readHouse 135 = .ok (.iconst 0, 1) := by decide +kernel
theorem dX9_readHouse_136 : decode cX9_readHouse 136 = .ok (.invokevirtual 270, 3) := by decide +kernel
theorem dX9_readHouse_139 : decode cX9_readHouse 139 = .ok (.lstore 9, 2) := by decide +kernel
theorem dX9_readHouse_141 : decode cX9_readHouse 141 = .ok (.aload_n 0, 1) := by decide +kernel
theorem dX9_readHouse_142 : decode cX9_readHouse 142 = .ok (.getfield 192, 3) := by decide +kernel
theorem dX9_readHouse_145 : decode cX9_readHouse 145 = .ok (.ifCond .ne 17, 3) := by decide +kernel
theorem dX9_readHouse_148 : decode cX9_readHouse 148 = .ok (.aload_n 0, 1) := by decide +kernel
theorem dX9_readHouse_149 : decode cX9_readHouse 149 = .ok (.getfield 179, 3) := by decide +kernel
theorem dX9_readHouse_152 : decode cX9_readHouse 152 = .ok (.bipush 59, 2) := by decide +kernel
theorem dX9_readHouse_154 : decode cX9_readHouse 154 = .ok (.if_icmp .eq 8, 3) := by decide +kernel
theorem dX9_readHouse_157 : decode cX9_readHouse 157 = .ok (.aload_n 0, 1) := by decide +kernel
theorem dX9_readHouse_158 : decode cX9_readHouse 158 = .ok (.iconst 2, 1) := by decide +kernel
theorem dX9_readHouse_159 : decode cX9_readHouse 159 = .ok (.invokevirtual 242, 3) := by decide +kernel
theorem dX9_readHouse_162 : decode cX9_readHouse 162 = .ok (.aload_n 0, 1) := by decide +kernel
theorem dX9_readHouse_163 : decode cX9_readHouse 163 = .ok (.getfield 192, 3) := by decide +kernel
theorem dX9_readHouse_166 : decode cX9_readHouse 166 = .ok (.ifCond .le 4, 3) := by decide +kernel
theorem dX9_readHouse_169 : decode cX9_readHouse 169 = .ok (.return_, 1) := by decide +kernel
theorem dX9_readHouse_170 : decode cX9_readHouse 170 = .ok (.aload_n 0, 1) := by decide +kernel
theorem dX9_readHouse_171 : decode cX9_readHouse 171 = .ok (.invokevirtual 195, 3) := by decide +kernel
theorem dX9_readHouse_174 : decode cX9_readHouse 174 = .ok (.aload_n 0, 1) := by decide +kernel
theorem dX9_readHouse_175 : decode cX9_readHouse 175 = .ok (.getfield 73, 3) := by decide +kernel
theorem dX9_readHouse_178 : decode cX9_readHouse 178 = .ok (.iload_n 1, 1) := by decide +kernel
theorem dX9_readHouse_179 : decode cX9_readHouse 179 = .ok (.lload_n 3, 1) := by decide +kernel
theorem dX9_readHouse_180 : decode cX9_readHouse 180 = .ok (.lastore, 1) := by decide +kernel
theorem dX9_readHouse_181 : decode cX9_readHouse 181 = .ok (.aload_n 0, 1) := by decide +kernel
theorem dX9_readHouse_182 : decode cX9_readHouse 182 = .ok (.getfield 88, 3) := by decide +kernel
theorem dX9_readHouse_185 : decode cX9_readHouse 185 = .ok (.iload_n 1, 1) := by decide +kernel
theorem dX9_readHouse_186 : decode cX9_readHouse 186 = .ok (.iload 5, 2) := by decide +kernel
theorem dX9_readHouse_188 : decode cX9_readHouse 188 = .ok (.iastore, 1) := by decide +kernel
theorem dX9_readHouse_189 : decode cX9_readHouse 189 = .ok (.aload_n 0, 1) := by decide +kernel
theorem dX9_readHouse_190 : decode cX9_readHouse 190 = .ok (.getfield 91, 3) := by decide +kernel
theorem dX9_readHouse_193 : decode cX9_readHouse 193 = .ok (.iload_n 1, 1) := by decide +kernel
theorem dX9_readHouse_194 : decode cX9_readHouse 194 = .ok (.iload 6, 2) := by decide +kernel
theorem dX9_readHouse_196 : decode cX9_readHouse 196 = .ok (.iastore, 1) := by decide +kernel
theorem dX9_readHouse_197 : decode cX9_readHouse 197 = .ok (.aload_n 0, 1) := by decide +kernel
theorem dX9_readHouse_198 : decode cX9_readHouse 198 = .ok (.getfield 76, 3) := by decide +kernel
theorem dX9_readHouse_201 : decode cX9_readHouse 201 = .ok (.iload_n 1, 1) := by decide +kernel
theorem dX9_readHouse_202 : decode cX9_readHouse 202 = .ok (.lload 7, 2) := by decide +kernel
theorem dX9_readHouse_204 : decode cX9_readHouse 204 = .ok (.lastore, 1) := by decide +kernel
theorem dX9_readHouse_205 : decode cX9_readHouse 205 = .ok (.aload_n 0, 1) := by decide +kernel
theorem dX9_readHouse_206 : decode cX9_readHouse 206 = .ok (.getfield 79, 3) := by decide +kernel
theorem dX9_readHouse_209 : decode cX9_readHouse 209 = .ok (.iload_n 1, 1) := by decide +kernel
theorem dX9_readHouse_210 : decode cX9_readHouse 210 = .ok (.lload 9, 2) := by decide +kernel
theorem dX9_readHouse_212 : decode cX9_readHouse 212 = .ok (.lastore, 1) := by decide +kernel
theorem dX9_readHouse_213 : decode cX9_readHouse 213 = .ok (.aload_n 0, 1) := by decide +kernel
theorem dX9_readHouse_214 : decode cX9_readHouse 214 = .ok (.dup, 1) := by decide +kernel
theorem dX9_readHouse_215 : decode cX9_readHouse 215 = .ok (.getfield 399, 3) := by decide +kernel
theorem dX9_readHouse_218 : decode cX9_readHouse 218 = .ok (.iconst 1, 1) := by decide +kernel
theorem dX9_readHouse_219 : decode cX9_readHouse 219 = .ok (.iadd, 1) := by decide +kernel
theorem dX9_readHouse_220 : decode cX9_readHouse 220 = .ok (.putfield 399, 3) := by decide +kernel
theorem dX9_readHouse_223 : decode cX9_readHouse 223 = .ok (.return_, 1) := by decide +kernel
theorem dX9_houses_0 : decode cX9_houses 0 = .ok (.aload_n 0, 1) := by decide +kernel
theorem dX9_houses_1 : decode cX9_houses 1 = .ok (.iconst 0, 1) := by decide +kernel
theorem dX9_houses_2 : decode cX9_houses 2 = .ok (.putfield 399, 3) := by decide +kernel
theorem dX9_houses_5 : decode cX9_houses 5 = .ok (.aload_n 0, 1) := by decide +kernel
theorem dX9_houses_6 : decode cX9_houses 6 = .ok (.iconst 0, 1) := by decide +kernel
theorem dX9_houses_7 : decode cX9_houses 7 = .ok (.invokevirtual 280, 3) := by decide +kernel
theorem dX9_houses_10 : decode cX9_houses 10 = .ok (.aload_n 0, 1) := by decide +kernel
theorem dX9_houses_11 : decode cX9_houses 11 = .ok (.getfield 192, 3) := by decide +kernel
theorem dX9_houses_14 : decode cX9_houses 14 = .ok (.ifCond .ne 17, 3) := by decide +kernel
theorem dX9_houses_17 : decode cX9_houses 17 = .ok (.aload_n 0, 1) := by decide +kernel
theorem dX9_houses_18 : decode cX9_houses 18 = .ok (.getfield 179, 3) := by decide +kernel
theorem dX9_houses_21 : decode cX9_houses 21 = .ok (.ifCond .eq 10, 3) := by decide +kernel
theorem dX9_houses_24 : decode cX9_houses 24 = .ok (.aload_n 0, 1) := by decide +kernel
theorem dX9_houses_25 : decode cX9_houses 25 = .ok (.invokevirtual 402, 3) := by decide +kernel
theorem dX9_houses_28 : decode cX9_houses 28 = .ok (.goto (-18), 3) := by decide +kernel
theorem dX9_houses_31 : decode cX9_houses 31 = .ok (.aload_n 0, 1) := by decide +kernel
theorem dX9_houses_32 : decode cX9_houses 32 = .ok (.getfield 192, 3) := by decide +kernel
theorem dX9_houses_35 : decode cX9_houses 35 = .ok (.ifCond .le 5, 3) := by decide +kernel
theorem dX9_houses_38 : decode cX9_houses 38 = .ok (.iconst (-1), 1) := by decide +kernel
theorem dX9_houses_39 : decode cX9_houses 39 = .ok (.ireturn, 1) := by decide +kernel
theorem dX9_houses_40 : decode cX9_houses 40 = .ok (.aload_n 0, 1) := by decide +kernel
theorem dX9_houses_41 : decode cX9_houses 41 = .ok (.aload_n 0, 1) := by decide +kernel
theorem dX9_houses_42 : decode cX9_houses 42 = .ok (.getfield 399, 3) := by decide +kernel
theorem dX9_houses_45 : decode cX9_houses 45 = .ok (.putfield 405, 3) := by decide +kernel
theorem dX9_houses_48 : decode cX9_houses 48 = .ok (.iconst 0, 1) := by decide +kernel
theorem dX9_houses_49 : decode cX9_houses 49 = .ok (.istore_n 1, 1) := by decide +kernel
theorem dX9_houses_50 : decode cX9_houses 50 = .ok (.iload_n 1, 1) := by decide +kernel
theorem dX9_houses_51 : decode cX9_houses 51 = .ok (.aload_n 0, 1) := by decide +kernel
theorem dX9_houses_52 : decode cX9_houses 52 = .ok (.getfield 405, 3) := by decide +kernel
theorem dX9_houses_55 : decode cX9_houses 55 = .ok (.if_icmp .ge 57, 3) := by decide +kernel
theorem dX9_houses_58 : decode cX9_houses 58 = .ok (.aload_n 0, 1) := by decide +kernel
theorem dX9_houses_59 : decode cX9_houses 59 = .ok (.getfield 94, 3) := by decide +kernel
theorem dX9_houses_62 : decode cX9_houses 62 = .ok (.iload_n 1, 1) := by decide +kernel
theorem dX9_houses_63 : decode cX9_houses 63 = .ok (.aload_n 0, 1) := by decide +kernel
theorem dX9_houses_64 : decode cX9_houses 64 = .ok (.getfield 88, 3) := by decide +kernel
theorem dX9_houses_67 : decode cX9_houses 67 = .ok (.iload_n 1, 1) := by decide +kernel
theorem dX9_houses_68 : decode cX9_houses 68 = .ok (.iaload, 1) := by decide +kernel
theorem dX9_houses_69 : decode cX9_houses 69 = .ok (.iastore, 1) := by decide +kernel
theorem dX9_houses_70 : decode cX9_houses 70 = .ok (.aload_n 0, 1) := by decide +kernel
theorem dX9_houses_71 : decode cX9_houses 71 = .ok (.getfield 97, 3) := by decide +kernel
theorem dX9_houses_74 : decode cX9_houses 74 = .ok (.iload_n 1, 1) := by decide +kernel
theorem dX9_houses_75 : decode cX9_houses 75 = .ok (.aload_n 0, 1) := by decide +kernel
theorem dX9_houses_76 : decode cX9_houses 76 = .ok (.getfield 91, 3) := by decide +kernel
theorem dX9_houses_79 : decode cX9_houses 79 = .ok (.iload_n 1, 1) := by decide +kernel
theorem dX9_houses_80 : decode cX9_houses 80 = .ok (.iaload, 1) := by decide +kernel
theorem dX9_houses_81 : decode cX9_houses 81 = .ok (.iastore, 1) := by decide +kernel
theorem dX9_houses_82 : decode cX9_houses 82 = .ok (.aload_n 0, 1) := by decide +kernel
theorem dX9_houses_83 : decode cX9_houses 83 = .ok (.getfield 82, 3) := by decide +kernel
theorem dX9_houses_86 : decode cX9_houses 86 = .ok (.iload_n 1, 1) := by decide +kernel
theorem dX9_houses_87 : decode cX9_houses 87 = .ok (.aload_n 0, 1) := by decide +kernel
theorem dX9_houses_88 : decode cX9_houses 88 = .ok (.getfield 76, 3) := by decide +kernel
theorem dX9_houses_91 : decode cX9_houses 91 = .ok (.iload_n 1, 1) := by decide +kernel
theorem dX9_houses_92 : decode cX9_houses 92 = .ok (.laload, 1) := by decide +kernel
theorem dX9_houses_93 : decode cX9_houses 93 = .ok (.lastore, 1) := by decide +kernel
theorem dX9_houses_94 : decode cX9_houses 94 = .ok (.aload_n 0, 1) := by decide +kernel
theorem dX9_houses_95 : decode cX9_houses 95 = .ok (.getfield 85, 3) := by decide +kernel
theorem dX9_houses_98 : decode cX9_houses 98 = .ok (.iload_n 1, 1) := by decide +kernel
theorem dX9_houses_99 : decode cX9_houses 99 = .ok (.aload_n 0, 1) := by decide +kernel
theorem dX9_houses_100 : decode cX9_houses 100 = .ok (.getfield 79, 3) := by decide +kernel
theorem dX9_houses_103 : decode cX9_houses 103 = .ok (.iload_n 1, 1) := by decide +kernel
theorem dX9_houses_104 : decode cX9_houses 104 = .ok (.laload, 1) := by decide +kernel
theorem dX9_houses_105 : decode cX9_houses 105 = .ok (.lastore, 1) := by decide +kernel
theorem dX9_houses_106 : decode cX9_houses 106 = .ok (.iinc 1 1, 3) := by decide +kernel
theorem dX9_houses_109 : decode cX9_houses 109 = .ok (.goto (-59), 3) := by decide +kernel
theorem dX9_houses_112 : decode cX9_houses 112 = .ok (.aload_n 0, 1) := by decide +kernel
theorem dX9_houses_113 : decode cX9_houses 113 = .ok (.getfield 405, 3) := by decide +kernel
theorem dX9_houses_116 : decode cX9_houses 116 = .ok (.ireturn, 1) := by decide +kernel
theorem dX9_moreOf_0 : decode cX9_moreOf 0 = .ok (.ldc_w 408, 3) := by decide +kernel
theorem dX9_moreOf_3 : decode cX9_moreOf 3 = .ok (.istore_n 2, 1) := by decide +kernel
theorem dX9_moreOf_4 : decode cX9_moreOf 4 = .ok (.ldc_w 353, 3) := by decide +kernel
theorem dX9_moreOf_7 : decode cX9_moreOf 7 = .ok (.istore_n 3, 1) := by decide +kernel
theorem dX9_moreOf_8 : decode cX9_moreOf 8 = .ok (.iconst 0, 1) := by decide +kernel
theorem dX9_moreOf_9 : decode cX9_moreOf 9 = .ok (.istore 4, 2) := by decide +kernel
theorem dX9_moreOf_11 : decode cX9_moreOf 11 = .ok (.iload 4, 2) := by decide +kernel
theorem dX9_moreOf_13 : decode cX9_moreOf 13 = .ok (.aload_n 0, 1) := by decide +kernel
theorem dX9_moreOf_14 : decode cX9_moreOf 14 = .ok (.getfield 405, 3) := by decide +kernel
theorem dX9_moreOf_17 : decode cX9_moreOf 17 = .ok (.if_icmp .ge 99, 3) := by decide +kernel
theorem dX9_moreOf_20 : decode cX9_moreOf 20 = .ok (.iload_n 1, 1) := by decide +kernel
theorem dX9_moreOf_21 : decode cX9_moreOf 21 = .ok (.iload 4, 2) := by decide +kernel
theorem dX9_moreOf_23 : decode cX9_moreOf 23 = .ok (.ishr, 1) := by decide +kernel
theorem dX9_moreOf_24 : decode cX9_moreOf 24 = .ok (.iconst 1, 1) := by decide +kernel
theorem dX9_moreOf_25 : decode cX9_moreOf 25 = .ok (.iand, 1) := by decide +kernel
theorem dX9_moreOf_26 : decode cX9_moreOf 26 = .ok (.ifCond .ne 6, 3) := by decide +kernel
theorem dX9_moreOf_29 : decode cX9_moreOf 29 = .ok (.goto 81, 3) := by decide +kernel
theorem dX9_moreOf_32 : decode cX9_moreOf 32 = .ok (.aload_n 0, 1) := by decide +kernel
theorem dX9_moreOf_33 : decode cX9_moreOf 33 = .ok (.getfield 94, 3) := by decide +kernel
theorem dX9_moreOf_36 : decode cX9_moreOf 36 = .ok (.iload 4, 2) := by decide +kernel
theorem dX9_moreOf_38 : decode cX9_moreOf 38 = .ok (.iaload, 1) := by decide +kernel
theorem dX9_moreOf_39 : decode cX9_moreOf 39 = .ok (.aload_n 0, 1) := by decide +kernel
theorem dX9_moreOf_40 : decode cX9_moreOf 40 = .ok (.getfield 97, 3) := by decide +kernel
theorem dX9_moreOf_43 : decode cX9_moreOf 43 = .ok (.iload 4, 2) := by decide +kernel
theorem dX9_moreOf_45 : decode cX9_moreOf 45 = .ok (.iaload, 1) := by decide +kernel
theorem dX9_moreOf_46 : decode cX9_moreOf 46 = .ok (.isub, 1) := by decide +kernel
theorem dX9_moreOf_47 : decode cX9_moreOf 47 = .ok (.iload_n 2, 1) := by decide +kernel
theorem dX9_moreOf_48 : decode cX9_moreOf 48 = .ok (.if_icmp .le 21, 3) := by decide +kernel
theorem dX9_moreOf_51 : decode cX9_moreOf 51 = .ok (.aload_n 0, 1) := by decide +kernel
theorem dX9_moreOf_52 : decode cX9_moreOf 52 = .ok (.getfield 94, 3) := by decide +kernel
theorem dX9_moreOf_55 : decode cX9_moreOf 55 = .ok (.iload 4, 2) := by decide +kernel
theorem dX9_moreOf_57 : decode cX9_moreOf 57 = .ok (.iaload, 1) := by decide +kernel
theorem dX9_moreOf_58 : decode cX9_moreOf 58 = .ok (.aload_n 0, 1) := by decide +kernel
theorem dX9_moreOf_59 : decode cX9_moreOf 59 = .ok (.getfield 97, 3) := by decide +kernel
theorem dX9_moreOf_62 : decode cX9_moreOf 62 = .ok (.iload 4, 2) := by decide +kernel
theorem dX9_moreOf_64 : decode cX9_moreOf 64 = .ok (.iaload, 1) := by decide +kernel
theorem dX9_moreOf_65 : decode cX9_moreOf 65 = .ok (.isub, 1) := by decide +kernel
theorem dX9_moreOf_66 : decode cX9_moreOf 66 = .ok (.goto 4, 3) := by decide +kernel
theorem dX9_moreOf_69 : decode cX9_moreOf 69 = .ok (.iload_n 2, 1) := by decide +kernel
theorem dX9_moreOf_70 : decode cX9_moreOf 70 = .ok (.istore_n 2, 1) := by decide +kernel
theorem dX9_moreOf_71 : decode cX9_moreOf 71 = .ok (.aload_n 0, 1) := by decide +kernel
theorem dX9_moreOf_72 : decode cX9_moreOf 72 = .ok (.getfield 94, 3) := by decide +kernel
theorem dX9_moreOf_75 : decode cX9_moreOf 75 = .ok (.iload 4, 2) := by decide +kernel
theorem dX9_moreOf_77 : decode cX9_moreOf 77 = .ok (.iaload, 1) := by decide +kernel
theorem dX9_moreOf_78 : decode cX9_moreOf 78 = .ok (.aload_n 0, 1) := by decide +kernel
theorem dX9_moreOf_79 : decode cX9_moreOf 79 = .ok (.getfield 97, 3) := by decide +kernel
theorem dX9_moreOf_82 : decode cX9_moreOf 82 = .ok (.iload 4, 2) := by decide +kernel
theorem dX9_moreOf_84 : decode cX9_moreOf 84 = .ok (.iaload, 1) := by decide +kernel
theorem dX9_moreOf_85 : decode cX9_moreOf 85 = .ok (.iadd, 1) := by decide +kernel
theorem dX9_moreOf_86 : decode cX9_moreOf 86 = .ok (.iload_n 3, 1) := by decide +kernel
theorem dX9_moreOf_87 : decode cX9_moreOf 87 = .ok (.if_icmp .ge 21, 3) := by decide +kernel
theorem dX9_moreOf_90 : decode cX9_moreOf 90 = .ok (.aload_n 0, 1) := by decide +kernel
theorem dX9_moreOf_91 : decode cX9_moreOf 91 = .ok (.getfield 94, 3) := by decide +kernel
theorem dX9_moreOf_94 : decode cX9_moreOf 94 = .ok (.iload 4, 2) := by decide +kernel
theorem dX9_moreOf_96 : decode cX9_moreOf 96 = .ok (.iaload, 1) := by decide +kernel
theorem dX9_moreOf_97 : decode cX9_moreOf 97 = .ok (.aload_n 0, 1) := by decide +kernel
theorem dX9_moreOf_98 : decode cX9_moreOf 98 = .ok (.getfield 97, 3) := by decide +kernel
theorem dX9_moreOf_101 : decode cX9_moreOf 101 = .ok (.iload 4, 2) := by decide +kernel
theorem dX9_moreOf_103 : decode cX9_moreOf 103 = .ok (.iaload, 1) := by decide +kernel
theorem dX9_moreOf_104 : decode cX9_moreOf 104 = .ok (.iadd, 1) := by decide +kernel
theorem dX9_moreOf_105 : decode cX9_moreOf 105 = .ok (.goto 4, 3) := by decide +kernel
theorem dX9_moreOf_108 : decode cX9_moreOf 108 = .ok (.iload_n 3, 1) := by decide +kernel
theorem dX9_moreOf_109 : decode cX9_moreOf 109 = .ok (.istore_n 3, 1) := by decide +kernel
theorem dX9_moreOf_110 : decode cX9_moreOf 110 = .ok (.iinc 4 1, 3) := by decide +kernel
theorem dX9_moreOf_113 : decode cX9_moreOf 113 = .ok (.goto (-102), 3) := by decide +kernel
theorem dX9_moreOf_116 : decode cX9_moreOf 116 = .ok (.iload_n 2, 1) := by decide +kernel
theorem dX9_moreOf_117 : decode cX9_moreOf 117 = .ok (.iload_n 3, 1) := by decide +kernel
theorem dX9_moreOf_118 : decode cX9_moreOf 118 = .ok (.if_icmp .gt 7, 3) := by decide +kernel
theorem dX9_moreOf_121 : decode cX9_moreOf 121 = .ok (.iconst 0, 1) := by decide +kernel
theorem dX9_moreOf_122 : decode cX9_moreOf 122 = .ok (.goto 10, 3) := by decide +kernel
theorem dX9_moreOf_125 : decode cX9_moreOf 125 = .ok (.iload_n 2, 1) := by decide +kernel
theorem dX9_moreOf_126 : decode cX9_moreOf 126 = .ok (.iload_n 3, 1) := by decide +kernel
theorem dX9_moreOf_127 : decode cX9_moreOf 127 = .ok (.isub, 1) := by decide +kernel
theorem dX9_moreOf_128 : decode cX9_moreOf 128 = .ok (.iconst 1, 1) := by decide +kernel
theorem dX9_moreOf_129 : decode cX9_moreOf 129 = .ok (.iadd, 1) := by decide +kernel
theorem dX9_moreOf_130 : decode cX9_moreOf 130 = .ok (.iconst 2, 1) := by decide +kernel
theorem dX9_moreOf_131 : decode cX9_moreOf 131 = .ok (.idiv, 1) := by decide +kernel
theorem dX9_moreOf_132 : decode cX9_moreOf 132 = .ok (.ireturn, 1) := by decide +kernel
theorem dX9_outOf_0 : decode cX9_outOf 0 = .ok (.iconst 1, 1) := by decide +kernel
theorem dX9_outOf_1 : decode cX9_outOf 1 = .ok (.aload_n 0, 1) := by decide +kernel
theorem dX9_outOf_2 : decode cX9_outOf 2 = .ok (.getfield 405, 3) := by decide +kernel
theorem dX9_outOf_5 : decode cX9_outOf 5 = .ok (.ishl, 1) := by decide +kernel
theorem dX9_outOf_6 : decode cX9_outOf 6 = .ok (.iconst 1, 1) := by decide +kernel
theorem dX9_outOf_7 : decode cX9_outOf 7 = .ok (.isub, 1) := by decide +kernel
theorem dX9_outOf_8 : decode cX9_outOf 8 = .ok (.istore_n 1, 1) := by decide +kernel
theorem dX9_outOf_9 : decode cX9_outOf 9 = .ok (.iconst (-1), 1) := by decide +kernel
theorem dX9_outOf_10 : decode cX9_outOf 10 = .ok (.istore_n 2, 1) := by decide +kernel
theorem dX9_outOf_11 : decode cX9_outOf 11 = .ok (.iconst 0, 1) := by decide +kernel
theorem dX9_outOf_12 : decode cX9_outOf 12 = .ok (.istore_n 3, 1) := by decide +kernel
theorem dX9_outOf_13 : decode cX9_outOf 13 = .ok (.iload_n 3, 1) := by decide +kernel
theorem dX9_outOf_14 : decode cX9_outOf 14 = .ok (.iload_n 1, 1) := by decide +kernel
theorem dX9_outOf_15 : decode cX9_outOf 15 = .ok (.if_icmp .gt 38, 3) := by decide +kernel
theorem dX9_outOf_18 : decode cX9_outOf 18 = .ok (.aload_n 0, 1) := by decide +kernel
theorem dX9_outOf_19 : decode cX9_outOf 19 = .ok (.iload_n 1, 1) := by decide +kernel
theorem dX9_outOf_20 : decode cX9_outOf 20 = .ok (.iload_n 3, 1) := by decide +kernel
theorem dX9_outOf_21 : decode cX9_outOf 21 = .ok (.iconst (-1), 1) := by decide +kernel
theorem dX9_outOf_22 : decode cX9_outOf 22 = .ok (.ixor, 1) := by decide +kernel
theorem dX9_outOf_23 : decode cX9_outOf 23 = .ok (.iand, 1) := by decide +kernel
theorem dX9_outOf_24 : decode cX9_outOf 24 = .ok (.invokevirtual 409, 3) := by decide +kernel
theorem dX9_outOf_27 : decode cX9_outOf 27 = .ok (.ifCond .ne 20, 3) := by decide +kernel
theorem dX9_outOf_30 : decode cX9_outOf 30 = .ok (.iload_n 2, 1) := by decide +kernel
theorem dX9_outOf_31 : decode cX9_outOf 31 = .ok (.ifCond .lt 14, 3) := by decide +kernel
theorem dX9_outOf_34 : decode cX9_outOf 34 = .ok (.iload_n 3, 1) := by decide +kernel
theorem dX9_outOf_35 : decode cX9_outOf 35 = .ok (.invokestatic 390, 3) := by decide +kernel
theorem dX9_outOf_38 : decode cX9_outOf 38 = .ok (.iload_n 2, 1) := by decide +kernel
theorem dX9_outOf_39 : decode cX9_outOf 39 = .ok (.invokestatic 390, 3) := by decide +kernel
theorem dX9_outOf_42 : decode cX9_outOf 42 = .ok (.if_icmp .ge 5, 3) := by decide +kernel
theorem dX9_outOf_45 : decode cX9_outOf 45 = .ok (.iload_n 3, 1) := by decide +kernel
theorem dX9_outOf_46 : decode cX9_outOf 46 = .ok (.istore_n 2, 1) := by decide +kernel
theorem dX9_outOf_47 : decode cX9_outOf 47 = .ok (.iinc 3 1, 3) := by decide +kernel
theorem dX9_outOf_50 : decode cX9_outOf 50 = .ok (.goto (-37), 3) := by decide +kernel
theorem dX9_outOf_53 : decode cX9_outOf 53 = .ok (.iload_n 2, 1) := by decide +kernel
theorem dX9_outOf_54 : decode cX9_outOf 54 = .ok (.ireturn, 1) := by decide +kernel
theorem dX9_partsOf_0 : decode cX9_partsOf 0 = .ok (.iconst 1, 1) := by decide +kernel
theorem dX9_partsOf_1 : decode cX9_partsOf 1 = .ok (.aload_n 0, 1) := by decide +kernel
theorem dX9_partsOf_2 : decode cX9_partsOf 2 = .ok (.getfield 405, 3) := by decide +kernel
theorem dX9_partsOf_5 : decode cX9_partsOf 5 = .ok (.ishl, 1) := by decide +kernel
theorem dX9_partsOf_6 : decode cX9_partsOf 6 = .ok (.iconst 1, 1) := by decide +kernel
theorem dX9_partsOf_7 : decode cX9_partsOf 7 = .ok (.isub, 1) := by decide +kernel
theorem dX9_partsOf_8 : decode cX9_partsOf 8 = .ok (.istore_n 1, 1) := by decide +kernel
theorem dX9_partsOf_9 : decode cX9_partsOf 9 = .ok (.iconst 0, 1) := by decide +kernel
theorem dX9_partsOf_10 : decode cX9_partsOf 10 = .ok (.istore_n 2, 1) := by decide +kernel
theorem dX9_partsOf_11 : decode cX9_partsOf 11 = .ok (.iload_n 1, 1) := by decide +kernel
theorem dX9_partsOf_12 : decode cX9_partsOf 12 = .ok (.ifCond .eq 127, 3) := by decide +kernel
theorem dX9_partsOf_15 : decode cX9_partsOf 15 = .ok (.iload_n 1, 1) := by decide +kernel
theorem dX9_partsOf_16 : decode cX9_partsOf 16 = .ok (.iload_n 1, 1) := by decide +kernel
theorem dX9_partsOf_17 : decode cX9_partsOf 17 = .ok (.ineg, 1) := by decide +kernel
theorem dX9_partsOf_18 : decode cX9_partsOf 18 = .ok (.iand, 1) := by decide +kernel
theorem dX9_partsOf_19 : decode cX9_partsOf 19 = .ok (.istore_n 3, 1) := by decide +kernel
theorem dX9_partsOf_20 : decode cX9_partsOf 20 = .ok (.iconst 0, 1) := by decide +kernel
theorem dX9_partsOf_21 : decode cX9_partsOf 21 = .ok (.istore 4, 2) := by decide +kernel
theorem dX9_partsOf_23 : decode cX9_partsOf 23 = .ok (.iload 4, 2) := by decide +kernel
theorem dX9_partsOf_25 : decode cX9_partsOf 25 = .ok (.aload_n 0, 1) := by decide +kernel
theorem dX9_partsOf_26 : decode cX9_partsOf 26 = .ok (.getfield 405, 3) := by decide +kernel
theorem dX9_partsOf_29 : decode cX9_partsOf 29 = .ok (.if_icmp .ge 98, 3) := by decide +kernel
theorem dX9_partsOf_32 : decode cX9_partsOf 32 = .ok (.iconst 0, 1) := by decide +kernel
theorem dX9_partsOf_33 : decode cX9_partsOf 33 = .ok (.istore 5, 2) := by decide +kernel
theorem dX9_partsOf_35 : decode cX9_partsOf 35 = .ok (.iload 5, 2) := by decide +kernel
theorem dX9_partsOf_37 : decode cX9_partsOf 37 = .ok (.aload_n 0, 1) := by decide +kernel
theorem dX9_partsOf_38 : decode cX9_partsOf 38 = .ok (.getfield 405, 3) := by decide +kernel
theorem dX9_partsOf_41 : decode cX9_partsOf 41 = .ok (.if_icmp .ge 80, 3) := by decide +kernel
theorem dX9_partsOf_44 : decode cX9_partsOf 44 = .ok (.iconst 0, 1) := by decide +kernel
theorem dX9_partsOf_45 : decode cX9_partsOf 45 = .ok (.istore 6, 2) := by decide +kernel
theorem dX9_partsOf_47 : decode cX9_partsOf 47 = .ok (.iload 6, 2) := by decide +kernel
theorem dX9_partsOf_49 : decode cX9_partsOf 49 = .ok (.aload_n 0, 1) := by decide +kernel
theorem dX9_partsOf_50 : decode cX9_partsOf 50 = .ok (.getfield 405, 3) := by decide +kernel
theorem dX9_partsOf_53 : decode cX9_partsOf 53 = .ok (.if_icmp .ge 62, 3) := by decide +kernel
theorem dX9_partsOf_56 : decode cX9_partsOf 56 = .ok (.iload_n 3, 1) := by decide +kernel
theorem dX9_partsOf_57 : decode cX9_partsOf 57 = .ok (.iload 5, 2) := by decide +kernel
theorem dX9_partsOf_59 : decode cX9_partsOf 59 = .ok (.ishr, 1) := by decide +kernel
theorem dX9_partsOf_60 : decode cX9_partsOf 60 = .ok (.iconst 1, 1) := by decide +kernel
theorem dX9_partsOf_61 : decode cX9_partsOf 61 = .ok (.iand, 1) := by decide +kernel
theorem dX9_partsOf_62 : decode cX9_partsOf 62 = .ok (.iconst 1, 1) := by decide +kernel
theorem dX9_partsOf_63 : decode cX9_partsOf 63 = .ok (.if_icmp .ne 46, 3) := by decide +kernel
theorem dX9_partsOf_66 : decode cX9_partsOf 66 = .ok (.aload_n 0, 1) := by decide +kernel
theorem dX9_partsOf_67 : decode cX9_partsOf 67 = .ok (.getfield 82, 3) := by decide +kernel
theorem dX9_partsOf_70 : decode cX9_partsOf 70 = .ok (.iload 5, 2) := by decide +kernel
theorem dX9_partsOf_72 : decode cX9_partsOf 72 = .ok (.laload, 1) := by decide +kernel
theorem dX9_partsOf_73 : decode cX9_partsOf 73 = .ok (.aload_n 0, 1) := by decide +kernel
theorem dX9_partsOf_74 : decode cX9_partsOf 74 = .ok (.getfield 82, 3) := by decide +kernel
theorem dX9_partsOf_77 : decode cX9_partsOf 77 = .ok (.iload 6, 2) := by decide +kernel
theorem dX9_partsOf_79 : decode cX9_partsOf 79 = .ok (.laload, 1) := by decide +kernel
theorem dX9_partsOf_80 : decode cX9_partsOf 80 = .ok (.lcmp, 1) := by decide +kernel
theorem dX9_partsOf_81 : decode cX9_partsOf 81 = .ok (.ifCond .eq 21, 3) := by decide +kernel
theorem dX9_partsOf_84 : decode cX9_partsOf 84 = .ok (.aload_n 0, 1) := by decide +kernel
theorem dX9_partsOf_85 : decode cX9_partsOf 85 = .ok (.getfield 85, 3) := by decide +kernel
theorem dX9_partsOf_88 : decode cX9_partsOf 88 = .ok (.iload 5, 2) := by decide +kernel
theorem dX9_partsOf_90 : decode cX9_partsOf 90 = .ok (.laload, 1) := by decide +kernel
theorem dX9_partsOf_91 : decode cX9_partsOf 91 = .ok (.aload_n 0, 1) := by decide +kernel
theorem dX9_partsOf_92 : decode cX9_partsOf 92 = .ok (.getfield 85, 3) := by decide +kernel
theorem dX9_partsOf_95 : decode cX9_partsOf 95 = .ok (.iload 6, 2) := by decide +kernel
theorem dX9_partsOf_97 : decode cX9_partsOf 97 = .ok (.laload, 1) := by decide +kernel
theorem dX9_partsOf_98 : decode cX9_partsOf 98 = .ok (.lcmp, 1) := by decide +kernel
theorem dX9_partsOf_99 : decode cX9_partsOf 99 = .ok (.ifCond .ne 10, 3) := by decide +kernel
theorem dX9_partsOf_102 : decode cX9_partsOf 102 = .ok (.iload_n 3, 1) := by decide +kernel
theorem dX9_partsOf_103 : decode cX9_partsOf 103 = .ok (.iconst 1, 1) := by decide +kernel
theorem dX9_partsOf_104 : decode cX9_partsOf 104 = .ok (.iload 6, 2) := by decide +kernel
theorem dX9_partsOf_106 : decode cX9_partsOf 106 = .ok (.ishl, 1) := by decide +kernel
theorem dX9_partsOf_107 : decode cX9_partsOf 107 = .ok (.ior, 1) := by decide +kernel
theorem dX9_partsOf_108 : decode cX9_partsOf 108 = .ok (.istore_n 3, 1) := by decide +kernel
theorem dX9_partsOf_109 : decode cX9_partsOf 109 = .ok (.iinc 6 1, 3) := by decide +kernel
theorem dX9_partsOf_112 : decode cX9_partsOf 112 = .ok (.goto (-65), 3) := by decide +kernel
theorem dX9_partsOf_115 : decode cX9_partsOf 115 = .ok (.iinc 5 1, 3) := by decide +kernel
theorem dX9_partsOf_118 : decode cX9_partsOf 118 = .ok (.goto (-83), 3) := by decide +kernel
theorem dX9_partsOf_121 : decode cX9_partsOf 121 = .ok (.iinc 4 1, 3) := by decide +kernel
theorem dX9_partsOf_124 : decode cX9_partsOf 124 = .ok (.goto (-101), 3) := by decide +kernel
theorem dX9_partsOf_127 : decode cX9_partsOf 127 = .ok (.iload_n 1, 1) := by decide +kernel
theorem dX9_partsOf_128 : decode cX9_partsOf 128 = .ok (.iload_n 3, 1) := by decide +kernel
theorem dX9_partsOf_129 : decode cX9_partsOf 129 = .ok (.iconst (-1), 1) := by decide +kernel
theorem dX9_partsOf_130 : decode cX9_partsOf 130 = .ok (.ixor, 1) := by decide +kernel
theorem dX9_partsOf_131 : decode cX9_partsOf 131 = .ok (.iand, 1) := by decide +kernel
theorem dX9_partsOf_132 : decode cX9_partsOf 132 = .ok (.istore_n 1, 1) := by decide +kernel
theorem dX9_partsOf_133 : decode cX9_partsOf 133 = .ok (.iinc 2 1, 3) := by decide +kernel
theorem dX9_partsOf_136 : decode cX9_partsOf 136 = .ok (.goto (-125), 3) := by decide +kernel
theorem dX9_partsOf_139 : decode cX9_partsOf 139 = .ok (.iload_n 2, 1) := by decide +kernel
theorem dX9_partsOf_140 : decode cX9_partsOf 140 = .ok (.ireturn, 1) := by decide +kernel
theorem dX9_agree_0 : decode cX9_agree 0 = .ok (.aload_n 0, 1) := by decide +kernel
theorem dX9_agree_1 : decode cX9_agree 1 = .ok (.getfield 405, 3) := by decide +kernel
theorem dX9_agree_4 : decode cX9_agree 4 = .ok (.ifCond .ne 5, 3) := by decide +kernel
theorem dX9_agree_7 : decode cX9_agree 7 = .ok (.iconst (-1), 1) := by decide +kernel
theorem dX9_agree_8 : decode cX9_agree 8 = .ok (.ireturn, 1) := by decide +kernel
theorem dX9_agree_9 : decode cX9_agree 9 = .ok (.iload_n 1, 1) := by decide +kernel
theorem dX9_agree_10 : decode cX9_agree 10 = .ok (.tableswitch 66 0 3 #[30, 43, 48, 61], 30) := by decide +kernel
theorem dX9_agree_40 : decode cX9_agree 40 = .ok (.aload_n 0, 1) := by decide +kernel
theorem dX9_agree_41 : decode cX9_agree 41 = .ok (.iconst 1, 1) := by decide +kernel
theorem dX9_agree_42 : decode cX9_agree 42 = .ok (.aload_n 0, 1) := by decide +kernel
theorem dX9_agree_43 : decode cX9_agree 43 = .ok (.getfield 405, 3) := by decide +kernel
theorem dX9_agree_46 : decode cX9_agree 46 = .ok (.ishl, 1) := by decide +kernel
theorem dX9_agree_47 : decode cX9_agree 47 = .ok (.iconst 1, 1) := by decide +kernel
theorem dX9_agree_48 : decode cX9_agree 48 = .ok (.isub, 1) := by decide +kernel
theorem dX9_agree_49 : decode cX9_agree 49 = .ok (.invokevirtual 409, 3) := by decide +kernel
theorem dX9_agree_52 : decode cX9_agree 52 = .ok (.ireturn, 1) := by decide +kernel
theorem dX9_agree_53 : decode cX9_agree 53 = .ok (.aload_n 0, 1) := by decide +kernel
theorem dX9_agree_54 : decode cX9_agree 54 = .ok (.invokevirtual 412, 3) := by decide +kernel
theorem dX9_agree_57 : decode cX9_agree 57 = .ok (.ireturn, 1) := by decide +kernel
theorem dX9_agree_58 : decode cX9_agree 58 = .ok (.aload_n 0, 1) := by decide +kernel
theorem dX9_agree_59 : decode cX9_agree 59 = .ok (.getfield 405, 3) := by decide +kernel
theorem dX9_agree_62 : decode cX9_agree 62 = .ok (.aload_n 0, 1) := by decide +kernel
theorem dX9_agree_63 : decode cX9_agree 63 = .ok (.invokevirtual 412, 3) := by decide +kernel
theorem dX9_agree_66 : decode cX9_agree 66 = .ok (.invokestatic 390, 3) := by decide +kernel
theorem dX9_agree_69 : decode cX9_agree 69 = .ok (.isub, 1) := by decide +kernel
theorem dX9_agree_70 : decode cX9_agree 70 = .ok (.ireturn, 1) := by decide +kernel
theorem dX9_agree_71 : decode cX9_agree 71 = .ok (.aload_n 0, 1) := by decide +kernel
theorem dX9_agree_72 : decode cX9_agree 72 = .ok (.invokevirtual 415, 3) := by decide +kernel
theorem dX9_agree_75 : decode cX9_agree 75 = .ok (.ireturn, 1) := by decide +kernel
theorem dX9_agree_76 : decode cX9_agree 76 = .ok (.iconst (-1), 1) := by decide +kernel
theorem dX9_agree_77 : decode cX9_agree 77 = .ok (.ireturn, 1) := by decide +kernel
theorem dX9_note_0 : decode cX9_note 0 = .ok (.aload_n 0, 1) := by decide +kernel
theorem dX9_note_1 : decode cX9_note 1 = .ok (.getfield 103, 3) := by decide +kernel
theorem dX9_note_4 : decode cX9_note 4 = .ok (.aload_n 0, 1) := by decide +kernel
theorem dX9_note_5 : decode cX9_note 5 = .ok (.getfield 418, 3) := by decide +kernel
theorem dX9_note_8 : decode cX9_note 8 = .ok (.iload_n 1, 1) := by decide +kernel
theorem dX9_note_9 : decode cX9_note 9 = .ok (.iastore, 1) := by decide +kernel
theorem dX9_note_10 : decode cX9_note 10 = .ok (.aload_n 0, 1) := by decide +kernel
theorem dX9_note_11 : decode cX9_note 11 = .ok (.getfield 106, 3) := by decide +kernel
theorem dX9_note_14 : decode cX9_note 14 = .ok (.aload_n 0, 1) := by decide +kernel
theorem dX9_note_15 : decode cX9_note 15 = .ok (.getfield 418, 3) := by decide +kernel
theorem dX9_note_18 : decode cX9_note 18 = .ok (.iload_n 2, 1) := by decide +kernel
theorem dX9_note_19 : decode cX9_note 19 = .ok (.iastore, 1) := by decide +kernel
theorem dX9_note_20 : decode cX9_note 20 = .ok (.aload_n 0, 1) := by decide +kernel
theorem dX9_note_21 : decode cX9_note 21 = .ok (.dup, 1) := by decide +kernel
theorem dX9_note_22 : decode cX9_note 22 = .ok (.getfield 418, 3) := by decide +kernel
theorem dX9_note_25 : decode cX9_note 25 = .ok (.iconst 1, 1) := by decide +kernel
theorem dX9_note_26 : decode cX9_note 26 = .ok (.iadd, 1) := by decide +kernel
theorem dX9_note_27 : decode cX9_note 27 = .ok (.putfield 418, 3) := by decide +kernel
theorem dX9_note_30 : decode cX9_note 30 = .ok (.return_, 1) := by decide +kernel
theorem dX9_upper_0 : decode cX9_upper 0 = .ok (.aload_n 0, 1) := by decide +kernel
theorem dX9_upper_1 : decode cX9_upper 1 = .ok (.getfield 421, 3) := by decide +kernel
theorem dX9_upper_4 : decode cX9_upper 4 = .ok (.ifCond .ne 8, 3) := by decide +kernel
theorem dX9_upper_7 : decode cX9_upper 7 = .ok (.bipush 30, 2) := by decide +kernel
theorem dX9_upper_9 : decode cX9_upper 9 = .ok (.goto 14, 3) := by decide +kernel
theorem dX9_upper_12 : decode cX9_upper 12 = .ok (.aload_n 0, 1) := by decide +kernel
theorem dX9_upper_13 : decode cX9_upper 13 = .ok (.getfield 127, 3) := by decide +kernel
theorem dX9_upper_16 : decode cX9_upper 16 = .ok (.aload_n 0, 1) := by decide +kernel
theorem dX9_upper_17 : decode cX9_upper 17 = .ok (.getfield 421, 3) := by decide +kernel
theorem dX9_upper_20 : decode cX9_upper 20 = .ok (.iconst 1, 1) := by decide +kernel
theorem dX9_upper_21 : decode cX9_upper 21 = .ok (.isub, 1) := by decide +kernel
theorem dX9_upper_22 : decode cX9_upper 22 = .ok (.iaload, 1) := by decide +kernel
theorem dX9_upper_23 : decode cX9_upper 23 = .ok (.ireturn, 1) := by decide +kernel
theorem dX9_rank_0 : decode cX9_rank 0 = .ok (.iload_n 0, 1) := by decide +kernel
theorem dX9_rank_1 : decode cX9_rank 1 = .ok (.bipush 21, 2) := by decide +kernel
theorem dX9_rank_3 : decode cX9_rank 3 = .ok (.if_icmp .ne 8, 3) := by decide +kernel
theorem dX9_rank_6 : decode cX9_rank 6 = .ok (.bipush 20, 2) := by decide +kernel
theorem dX9_rank_8 : decode cX9_rank 8 = .ok (.goto 15, 3) := by decide +kernel
theorem dX9_rank_11 : decode cX9_rank 11 = .ok (.iload_n 0, 1) := by decide +kernel
theorem dX9_rank_12 : decode cX9_rank 12 = .ok (.bipush 23, 2) := by decide +kernel
theorem dX9_rank_14 : decode cX9_rank 14 = .ok (.if_icmp .ne 8, 3) := by decide +kernel
theorem dX9_rank_17 : decode cX9_rank 17 = .ok (.bipush 22, 2) := by decide +kernel
theorem dX9_rank_19 : decode cX9_rank 19 = .ok (.goto 4, 3) := by decide +kernel
theorem dX9_rank_22 : decode cX9_rank 22 = .ok (.iload_n 0, 1) := by decide +kernel
theorem dX9_rank_23 : decode cX9_rank 23 = .ok (.ireturn, 1) := by decide +kernel
theorem dX9_settle_0 : decode cX9_settle 0 = .ok (.aload_n 0, 1) := by decide +kernel
theorem dX9_settle_1 : decode cX9_settle 1 = .ok (.invokevirtual 424, 3) := by decide +kernel
theorem dX9_settle_4 : decode cX9_settle 4 = .ok (.bipush 30, 2) := by decide +kernel
theorem dX9_settle_6 : decode cX9_settle 6 = .ok (.if_icmp .eq 41, 3) := by decide +kernel
theorem dX9_settle_9 : decode cX9_settle 9 = .ok (.aload_n 0, 1) := by decide +kernel
theorem dX9_settle_10 : decode cX9_settle 10 = .ok (.invokevirtual 424, 3) := by decide +kernel
theorem dX9_settle_13 : decode cX9_settle 13 = .ok (.invokestatic 427, 3) := by decide +kernel
theorem dX9_settle_16 : decode cX9_settle 16 = .ok (.iload_n 1, 1) := by decide +kernel
theorem dX9_settle_17 : decode cX9_settle 17 = .ok (.if_icmp .lt 30, 3) := by decide +kernel
theorem dX9_settle_20 : decode cX9_settle 20 = .ok (.aload_n 0, 1) := by decide +kernel
theorem dX9_settle_21 : decode cX9_settle 21 = .ok (.dup, 1) := by decide +kernel
theorem dX9_settle_22 : decode cX9_settle 22 = .ok (.getfield 421, 3) := by decide +kernel
theorem dX9_settle_25 : decode cX9_settle 25 = .ok (.iconst 1, 1) := by decide +kernel
theorem dX9_settle_26 : decode cX9_settle 26 = .ok (.isub, 1) := by decide +kernel
theorem dX9_settle_27 : decode cX9_settle 27 = .ok (.putfield 421, 3) := by decide +kernel
theorem dX9_settle_30 : decode cX9_settle 30 = .ok (.aload_n 0, 1) := by decide +kernel
theorem dX9_settle_31 : decode cX9_settle 31 = .ok (.aload_n 0, 1) := by decide +kernel
theorem dX9_settle_32 : decode cX9_settle 32 = .ok (.getfield 127, 3) := by decide +kernel
theorem dX9_settle_35 : decode cX9_settle 35 = .ok (.aload_n 0, 1) := by decide +kernel
theorem dX9_settle_36 : decode cX9_settle 36 = .ok (.getfield 421, 3) := by decide +kernel
theorem dX9_settle_39 : decode cX9_settle 39 = .ok (.iaload, 1) := by decide +kernel
theorem dX9_settle_40 : decode cX9_settle 40 = .ok (.iconst 0, 1) := by decide +kernel
theorem dX9_settle_41 : decode cX9_settle 41 = .ok (.invokevirtual 430, 3) := by decide +kernel
theorem dX9_settle_44 : decode cX9_settle 44 = .ok (.goto (-44), 3) := by decide +kernel
theorem dX9_settle_47 : decode cX9_settle 47 = .ok (.return_, 1) := by decide +kernel
theorem dX9_isOpen_0 : decode cX9_isOpen 0 = .ok (.aload_n 0, 1) := by decide +kernel
theorem dX9_isOpen_1 : decode cX9_isOpen 1 = .ok (.getfield 433, 3) := by decide +kernel
theorem dX9_isOpen_4 : decode cX9_isOpen 4 = .ok (.ifCond .le 7, 3) := by decide +kernel
theorem dX9_isOpen_7 : decode cX9_isOpen 7 = .ok (.iconst 1, 1) := by decide +kernel
theorem dX9_isOpen_8 : decode cX9_isOpen 8 = .ok (.goto 4, 3) := by decide +kernel
theorem dX9_isOpen_11 : decode cX9_isOpen 11 = .ok (.iconst 0, 1) := by decide +kernel
theorem dX9_isOpen_12 : decode cX9_isOpen 12 = .ok (.ireturn, 1) := by decide +kernel
theorem dX9_lineOf_0 : decode cX9_lineOf 0 = .ok (.iconst (-1), 1) := by decide +kernel
theorem dX9_lineOf_1 : decode cX9_lineOf 1 = .ok (.istore_n 3, 1) := by decide +kernel
theorem dX9_lineOf_2 : decode cX9_lineOf 2 = .ok (.iconst 0, 1) := by decide +kernel
theorem dX9_lineOf_3 : decode cX9_lineOf 3 = .ok (.istore 4, 2) := by decide +kernel
theorem dX9_lineOf_5 : decode cX9_lineOf 5 = .ok (.iload 4, 2) := by decide +kernel
theorem dX9_lineOf_7 : decode cX9_lineOf 7 = .ok (.aload_n 0, 1) := by decide +kernel
theorem dX9_lineOf_8 : decode cX9_lineOf 8 = .ok (.getfield 436, 3) := by decide +kernel
theorem dX9_lineOf_11 : decode cX9_lineOf 11 = .ok (.if_icmp .ge 28, 3) := by decide +kernel
theorem dX9_lineOf_14 : decode cX9_lineOf 14 = .ok (.aload_n 0, 1) := by decide +kernel
theorem dX9_lineOf_15 : decode cX9_lineOf 15 = .ok (.getfield 100, 3) := by decide +kernel
theorem dX9_lineOf_18 : decode cX9_lineOf 18 = .ok (.iload 4, 2) := by decide +kernel
theorem dX9_lineOf_20 : decode cX9_lineOf 20 = .ok (.laload, 1) := by decide +kernel
theorem dX9_lineOf_21 : decode cX9_lineOf 21 = .ok (.lload_n 1, 1) := by decide +kernel
theorem dX9_lineOf_22 : decode cX9_lineOf 22 = .ok (.lcmp, 1) := by decide +kernel
theorem dX9_lineOf_23 : decode cX9_lineOf 23 = .ok (.ifCond .ne 8, 3) := by decide +kernel
theorem dX9_lineOf_26 : decode cX9_lineOf 26 = .ok (.iload 4, 2) := by decide +kernel
theorem dX9_lineOf_28 : decode cX9_lineOf 28 = .ok (.goto 4, 3) := by decide +kernel
theorem dX9_lineOf_31 : decode cX9_lineOf 31 = .ok (.iload_n 3, 1) := by decide +kernel
theorem dX9_lineOf_32 : decode cX9_lineOf 32 = .ok (.istore_n 3, 1) := by decide +kernel
theorem dX9_lineOf_33 : decode cX9_lineOf 33 = .ok (.iinc 4 1, 3) := by decide +kernel
theorem dX9_lineOf_36 : decode cX9_lineOf 36 = .ok (.goto (-31), 3) := by decide +kernel
theorem dX9_lineOf_39 : decode cX9_lineOf 39 = .ok (.iload_n 3, 1) := by decide +kernel
theorem dX9_lineOf_40 : decode cX9_lineOf 40 = .ok (.ireturn, 1) := by decide +kernel
theorem dX9_unit_0 : decode cX9_unit 0 = .ok (.aload_n 0, 1) := by decide +kernel
theorem dX9_unit_1 : decode cX9_unit 1 = .ok (.invokevirtual 245, 3) := by decide +kernel
theorem dX9_unit_4 : decode cX9_unit 4 = .ok (.istore_n 1, 1) := by decide +kernel
theorem dX9_unit_5 : decode cX9_unit 5 = .ok (.aload_n 0, 1) := by decide +kernel
theorem dX9_unit_6 : decode cX9_unit 6 = .ok (.getfield 179, 3) := by decide +kernel
theorem dX9_unit_9 : decode cX9_unit 9 = .ok (.iconst 2, 1) := by decide +kernel
theorem dX9_unit_10 : decode cX9_unit 10 = .ok (.if_icmp .eq 16, 3) := by decide +kernel
theorem dX9_unit_13 : decode cX9_unit 13 = .ok (.aload_n 0, 1) := by decide +kernel
theorem dX9_unit_14 : decode cX9_unit 14 = .ok (.getfield 179, 3) := by decide +kernel
theorem dX9_unit_17 : decode cX9_unit 17 = .ok (.bipush 40, 2) := by decide +kernel
theorem dX9_unit_19 : decode cX9_unit 19 = .ok (.if_icmp .eq 7, 3) := by decide +kernel
theorem dX9_unit_22 : decode cX9_unit 22 = .ok (.iload_n 1, 1) := by decide +kernel
theorem dX9_unit_23 : decode cX9_unit 23 = .ok (.ifCond .eq 30, 3) := by decide +kernel
theorem dX9_unit_26 : decode cX9_unit 26 = .ok (.aload_n 0, 1) := by decide +kernel
theorem dX9_unit_27 : decode cX9_unit 27 = .ok (.getfield 439, 3) := by decide +kernel
theorem dX9_unit_30 : decode cX9_unit 30 = .ok (.bipush 60, 2) := by decide +kernel
theorem dX9_unit_32 : decode cX9_unit 32 = .ok (.if_icmp .eq 21, 3) := by decide +kernel
theorem dX9_unit_35 : decode cX9_unit 35 = .ok (.aload_n 0, 1) := by decide +kernel
theorem dX9_unit_36 : decode cX9_unit 36 = .ok (.getfield 179, 3) := by decide +kernel
theorem dX9_unit_39 : decode cX9_unit 39 = .ok (.bipush 40, 2) := by decide +kernel
theorem dX9_unit_41 : decode cX9_unit 41 = .ok (.if_icmp .ne 20, 3) := by decide +kernel
theorem dX9_unit_44 : decode cX9_unit 44 = .ok (.aload_n 0, 1) := by decide +kernel
theorem dX9_unit_45 : decode cX9_unit 45 = .ok (.getfield 433, 3) := by decide +kernel
theorem dX9_unit_48 : decode cX9_unit 48 = .ok (.bipush 7, 2) := by decide +kernel
theorem dX9_unit_50 : decode cX9_unit 50 = .ok (.if_icmp .lt 11, 3) := by decide +kernel
theorem dX9_unit_53 : decode cX9_unit 53 = .ok (.aload_n 0, 1) := by decide +kernel
theorem dX9_unit_54 : decode cX9_unit 54 = .ok (.iconst 2, 1) := by decide +kernel
theorem dX9_unit_55 : decode cX9_unit 55 = .ok (.invokevirtual 242, 3) := by decide +kernel
theorem dX9_unit_58 : decode cX9_unit 58 = .ok (.goto 23, 3) := by decide +kernel
theorem dX9_unit_61 : decode cX9_unit 61 = .ok (.iload_n 1, 1) := by decide +kernel
theorem dX9_unit_62 : decode cX9_unit 62 = .ok (.ifCond .eq 19, 3) := by decide +kernel
theorem dX9_unit_65 : decode cX9_unit 65 = .ok (.aload_n 0, 1) := by decide +kernel
theorem dX9_unit_66 : decode cX9_unit 66 = .ok (.aload_n 0, 1) := by decide +kernel
theorem dX9_unit_67 : decode cX9_unit 67 = .ok (.getfield 172, 3) := by decide +kernel
theorem dX9_unit_70 : decode cX9_unit 70 = .ok (.invokevirtual 442, 3) := by decide +kernel
theorem dX9_unit_73 : decode cX9_unit 73 = .ok (.ifCond .ge 8, 3) := by decide +kernel
theorem dX9_unit_76 : decode cX9_unit 76 = .ok (.aload_n 0, 1) := by decide +kernel
theorem dX9_unit_77 : decode cX9_unit 77 = .ok (.iconst 5, 1) := by decide +kernel
theorem dX9_unit_78 : decode cX9_unit 78 = .ok (.invokevirtual 242, 3) := by decide +kernel
theorem dX9_unit_81 : decode cX9_unit 81 = .ok (.aload_n 0, 1) := by decide +kernel
theorem dX9_unit_82 : decode cX9_unit 82 = .ok (.getfield 192, 3) := by decide +kernel
theorem dX9_unit_85 : decode cX9_unit 85 = .ok (.ifCond .le 5, 3) := by decide +kernel
theorem dX9_unit_88 : decode cX9_unit 88 = .ok (.iconst 1, 1) := by decide +kernel
theorem dX9_unit_89 : decode cX9_unit 89 = .ok (.ireturn, 1) := by decide +kernel
theorem dX9_unit_90 : decode cX9_unit 90 = .ok (.aload_n 0, 1) := by decide +kernel
theorem dX9_unit_91 : decode cX9_unit 91 = .ok (.dup, 1) := by decide +kernel
theorem dX9_unit_92 : decode cX9_unit 92 = .ok (.getfield 439, 3) := by decide +kernel
theorem dX9_unit_95 : decode cX9_unit 95 = .ok (.iconst 1, 1) := by decide +kernel
theorem dX9_unit_96 : decode cX9_unit 96 = .ok (.iadd, 1) := by decide +kernel
theorem dX9_unit_97 : decode cX9_unit 97 = .ok (.putfield 439, 3) := by decide +kernel
theorem dX9_unit_100 : decode cX9_unit 100 = .ok (.aload_n 0, 1) := by decide +kernel
theorem dX9_unit_101 : decode cX9_unit 101 = .ok (.getfield 179, 3) := by decide +kernel
theorem dX9_unit_104 : decode cX9_unit 104 = .ok (.bipush 40, 2) := by decide +kernel
theorem dX9_unit_106 : decode cX9_unit 106 = .ok (.if_icmp .ne 40, 3) := by decide +kernel
theorem dX9_unit_109 : decode cX9_unit 109 = .ok (.aload_n 0, 1) := by decide +kernel
theorem dX9_unit_110 : decode cX9_unit 110 = .ok (.getfield 127, 3) := by decide +kernel
theorem dX9_unit_113 : decode cX9_unit 113 = .ok (.aload_n 0, 1) := by decide +kernel
theorem dX9_unit_114 : decode cX9_unit 114 = .ok (.getfield 421, 3) := by decide +kernel
theorem dX9_unit_117 : decode cX9_unit 117 = .ok (.bipush 30, 2) := by decide +kernel
theorem dX9_unit_119 : decode cX9_unit 119 = .ok (.iastore, 1) := by decide +kernel
theorem dX9_unit_120 : decode cX9_unit 120 = .ok (.aload_n 0, 1) := by decide +kernel
theorem dX9_unit_121 : decode cX9_unit 121 = .ok (.dup, 1) := by decide +kernel
theorem dX9_unit_122 : decode cX9_unit 122 = .ok (.getfield 421, 3) := by decide +kernel
theorem dX9_unit_125 : decode cX9_unit 125 = .ok (.iconst 1, 1) := by decide +kernel
theorem dX9_unit_126 : decode cX9_unit 126 = .ok (.iadd, 1) := by decide +kernel
theorem dX9_unit_127 : decode cX9_unit 127 = .ok (.putfield 421, 3) := by decide +kernel
theorem dX9_unit_130 : decode cX9_unit 130 = .ok (.aload_n 0, 1) := by decide +kernel
theorem dX9_unit_131 : decode cX9_unit 131 = .ok (.dup, 1) := by decide +kernel
theorem dX9_unit_132 : decode cX9_unit 132 = .ok (.getfield 433, 3) := by decide +kernel
theorem dX9_unit_135 : decode cX9_unit 135 = .ok (.iconst 1, 1) := by decide +kernel
theorem dX9_unit_136 : decode cX9_unit 136 = .ok (.iadd, 1) := by decide +kernel
theorem dX9_unit_137 : decode cX9_unit 137 = .ok (.putfield 433, 3) := by decide +kernel
theorem dX9_unit_140 : decode cX9_unit 140 = .ok (.aload_n 0, 1) := by decide +kernel
theorem dX9_unit_141 : decode cX9_unit 141 = .ok (.invokevirtual 195, 3) := by decide +kernel
theorem dX9_unit_144 : decode cX9_unit 144 = .ok (.iconst 1, 1) := by decide +kernel
theorem dX9_unit_145 : decode cX9_unit 145 = .ok (.ireturn, 1) := by decide +kernel
theorem dX9_unit_146 : decode cX9_unit 146 = .ok (.aload_n 0, 1) := by decide +kernel
theorem dX9_unit_147 : decode cX9_unit 147 = .ok (.iload_n 1, 1) := by decide +kernel
theorem dX9_unit_148 : decode cX9_unit 148 = .ok (.ifCond .eq 7, 3) := by decide +kernel
theorem dX9_unit_151 : decode cX9_unit 151 = .ok (.iconst 1, 1) := by decide +kernel
theorem dX9_unit_152 : decode cX9_unit 152 = .ok (.goto 4, 3) := by decide +kernel
theorem dX9_unit_155 : decode cX9_unit 155 = .ok (.iconst 0, 1) := by decide +kernel
theorem dX9_unit_156 : decode cX9_unit 156 = .ok (.iload_n 1, 1) := by decide +kernel
theorem dX9_unit_157 : decode cX9_unit 157 = .ok (.ifCond .eq 14, 3) := by decide +kernel
theorem dX9_unit_160 : decode cX9_unit 160 = .ok (.aload_n 0, 1) := by decide +kernel
theorem dX9_unit_161 : decode cX9_unit 161 = .ok (.aload_n 0, 1) := by decide +kernel
theorem dX9_unit_162 : decode cX9_unit 162 = .ok (.getfield 172, 3) := by decide +kernel
theorem dX9_unit_165 : decode cX9_unit 165 = .ok (.invokevirtual 442, 3) := by decide +kernel
theorem dX9_unit_168 : decode cX9_unit 168 = .ok (.goto 7, 3) := by decide +kernel
theorem dX9_unit_171 : decode cX9_unit 171 = .ok (.aload_n 0, 1) := by decide +kernel
theorem dX9_unit_172 : decode cX9_unit 172 = .ok (.getfield 176, 3) := by decide +kernel
theorem dX9_unit_175 : decode cX9_unit 175 = .ok (.invokevirtual 430, 3) := by decide +kernel
theorem dX9_unit_178 : decode cX9_unit 178 = .ok (.aload_n 0, 1) := by decide +kernel
theorem dX9_unit_179 : decode cX9_unit 179 = .ok (.invokevirtual 195, 3) := by decide +kernel
theorem dX9_unit_182 : decode cX9_unit 182 = .ok (.iconst 0, 1) := by decide +kernel
theorem dX9_unit_183 : decode cX9_unit 183 = .ok (.ireturn, 1) := by decide +kernel
theorem dX9_sign_0 : decode cX9_sign 0 = .ok (.aload_n 0, 1) := by decide +kernel
theorem dX9_sign_1 : decode cX9_sign 1 = .ok (.getfield 179, 3) := by decide +kernel
theorem dX9_sign_4 : decode cX9_sign 4 = .ok (.bipush 43, 2) := by decide +kernel
theorem dX9_sign_6 : decode cX9_sign 6 = .ok (.if_icmp .ne 8, 3) := by decide +kernel
theorem dX9_sign_9 : decode cX9_sign 9 = .ok (.bipush 20, 2) := by decide +kernel
theorem dX9_sign_11 : decode cX9_sign 11 = .ok (.goto 46, 3) := by decide +kernel
theorem dX9_sign_14 : decode cX9_sign 14 = .ok (.aload_n 0, 1) := by decide +kernel
theorem dX9_sign_15 : decode cX9_sign 15 = .ok (.getfield 179, 3) := by decide +kernel
theorem dX9_sign_18 : decode cX9_sign 18 = .ok (.bipush 45, 2) := by decide +kernel
theorem dX9_sign_20 : decode cX9_sign 20 = .ok (.if_icmp .ne 8, 3) := by decide +kernel
theorem dX9_sign_23 : decode cX9_sign 23 = .ok (.bipush 21, 2) := by decide +kernel
theorem dX9_sign_25 : decode cX9_sign 25 = .ok (.goto 32, 3) := by decide +kernel
theorem dX9_sign_28 : decode cX9_sign 28 = .ok (.aload_n 0, 1) := by decide +kernel
theorem dX9_sign_29 : decode cX9_sign 29 = .ok (.getfield 179, 3) := by decide +kernel
theorem dX9_sign_32 : decode cX9_sign 32 = .ok (.bipush 42, 2) := by decide +kernel
theorem dX9_sign_34 : decode cX9_sign 34 = .ok (.if_icmp .ne 8, 3) := by decide +kernel
theorem dX9_sign_37 : decode cX9_sign 37 = .ok (.bipush 22, 2) := by decide +kernel
theorem dX9_sign_39 : decode cX9_sign 39 = .ok (.goto 18, 3) := by decide +kernel
theorem dX9_sign_42 : decode cX9_sign 42 = .ok (.aload_n 0, 1) := by decide +kernel
theorem dX9_sign_43 : decode cX9_sign 43 = .ok (.getfield 179, 3) := by decide +kernel
theorem dX9_sign_46 : decode cX9_sign 46 = .ok (.bipush 47, 2) := by decide +kernel
theorem dX9_sign_48 : decode cX9_sign 48 = .ok (.if_icmp .ne 8, 3) := by decide +kernel
theorem dX9_sign_51 : decode cX9_sign 51 = .ok (.bipush 23, 2) := by decide +kernel
theorem dX9_sign_53 : decode cX9_sign 53 = .ok (.goto 4, 3) := by decide +kernel
theorem dX9_sign_56 : decode cX9_sign 56 = .ok (.iconst (-1), 1) := by decide +kernel
theorem dX9_sign_57 : decode cX9_sign 57 = .ok (.istore_n 1, 1) := by decide +kernel
theorem dX9_sign_58 : decode cX9_sign 58 = .ok (.aload_n 0, 1) := by decide +kernel
theorem dX9_sign_59 : decode cX9_sign 59 = .ok (.getfield 179, 3) := by decide +kernel
theorem dX9_sign_62 : decode cX9_sign 62 = .ok (.bipush 41, 2) := by decide +kernel
theorem dX9_sign_64 : decode cX9_sign 64 = .ok (.if_icmp .ne 41, 3) := by decide +kernel
theorem dX9_sign_67 : decode cX9_sign 67 = .ok (.aload_n 0, 1) := by decide +kernel
theorem dX9_sign_68 : decode cX9_sign 68 = .ok (.invokevirtual 445, 3) := by decide +kernel
theorem dX9_sign_71 : decode cX9_sign 71 = .ok (.ifCond .eq 34, 3) := by decide +kernel
theorem dX9_sign_74 : decode cX9_sign 74 = .ok (.aload_n 0, 1) := by decide +kernel
theorem dX9_sign_75 : decode cX9_sign 75 = .ok (.iconst 0, 1) := by decide +kernel
theorem dX9_sign_76 : decode cX9_sign 76 = .ok (.invokevirtual 448, 3) := by decide +kernel
theorem dX9_sign_79 : decode cX9_sign 79 = .ok (.aload_n 0, 1) := by decide +kernel
theorem dX9_sign_80 : decode cX9_sign 80 = .ok (.dup, 1) := by decide +kernel
theorem dX9_sign_81 : decode cX9_sign 81 = .ok (.getfield 421, 3) := by decide +kernel
theorem dX9_sign_84 : decode cX9_sign 84 = .ok (.iconst 1, 1) := by decide +kernel
theorem dX9_sign_85 : decode cX9_sign 85 = .ok (.isub, 1) := by decide +kernel
theorem dX9_sign_86 : decode cX9_sign 86 = .ok (.putfield 421, 3) := by decide +kernel
theorem dX9_sign_89 : decode cX9_sign 89 = .ok (.aload_n 0, 1) := by decide +kernel
theorem dX9_sign_90 : decode cX9_sign 90 = .ok (.dup, 1) := by decide +kernel
theorem dX9_sign_91 : decode cX9_sign 91 = .ok (.getfield 433, 3) := by decide +kernel
theorem dX9_sign_94 : decode cX9_sign 94 = .ok (.iconst 1, 1) := by decide +kernel
theorem dX9_sign_95 : decode cX9_sign 95 = .ok (.isub, 1) := by decide +kernel
theorem dX9_sign_96 : decode cX9_sign 96 = .ok (.putfield 433, 3) := by decide +kernel
theorem dX9_sign_99 : decode cX9_sign 99 = .ok (.aload_n 0, 1) := by decide +kernel
theorem dX9_sign_100 : decode cX9_sign 100 = .ok (.invokevirtual 195, 3) := by decide +kernel
theorem dX9_sign_103 : decode cX9_sign 103 = .ok (.iconst 0, 1) := by decide +kernel
theorem dX9_sign_104 : decode cX9_sign 104 = .ok (.ireturn, 1) := by decide +kernel
theorem dX9_sign_105 : decode cX9_sign 105 = .ok (.iload_n 1, 1) := by decide +kernel
theorem dX9_sign_106 : decode cX9_sign 106 = .ok (.ifCond .ge 10, 3) := by decide +kernel
theorem dX9_sign_109 : decode cX9_sign 109 = .ok (.aload_n 0, 1) := by decide +kernel
theorem dX9_sign_110 : decode cX9_sign 110 = .ok (.iconst 2, 1) := by decide +kernel
theorem dX9_sign_111 : decode cX9_sign 111 = .ok (.invokevirtual 242, 3) := by decide +kernel
theorem dX9_sign_114 : decode cX9_sign 114 = .ok (.iconst 0, 1) := by decide +kernel
theorem dX9_sign_115 : decode cX9_sign 115 = .ok (.ireturn, 1) := by decide +kernel
theorem dX9_sign_116 : decode cX9_sign 116 = .ok (.aload_n 0, 1) := by decide +kernel
theorem dX9_sign_117 : decode cX9_sign 117 = .ok (.iload_n 1, 1) := by decide +kernel
theorem dX9_sign_118 : decode cX9_sign 118 = .ok (.invokestatic 427, 3) := by decide +kernel
theorem dX9_sign_121 : decode cX9_sign 121 = .ok (.invokevirtual 448, 3) := by decide +kernel
theorem dX9_sign_124 : decode cX9_sign 124 = .ok (.aload_n 0, 1) := by decide +kernel
theorem dX9_sign_125 : decode cX9_sign 125 = .ok (.getfield 127, 3) := by decide +kernel
theorem dX9_sign_128 : decode cX9_sign 128 = .ok (.aload_n 0, 1) := by decide +kernel
theorem dX9_sign_129 : decode cX9_sign 129 = .ok (.getfield 421, 3) := by decide +kernel
theorem dX9_sign_132 : decode cX9_sign 132 = .ok (.iload_n 1, 1) := by decide +kernel
theorem dX9_sign_133 : decode cX9_sign 133 = .ok (.iastore, 1) := by decide +kernel
theorem dX9_sign_134 : decode cX9_sign 134 = .ok (.aload_n 0, 1) := by decide +kernel
theorem dX9_sign_135 : decode cX9_sign 135 = .ok (.dup, 1) := by decide +kernel
theorem dX9_sign_136 : decode cX9_sign 136 = .ok (.getfield 421, 3) := by decide +kernel
theorem dX9_sign_139 : decode cX9_sign 139 = .ok (.iconst 1, 1) := by decide +kernel
theorem dX9_sign_140 : decode cX9_sign 140 = .ok (.iadd, 1) := by decide +kernel
theorem dX9_sign_141 : decode cX9_sign 141 = .ok (.putfield 421, 3) := by decide +kernel
theorem dX9_sign_144 : decode cX9_sign 144 = .ok (.aload_n 0, 1) := by decide +kernel
theorem dX9_sign_145 : decode cX9_sign 145 = .ok (.invokevirtual 195, 3) := by decide +kernel
theorem dX9_sign_148 : decode cX9_sign 148 = .ok (.iconst 1, 1) := by decide +kernel
theorem dX9_sign_149 : decode cX9_sign 149 = .ok (.ireturn, 1) := by decide +kernel
theorem dX9_readLine_0 : decode cX9_readLine 0 = .ok (.aload_n 0, 1) := by decide +kernel
theorem dX9_readLine_1 : decode cX9_readLine 1 = .ok (.getfield 436, 3) := by decide +kernel
theorem dX9_readLine_4 : decode cX9_readLine 4 = .ok (.bipush 12, 2) := by decide +kernel
theorem dX9_readLine_6 : decode cX9_readLine 6 = .ok (.if_icmp .ne 8, 3) := by decide +kernel
theorem dX9_readLine_9 : decode cX9_readLine 9 = .ok (.aload_n 0, 1) := by decide +kernel
theorem dX9_readLine_10 : decode cX9_readLine 10 = .ok (.iconst 2, 1) := by decide +kernel
theorem dX9_readLine_11 : decode cX9_readLine 11 = .ok (.invokevirtual 242, 3) := by decide +kernel
theorem dX9_readLine_14 : decode cX9_readLine 14 = .ok (.aload_n 0, 1) := by decide +kernel
theorem dX9_readLine_15 : decode cX9_readLine 15 = .ok (.getfield 192, 3) := by decide +kernel
theorem dX9_readLine_18 : decode cX9_readLine 18 = .ok (.ifCond .le 4, 3) := by decide +kernel
theorem dX9_readLine_21 : decode cX9_readLine 21 = .ok (.return_, 1) := by decide +kernel
theorem dX9_readLine_22 : decode cX9_readLine 22 = .ok (.aload_n 0, 1) := by decide +kernel
theorem dX9_readLine_23 : decode cX9_readLine 23 = .ok (.aload_n 0, 1) := by decide +kernel
theorem dX9_readLine_24 : decode cX9_readLine 24 = .ok (.getfield 179, 3) := by decide +kernel
theorem dX9_readLine_27 : decode cX9_readLine 27 = .ok (.iconst 1, 1) := by decide +kernel
theorem dX9_readLine_28 : decode cX9_readLine 28 = .ok (.if_icmp .ne 18, 3) := by decide +kernel
theorem dX9_readLine_31 : decode cX9_readLine 31 = .ok (.aload_n 0, 1) := by decide +kernel
theorem dX9_readLine_32 : decode cX9_readLine 32 = .ok (.aload_n 0, 1) := by decide +kernel
theorem dX9_readLine_33 : decode cX9_readLine 33 = .ok (.getfield 172, 3) := by decide +kernel
theorem dX9_readLine_36 : decode cX9_readLine 36 = .ok (.invokevirtual 442, 3) := by decide +kernel
theorem dX9_readLine_39 : decode cX9_readLine 39 = .ok (.ifCond .lt 7, 3) := by decide +kernel
theorem dX9_readLine_42 : decode cX9_readLine 42 = .ok (.iconst 1, 1) := by decide +kernel
theorem dX9_readLine_43 : decode cX9_readLine 43 = .ok (.goto 4, 3) := by decide +kernel
theorem dX9_readLine_46 : decode cX9_readLine 46 = .ok (.iconst 0, 1) := by decide +kernel
theorem dX9_readLine_47 : decode cX9_readLine 47 = .ok (.invokevirtual 270, 3) := by decide +kernel
theorem dX9_readLine_50 : decode cX9_readLine 50 = .ok (.lstore_n 1, 1) := by decide +kernel
theorem dX9_readLine_51 : decode cX9_readLine 51 = .ok (.aload_n 0, 1) := by decide +kernel
theorem dX9_readLine_52 : decode cX9_readLine 52 = .ok (.ldc2_w 234, 3) := by decide +kernel
theorem dX9_readLine_55 : decode cX9_readLine 55 = .ok (.invokevirtual 262, 3) := by decide +kernel
theorem dX9_readLine_58 : decode cX9_readLine 58 = .ok (.aload_n 0, 1) := by decide +kernel
theorem dX9_readLine_59 : decode cX9_readLine 59 = .ok (.iconst 0, 1) := by decide +kernel
theorem dX9_readLine_60 : decode cX9_readLine 60 = .ok (.putfield 421, 3) := by decide +kernel
theorem dX9_readLine_63 : decode cX9_readLine 63 = .ok (.aload_n 0, 1) := by decide +kernel
theorem dX9_readLine_64 : decode cX9_readLine 64 = .ok (.iconst 0, 1) := by decide +kernel
theorem dX9_readLine_65 : decode cX9_readLine 65 = .ok (.putfield 433, 3) := by decide +kernel
theorem dX9_readLine_68 : decode cX9_readLine 68 = .ok (.aload_n 0, 1) := by decide +kernel
theorem dX9_readLine_69 : decode cX9_readLine 69 = .ok (.getfield 109, 3) := by decide +kernel
theorem dX9_readLine_72 : decode cX9_readLine 72 = .ok (.aload_n 0, 1) := by decide +kernel
theorem dX9_readLine_73 : decode cX9_readLine 73 = .ok (.getfield 436, 3) := by decide +kernel
theorem dX9_readLine_76 : decode cX9_readLine 76 = .ok (.aload_n 0, 1) := by decide +kernel
theorem dX9_readLine_77 : decode cX9_readLine 77 = .ok (.getfield 418, 3) := by decide +kernel
theorem dX9_readLine_80 : decode cX9_readLine 80 = .ok (.iastore, 1) := by decide +kernel
theorem dX9_readLine_81 : decode cX9_readLine 81 = .ok (.iconst 1, 1) := by decide +kernel
theorem dX9_readLine_82 : decode cX9_readLine 82 = .ok (.istore_n 3, 1) := by decide +kernel
theorem dX9_readLine_83 : decode cX9_readLine 83 = .ok (.aload_n 0, 1) := by decide +kernel
theorem dX9_readLine_84 : decode cX9_readLine 84 = .ok (.getfield 192, 3) := by decide +kernel
theorem dX9_readLine_87 : decode cX9_readLine 87 = .ok (.ifCond .ne 43, 3) := by decide +kernel
theorem dX9_readLine_90 : decode cX9_readLine 90 = .ok (.iload_n 3, 1) := by decide +kernel
theorem dX9_readLine_91 : decode cX9_readLine 91 = .ok (.ifCond .ne 20, 3) := by decide +kernel
theorem dX9_readLine_94 : decode cX9_readLine 94 = .ok (.aload_n 0, 1) := by decide +kernel
theorem dX9_readLine_95 : decode cX9_readLine 95 = .ok (.invokevirtual 445, 3) := by decide +kernel
theorem dX9_readLine_98 : decode cX9_readLine 98 = .ok (.ifCond .ne 13, 3) := by decide +kernel
theorem dX9_readLine_101 : decode cX9_readLine 101 = .ok (.aload_n 0, 1) := by decide +kernel
theorem dX9_readLine_102 : decode cX9_readLine 102 = .ok (.ldc2_w 236, 3) := by decide +kernel
theorem dX9_readLine_105 : decode cX9_readLine 105 = .ok (.invokevirtual 238, 3) := by decide +kernel
theorem dX9_readLine_108 : decode cX9_readLine 108 = .ok (.ifCond .ne 22, 3) := by decide +kernel
theorem dX9_readLine_111 : decode cX9_readLine 111 = .ok (.iload_n 3, 1) := by decide +kernel
theorem dX9_readLine_112 : decode cX9_readLine 112 = .ok (.ifCond .eq 10, 3) := by decide +kernel
theorem dX9_readLine_115 : decode cX9_readLine 115 = .ok (.aload_n 0, 1) := by decide +kernel
theorem dX9_readLine_116 : decode cX9_readLine 116 = .ok (.invokevirtual 451, 3) := by decide +kernel
theorem dX9_readLine_119 : decode cX9_readLine 119 = .ok (.goto 7, 3) := by decide +kernel
theorem dX9_readLine_122 : decode cX9_readLine 122 = .ok (.aload_n 0, 1) := by decide +kernel
theorem dX9_readLine_123 : decode cX9_readLine 123 = .ok (.invokevirtual 454, 3) := by decide +kernel
theorem dX9_readLine_126 : decode cX9_readLine 126 = .ok (.istore_n 3, 1) := by decide +kernel
theorem dX9_readLine_127 : decode cX9_readLine 127 = .ok (.goto (-44), 3) := by decide +kernel
theorem dX9_readLine_130 : decode cX9_readLine 130 = .ok (.aload_n 0, 1) := by decide +kernel
theorem dX9_readLine_131 : decode cX9_readLine 131 = .ok (.getfield 192, 3) := by decide +kernel
theorem dX9_readLine_134 : decode cX9_readLine 134 = .ok (.ifCond .le 4, 3) := by decide +kernel
theorem dX9_readLine_137 : decode cX9_readLine 137 = .ok (.return_, 1) := by decide +kernel
theorem dX9_readLine_138 : decode cX9_readLine 138 = .ok (.aload_n 0, 1) := by decide +kernel
theorem dX9_readLine_139 : decode cX9_readLine 139 = .ok (.iconst 0, 1) := by decide +kernel
theorem dX9_readLine_140 : decode cX9_readLine 140 = .ok (.invokevirtual 448, 3) := by decide +kernel
theorem dX9_readLine_143 : decode cX9_readLine 143 = .ok (.aload_n 0, 1) := by decide +kernel
theorem dX9_readLine_144 : decode cX9_readLine 144 = .ok (.ldc2_w 236, 3) := by decide +kernel
theorem dX9_readLine_147 : decode cX9_readLine 147 = .ok (.invokevirtual 262, 3) := by decide +kernel
theorem dX9_readLine_150 : decode cX9_readLine 150 = .ok (.aload_n 0, 1) := by decide +kernel
theorem dX9_readLine_151 : decode cX9_readLine 151 = .ok (.sipush (-9999), 3) := by decide +kernel
theorem dX9_readLine_154 : decode cX9_readLine 154 = .ok (.sipush 9999, 3) := by decide +kernel
theorem dX9_readLine_157 : decode cX9_readLine 157 = .ok (.invokevirtual 255, 3) := by decide +kernel
theorem dX9_readLine_160 : decode cX9_readLine 160 = .ok (.istore 4, 2) := by decide +kernel
theorem dX9_readLine_162 : decode cX9_readLine 162 = .ok (.aload_n 0, 1) := by decide +kernel
theorem dX9_readLine_163 : decode cX9_readLine 163 = .ok (.getfield 192, 3) := by decide +kernel
theorem dX9_readLine_166 : decode cX9_readLine 166 = .ok (.ifCond .ne 17, 3) := by decide +kernel
theorem dX9_readLine_169 : decode cX9_readLine 169 = .ok (.aload_n 0, 1) := by decide +kernel
theorem dX9_readLine_170 : decode cX9_readLine 170 = .ok (.getfield 179, 3) := by decide +kernel
theorem dX9_readLine_173 : decode cX9_readLine 173 = .ok (.bipush 59, 2) := by decide +kernel
theorem dX9_readLine_175 : decode cX9_readLine 175 = .ok (.if_icmp .eq 8, 3) := by decide +kernel
theorem dX9_readLine_178 : decode cX9_readLine 178 = .ok (.aload_n 0, 1) := by decide +kernel
theorem dX9_readLine_179 : decode cX9_readLine 179 = .ok (.iconst 2, 1) := by decide +kernel
theorem dX9_readLine_180 : decode cX9_readLine 180 = .ok (.invokevirtual 242, 3) := by decide +kernel
theorem dX9_readLine_183 : decode cX9_readLine 183 = .ok (.aload_n 0, 1) := by decide +kernel
theorem dX9_readLine_184 : decode cX9_readLine 184 = .ok (.getfield 192, 3) := by decide +kernel
theorem dX9_readLine_187 : decode cX9_readLine 187 = .ok (.ifCond .le 4, 3) := by decide +kernel
theorem dX9_readLine_190 : decode cX9_readLine 190 = .ok (.return_, 1) := by decide +kernel
theorem dX9_readLine_191 : decode cX9_readLine 191 = .ok (.aload_n 0, 1) := by decide +kernel
theorem dX9_readLine_192 : decode cX9_readLine 192 = .ok (.invokevirtual 195, 3) := by decide +kernel
theorem dX9_readLine_195 : decode cX9_readLine 195 = .ok (.aload_n 0, 1) := by decide +kernel
theorem dX9_readLine_196 : decode cX9_readLine 196 = .ok (.getfield 100, 3) := by decide +kernel
theorem dX9_readLine_199 : decode cX9_readLine 199 = .ok (.aload_n 0, 1) := by decide +kernel
theorem dX9_readLine_200 : decode cX9_readLine 200 = .ok (.getfield 436, 3) := by decide +kernel
theorem dX9_readLine_203 : decode cX9_readLine 203 = .ok (.lload_n 1, 1) := by decide +kernel
theorem dX9_readLine_204 : decode cX9_readLine 204 = .ok (.lastore, 1) := by decide +kernel
theorem dX9_readLine_205 : decode cX9_readLine 205 = .ok (.aload_n 0, 1) := by decide +kernel
theorem dX9_readLine_206 : decode cX9_readLine 206 = .ok (.getfield 112, 3) := by decide +kernel
theorem dX9_readLine_209 : decode cX9_readLine 209 = .ok (.aload_n 0, 1) := by decide +kernel
theorem dX9_readLine_210 : decode cX9_readLine 210 = .ok (.getfield 436, 3) := by decide +kernel
theorem dX9_readLine_213 : decode cX9_readLine 213 = .ok (.iload 4, 2) := by decide +kernel
theorem dX9_readLine_215 : decode cX9_readLine 215 = .ok (.iastore, 1) := by decide +kernel
theorem dX9_readLine_216 : decode cX9_readLine 216 = .ok (.aload_n 0, 1) := by decide +kernel
theorem dX9_readLine_217 : decode cX9_readLine 217 = .ok (.dup, 1) := by decide +kernel
theorem dX9_readLine_218 : decode cX9_readLine 218 = .ok (.getfield 436, 3) := by decide +kernel
theorem dX9_readLine_221 : decode cX9_readLine 221 = .ok (.iconst 1, 1) := by decide +kernel
theorem dX9_readLine_222 : decode cX9_readLine 222 = .ok (.iadd, 1) := by decide +kernel
theorem dX9_readLine_223 : decode cX9_readLine 223 = .ok (.putfield 436, 3) := by decide +kernel
theorem dX9_readLine_226 : decode cX9_readLine 226 = .ok (.aload_n 0, 1) := by decide +kernel
theorem dX9_readLine_227 : decode cX9_readLine 227 = .ok (.getfield 109, 3) := by decide +kernel
theorem dX9_readLine_230 : decode cX9_readLine 230 = .ok (.aload_n 0, 1) := by decide +kernel
theorem dX9_readLine_231 : decode cX9_readLine 231 = .ok (.getfield 436, 3) := by decide +kernel
theorem dX9_readLine_234 : decode cX9_readLine 234 = .ok (.aload_n 0, 1) := by decide +kernel
theorem dX9_readLine_235 : decode cX9_readLine 235 = .ok (.getfield 418, 3) := by decide +kernel
theorem dX9_readLine_238 : decode cX9_readLine 238 = .ok (.iastore, 1) := by decide +kernel
theorem dX9_readLine_239 : decode cX9_readLine 239 = .ok (.return_, 1) := by decide +kernel
theorem dX9_sum_0 : decode cX9_sum 0 = .ok (.aload_n 0, 1) := by decide +kernel
theorem dX9_sum_1 : decode cX9_sum 1 = .ok (.iconst 0, 1) := by decide +kernel
theorem dX9_sum_2 : decode cX9_sum 2 = .ok (.putfield 418, 3) := by decide +kernel
theorem dX9_sum_5 : decode cX9_sum 5 = .ok (.aload_n 0, 1) := by decide +kernel
theorem dX9_sum_6 : decode cX9_sum 6 = .ok (.iconst 0, 1) := by decide +kernel
theorem dX9_sum_7 : decode cX9_sum 7 = .ok (.putfield 439, 3) := by decide +kernel
theorem dX9_sum_10 : decode cX9_sum 10 = .ok (.aload_n 0, 1) := by decide +kernel
theorem dX9_sum_11 : decode cX9_sum 11 = .ok (.iconst 0, 1) := by decide +kernel
theorem dX9_sum_12 : decode cX9_sum 12 = .ok (.putfield 436, 3) := by decide +kernel
theorem dX9_sum_15 : decode cX9_sum 15 = .ok (.aload_n 0, 1) := by decide +kernel
theorem dX9_sum_16 : decode cX9_sum 16 = .ok (.iconst 1, 1) := by decide +kernel
theorem dX9_sum_17 : decode cX9_sum 17 = .ok (.invokevirtual 280, 3) := by decide +kernel
theorem dX9_sum_20 : decode cX9_sum 20 = .ok (.aload_n 0, 1) := by decide +kernel
theorem dX9_sum_21 : decode cX9_sum 21 = .ok (.getfield 192, 3) := by decide +kernel
theorem dX9_sum_24 : decode cX9_sum 24 = .ok (.ifCond .ne 17, 3) := by decide +kernel
theorem dX9_sum_27 : decode cX9_sum 27 = .ok (.aload_n 0, 1) := by decide +kernel
theorem dX9_sum_28 : decode cX9_sum 28 = .ok (.getfield 179, 3) := by decide +kernel
theorem dX9_sum_31 : decode cX9_sum 31 = .ok (.ifCond .eq 10, 3) := by decide +kernel
theorem dX9_sum_34 : decode cX9_sum 34 = .ok (.aload_n 0, 1) := by decide +kernel
theorem dX9_sum_35 : decode cX9_sum 35 = .ok (.invokevirtual 457, 3) := by decide +kernel
theorem dX9_sum_38 : decode cX9_sum 38 = .ok (.goto (-18), 3) := by decide +kernel
theorem dX9_sum_41 : decode cX9_sum 41 = .ok (.aload_n 0, 1) := by decide +kernel
theorem dX9_sum_42 : decode cX9_sum 42 = .ok (.getfield 192, 3) := by decide +kernel
theorem dX9_sum_45 : decode cX9_sum 45 = .ok (.ifCond .le 5, 3) := by decide +kernel
theorem dX9_sum_48 : decode cX9_sum 48 = .ok (.iconst (-1), 1) := by decide +kernel
theorem dX9_sum_49 : decode cX9_sum 49 = .ok (.ireturn, 1) := by decide +kernel
theorem dX9_sum_50 : decode cX9_sum 50 = .ok (.iconst 0, 1) := by decide +kernel
theorem dX9_sum_51 : decode cX9_sum 51 = .ok (.istore_n 1, 1) := by decide +kernel
theorem dX9_sum_52 : decode cX9_sum 52 = .ok (.iload_n 1, 1) := by decide +kernel
theorem dX9_sum_53 : decode cX9_sum 53 = .ok (.aload_n 0, 1) := by decide +kernel
theorem dX9_sum_54 : decode cX9_sum 54 = .ok (.getfield 418, 3) := by decide +kernel
theorem dX9_sum_57 : decode cX9_sum 57 = .ok (.if_icmp .ge 33, 3) := by decide +kernel
theorem dX9_sum_60 : decode cX9_sum 60 = .ok (.aload_n 0, 1) := by decide +kernel
theorem dX9_sum_61 : decode cX9_sum 61 = .ok (.getfield 115, 3) := by decide +kernel
theorem dX9_sum_64 : decode cX9_sum 64 = .ok (.iload_n 1, 1) := by decide +kernel
theorem dX9_sum_65 : decode cX9_sum 65 = .ok (.aload_n 0, 1) := by decide +kernel
theorem dX9_sum_66 : decode cX9_sum 66 = .ok (.getfield 103, 3) := by decide +kernel
theorem dX9_sum_69 : decode cX9_sum 69 = .ok (.iload_n 1, 1) := by decide +kernel
theorem dX9_sum_70 : decode cX9_sum 70 = .ok (.iaload, 1) := by decide +kernel
theorem dX9_sum_71 : decode cX9_sum 71 = .ok (.iastore, 1) := by decide +kernel
theorem dX9_sum_72 : decode cX9_sum 72 = .ok (.aload_n 0, 1) := by decide +kernel
theorem dX9_sum_73 : decode cX9_sum 73 = .ok (.getfield 118, 3) := by decide +kernel
theorem dX9_sum_76 : decode cX9_sum 76 = .ok (.iload_n 1, 1) := by decide +kernel
theorem dX9_sum_77 : decode cX9_sum 77 = .ok (.aload_n 0, 1) := by decide +kernel
theorem dX9_sum_78 : decode cX9_sum 78 = .ok (.getfield 106, 3) := by decide +kernel
theorem dX9_sum_81 : decode cX9_sum 81 = .ok (.iload_n 1, 1) := by decide +kernel
theorem dX9_sum_82 : decode cX9_sum 82 = .ok (.iaload, 1) := by decide +kernel
theorem dX9_sum_83 : decode cX9_sum 83 = .ok (.iastore, 1) := by decide +kernel
theorem dX9_sum_84 : decode cX9_sum 84 = .ok (.iinc 1 1, 3) := by decide +kernel
theorem dX9_sum_87 : decode cX9_sum 87 = .ok (.goto (-35), 3) := by decide +kernel
theorem dX9_sum_90 : decode cX9_sum 90 = .ok (.iconst 0, 1) := by decide +kernel
theorem dX9_sum_91 : decode cX9_sum 91 = .ok (.istore_n 1, 1) := by decide +kernel
theorem dX9_sum_92 : decode cX9_sum 92 = .ok (.iload_n 1, 1) := by decide +kernel
theorem dX9_sum_93 : decode cX9_sum 93 = .ok (.aload_n 0, 1) := by decide +kernel
theorem dX9_sum_94 : decode cX9_sum 94 = .ok (.getfield 436, 3) := by decide +kernel
theorem dX9_sum_97 : decode cX9_sum 97 = .ok (.if_icmp .ge 49, 3) := by decide +kernel
theorem dX9_sum_100 : decode cX9_sum 100 = .ok (.aload_n 0, 1) := by decide +kernel
theorem dX9_sum_101 : decode cX9_sum 101 = .ok (.getfield 124, 3) := by decide +kernel
theorem dX9_sum_104 : decode cX9_sum 104 = .ok (.iload_n 1, 1) := by decide +kernel
theorem dX9_sum_105 : decode cX9_sum 105 = .ok (.aload_n 0, 1) := by decide +kernel
theorem dX9_sum_106 : decode cX9_sum 106 = .ok (.getfield 112, 3) := by decide +kernel
theorem dX9_sum_109 : decode cX9_sum 109 = .ok (.iload_n 1, 1) := by decide +kernel
theorem dX9_sum_110 : decode cX9_sum 110 = .ok (.iaload, 1) := by decide +kernel
theorem dX9_sum_111 : decode cX9_sum 111 = .ok (.iastore, 1) := by decide +kernel
theorem dX9_sum_112 : decode cX9_sum 112 = .ok (.aload_n 0, 1) := by decide +kernel
theorem dX9_sum_113 : decode cX9_sum 113 = .ok (.getfield 121, 3) := by decide +kernel
theorem dX9_sum_116 : decode cX9_sum 116 = .ok (.iload_n 1, 1) := by decide +kernel
theorem dX9_sum_117 : decode cX9_sum 117 = .ok (.aload_n 0, 1) := by decide +kernel
theorem dX9_sum_118 : decode cX9_sum 118 = .ok (.getfield 109, 3) := by decide +kernel
theorem dX9_sum_121 : decode cX9_sum 121 = .ok (.iload_n 1, 1) := by decide +kernel
theorem dX9_sum_122 : decode cX9_sum 122 = .ok (.iaload, 1) := by decide +kernel
theorem dX9_sum_123 : decode cX9_sum 123 = .ok (.iastore, 1) := by decide +kernel
theorem dX9_sum_124 : decode cX9_sum 124 = .ok (.aload_n 0, 1) := by decide +kernel
theorem dX9_sum_125 : decode cX9_sum 125 = .ok (.getfield 121, 3) := by decide +kernel
theorem dX9_sum_128 : decode cX9_sum 128 = .ok (.iload_n 1, 1) := by decide +kernel
theorem dX9_sum_129 : decode cX9_sum 129 = .ok (.iconst 1, 1) := by decide +kernel
theorem dX9_sum_130 : decode cX9_sum 130 = .ok (.iadd, 1) := by decide +kernel
theorem dX9_sum_131 : decode cX9_sum 131 = .ok (.aload_n 0, 1) := by decide +kernel
theorem dX9_sum_132 : decode cX9_sum 132 = .ok (.getfield 109, 3) := by decide +kernel
theorem dX9_sum_135 : decode cX9_sum 135 = .ok (.iload_n 1, 1) := by decide +kernel
theorem dX9_sum_136 : decode cX9_sum 136 = .ok (.iconst 1, 1) := by decide +kernel
theorem dX9_sum_137 : decode cX9_sum 137 = .ok (.iadd, 1) := by decide +kernel
theorem dX9_sum_138 : decode cX9_sum 138 = .ok (.iaload, 1) := by decide +kernel
theorem dX9_sum_139 : decode cX9_sum 139 = .ok (.iastore, 1) := by decide +kernel
theorem dX9_sum_140 : decode cX9_sum 140 = .ok (.iinc 1 1, 3) := by decide +kernel
theorem dX9_sum_143 : decode cX9_sum 143 = .ok (.goto (-51), 3) := by decide +kernel
theorem dX9_sum_146 : decode cX9_sum 146 = .ok (.aload_n 0, 1) := by decide +kernel
theorem dX9_sum_147 : decode cX9_sum 147 = .ok (.aload_n 0, 1) := by decide +kernel
theorem dX9_sum_148 : decode cX9_sum 148 = .ok (.getfield 439, 3) := by decide +kernel
theorem dX9_sum_151 : decode cX9_sum 151 = .ok (.putfield 460, 3) := by decide +kernel
theorem dX9_sum_154 : decode cX9_sum 154 = .ok (.aload_n 0, 1) := by decide +kernel
theorem dX9_sum_155 : decode cX9_sum 155 = .ok (.aload_n 0, 1) := by decide +kernel
theorem dX9_sum_156 : decode cX9_sum 156 = .ok (.getfield 436, 3) := by decide +kernel
theorem dX9_sum_159 : decode cX9_sum 159 = .ok (.putfield 463, 3) := by decide +kernel
theorem dX9_sum_162 : decode cX9_sum 162 = .ok (.aload_n 0, 1) := by decide +kernel
theorem dX9_sum_163 : decode cX9_sum 163 = .ok (.getfield 463, 3) := by decide +kernel
theorem dX9_sum_166 : decode cX9_sum 166 = .ok (.ireturn, 1) := by decide +kernel
theorem dX9_worked_0 : decode cX9_worked 0 = .ok (.iload_n 0, 1) := by decide +kernel
theorem dX9_worked_1 : decode cX9_worked 1 = .ok (.bipush 20, 2) := by decide +kernel
theorem dX9_worked_3 : decode cX9_worked 3 = .ok (.if_icmp .ne 9, 3) := by decide +kernel
theorem dX9_worked_6 : decode cX9_worked 6 = .ok (.iload_n 1, 1) := by decide +kernel
theorem dX9_worked_7 : decode cX9_worked 7 = .ok (.iload_n 2, 1) := by decide +kernel
theorem dX9_worked_8 : decode cX9_worked 8 = .ok (.iadd, 1) := by decide +kernel
theorem dX9_worked_9 : decode cX9_worked 9 = .ok (.goto 38, 3) := by decide +kernel
theorem dX9_worked_12 : decode cX9_worked 12 = .ok (.iload_n 0, 1) := by decide +kernel
theorem dX9_worked_13 : decode cX9_worked 13 = .ok (.bipush 21, 2) := by decide +kernel
theorem dX9_worked_15 : decode cX9_worked 15 = .ok (.if_icmp .ne 9, 3) := by decide +kernel
theorem dX9_worked_18 : decode cX9_worked 18 = .ok (.iload_n 1, 1) := by decide +kernel
theorem dX9_worked_19 : decode cX9_worked 19 = .ok (.iload_n 2, 1) := by decide +kernel
theorem dX9_worked_20 : decode cX9_worked 20 = .ok (.isub, 1) := by decide +kernel
theorem dX9_worked_21 : decode cX9_worked 21 = .ok (.goto 26, 3) := by decide +kernel
theorem dX9_worked_24 : decode cX9_worked 24 = .ok (.iload_n 0, 1) := by decide +kernel
theorem dX9_worked_25 : decode cX9_worked 25 = .ok (.bipush 22, 2) := by decide +kernel
theorem dX9_worked_27 : decode cX9_worked 27 = .ok (.if_icmp .ne 9, 3) := by decide +kernel
theorem dX9_worked_30 : decode cX9_worked 30 = .ok (.iload_n 1, 1) := by decide +kernel
theorem dX9_worked_31 : decode cX9_worked 31 = .ok (.iload_n 2, 1) := by decide +kernel
theorem dX9_worked_32 : decode cX9_worked 32 = .ok (.imul, 1) := by decide +kernel
theorem dX9_worked_33 : decode cX9_worked 33 = .ok (.goto 14, 3) := by decide +kernel
theorem dX9_worked_36 : decode cX9_worked 36 = .ok (.iload_n 2, 1) := by decide +kernel
theorem dX9_worked_37 : decode cX9_worked 37 = .ok (.ifCond .ne 7, 3) := by decide +kernel
theorem dX9_worked_40 : decode cX9_worked 40 = .ok (.iconst 0, 1) := by decide +kernel
theorem dX9_worked_41 : decode cX9_worked 41 = .ok (.goto 6, 3) := by decide +kernel
theorem dX9_worked_44 : decode cX9_worked 44 = .ok (.iload_n 1, 1) := by decide +kernel
theorem dX9_worked_45 : decode cX9_worked 45 = .ok (.iload_n 2, 1) := by decide +kernel
theorem dX9_worked_46 : decode cX9_worked 46 = .ok (.idiv, 1) := by decide +kernel
theorem dX9_worked_47 : decode cX9_worked 47 = .ok (.ireturn, 1) := by decide +kernel
theorem dX9_eOf_0 : decode cX9_eOf 0 = .ok (.iconst 0, 1) := by decide +kernel
theorem dX9_eOf_1 : decode cX9_eOf 1 = .ok (.istore_n 3, 1) := by decide +kernel
theorem dX9_eOf_2 : decode cX9_eOf 2 = .ok (.aload_n 0, 1) := by decide +kernel
theorem dX9_eOf_3 : decode cX9_eOf 3 = .ok (.getfield 121, 3) := by decide +kernel
theorem dX9_eOf_6 : decode cX9_eOf 6 = .ok (.iload_n 1, 1) := by decide +kernel
theorem dX9_eOf_7 : decode cX9_eOf 7 = .ok (.iaload, 1) := by decide +kernel
theorem dX9_eOf_8 : decode cX9_eOf 8 = .ok (.istore 4, 2) := by decide +kernel
theorem dX9_eOf_10 : decode cX9_eOf 10 = .ok (.iload 4, 2) := by decide +kernel
theorem dX9_eOf_12 : decode cX9_eOf 12 = .ok (.aload_n 0, 1) := by decide +kernel
theorem dX9_eOf_13 : decode cX9_eOf 13 = .ok (.getfield 121, 3) := by decide +kernel
theorem dX9_eOf_16 : decode cX9_eOf 16 = .ok (.iload_n 1, 1) := by decide +kernel
theorem dX9_eOf_17 : decode cX9_eOf 17 = .ok (.iconst 1, 1) := by decide +kernel
theorem dX9_eOf_18 : decode cX9_eOf 18 = .ok (.iadd, 1) := by decide +kernel
theorem dX9_eOf_19 : decode cX9_eOf 19 = .ok (.iaload, 1) := by decide +kernel
theorem dX9_eOf_20 : decode cX9_eOf 20 = .ok (.if_icmp .ge 97, 3) := by decide +kernel
theorem dX9_eOf_23 : decode cX9_eOf 23 = .ok (.aload_n 0, 1) := by decide +kernel
theorem dX9_eOf_24 : decode cX9_eOf 24 = .ok (.getfield 115, 3) := by decide +kernel
theorem dX9_eOf_27 : decode cX9_eOf 27 = .ok (.iload 4, 2) := by decide +kernel
theorem dX9_eOf_29 : decode cX9_eOf 29 = .ok (.iaload, 1) := by decide +kernel
theorem dX9_eOf_30 : decode cX9_eOf 30 = .ok (.bipush 20, 2) := by decide +kernel
theorem dX9_eOf_32 : decode cX9_eOf 32 = .ok (.if_icmp .ge 44, 3) := by decide +kernel
theorem dX9_eOf_35 : decode cX9_eOf 35 = .ok (.aload_n 0, 1) := by decide +kernel
theorem dX9_eOf_36 : decode cX9_eOf 36 = .ok (.getfield 130, 3) := by decide +kernel
theorem dX9_eOf_39 : decode cX9_eOf 39 = .ok (.iload_n 3, 1) := by decide +kernel
theorem dX9_eOf_40 : decode cX9_eOf 40 = .ok (.aload_n 0, 1) := by decide +kernel
theorem dX9_eOf_41 : decode cX9_eOf 41 = .ok (.getfield 115, 3) := by decide +kernel
theorem dX9_eOf_44 : decode cX9_eOf 44 = .ok (.iload 4, 2) := by decide +kernel
theorem dX9_eOf_46 : decode cX9_eOf 46 = .ok (.iaload, 1) := by decide +kernel
theorem dX9_eOf_47 : decode cX9_eOf 47 = .ok (.ifCond .ne 13, 3) := by decide +kernel
theorem dX9_eOf_50 : decode cX9_eOf 50 = .ok (.aload_n 0, 1) := by decide +kernel
theorem dX9_eOf_51 : decode cX9_eOf 51 = .ok (.getfield 118, 3) := by decide +kernel
theorem dX9_eOf_54 : decode cX9_eOf 54 = .ok (.iload 4, 2) := by decide +kernel
theorem dX9_eOf_56 : decode cX9_eOf 56 = .ok (.iaload, 1) := by decide +kernel
theorem dX9_eOf_57 : decode cX9_eOf 57 = .ok (.goto 12, 3) := by decide +kernel
theorem dX9_eOf_60 : decode cX9_eOf 60 = .ok (.aload_n 2, 1) := by decide +kernel
theorem dX9_eOf_61 : decode cX9_eOf 61 = .ok (.aload_n 0, 1) := by decide +kernel
theorem dX9_eOf_62 : decode cX9_eOf 62 = .ok (.getfield 118, 3) := by decide +kernel
theorem dX9_eOf_65 : decode cX9_eOf 65 = .ok (.iload 4, 2) := by decide +kernel
theorem dX9_eOf_67 : decode cX9_eOf 67 = .ok (.iaload, 1) := by decide +kernel
theorem dX9_eOf_68 : decode cX9_eOf 68 = .ok (.iaload, 1) := by decide +kernel
theorem dX9_eOf_69 : decode cX9_eOf 69 = .ok (.iastore, 1) := by decide +kernel
theorem dX9_eOf_70 : decode cX9_eOf 70 = .ok (.iinc 3 1, 3) := by decide +kernel
theorem dX9_eOf_73 : decode cX9_eOf 73 = .ok (.goto 38, 3) := by decide +kernel
theorem dX9_eOf_76 : decode cX9_eOf 76 = .ok (.iinc 3 (-1), 3) := by decide +kernel
theorem dX9_eOf_79 : decode cX9_eOf 79 = .ok (.aload_n 0, 1) := by decide +kernel
theorem dX9_eOf_80 : decode cX9_eOf 80 = .ok (.getfield 130, 3) := by decide +kernel
theorem dX9_eOf_83 : decode cX9_eOf 83 = .ok (.iload_n 3, 1) := by decide +kernel
theorem dX9_eOf_84 : decode cX9_eOf 84 = .ok (.iconst 1, 1) := by decide +kernel
theorem dX9_eOf_85 : decode cX9_eOf 85 = .ok (.isub, 1) := by decide +kernel
theorem dX9_eOf_86 : decode cX9_eOf 86 = .ok (.aload_n 0, 1) := by decide +kernel
theorem dX9_eOf_87 : decode cX9_eOf 87 = .ok (.getfield 115, 3) := by decide +kernel
theorem dX9_eOf_90 : decode cX9_eOf 90 = .ok (.iload 4, 2) := by decide +kernel
theorem dX9_eOf_92 : decode cX9_eOf 92 = .ok (.iaload, 1) := by decide +kernel
theorem dX9_eOf_93 : decode cX9_eOf 93 = .ok (.aload_n 0, 1) := by decide +kernel
theorem dX9_eOf_94 : decode cX9_eOf 94 = .ok (.getfield 130, 3) := by decide +kernel
theorem dX9_eOf_97 : decode cX9_eOf 97 = .ok (.iload_n 3, 1) := by decide +kernel
theorem dX9_eOf_98 : decode cX9_eOf 98 = .ok (.iconst 1, 1) := by decide +kernel
theorem dX9_eOf_99 : decode cX9_eOf 99 = .ok (.isub, 1) := by decide +kernel
theorem dX9_eOf_100 : decode cX9_eOf 100 = .ok (.iaload, 1) := by decide +kernel
theorem dX9_eOf_101 : decode cX9_eOf 101 = .ok (.aload_n 0, 1) := by decide +kernel
theorem dX9_eOf_102 : decode cX9_eOf 102 = .ok (.getfield 130, 3) := by decide +kernel
theorem dX9_eOf_105 : decode cX9_eOf 105 = .ok (.iload_n 3, 1) := by decide +kernel
theorem dX9_eOf_106 : decode cX9_eOf 106 = .ok (.iaload, 1) := by decide +kernel
theorem dX9_eOf_107 : decode cX9_eOf 107 = .ok (.invokestatic 466, 3) := by decide +kernel
theorem dX9_eOf_110 : decode cX9_eOf 110 = .ok (.iastore, 1) := by decide +kernel
theorem dX9_eOf_111 : decode cX9_eOf 111 = .ok (.iinc 4 1, 3) := by decide +kernel
theorem dX9_eOf_114 : decode cX9_eOf 114 = .ok (.goto (-104), 3) := by decide +kernel
theorem dX9_eOf_117 : decode cX9_eOf 117 = .ok (.aload_n 0, 1) := by decide +kernel
theorem dX9_eOf_118 : decode cX9_eOf 118 = .ok (.getfield 130, 3) := by decide +kernel
theorem dX9_eOf_121 : decode cX9_eOf 121 = .ok (.iconst 0, 1) := by decide +kernel
theorem dX9_eOf_122 : decode cX9_eOf 122 = .ok (.iaload, 1) := by decide +kernel
theorem dX9_eOf_123 : decode cX9_eOf 123 = .ok (.ireturn, 1) := by decide +kernel
theorem dX9_slipOf_0 : decode cX9_slipOf 0 = .ok (.aload_n 0, 1) := by decide +kernel
theorem dX9_slipOf_1 : decode cX9_slipOf 1 = .ok (.getfield 124, 3) := by decide +kernel
theorem dX9_slipOf_4 : decode cX9_slipOf 4 = .ok (.iload_n 1, 1) := by decide +kernel
theorem dX9_slipOf_5 : decode cX9_slipOf 5 = .ok (.iaload, 1) := by decide +kernel
theorem dX9_slipOf_6 : decode cX9_slipOf 6 = .ok (.aload_n 0, 1) := by decide +kernel
theorem dX9_slipOf_7 : decode cX9_slipOf 7 = .ok (.iload_n 1, 1) := by decide +kernel
theorem dX9_slipOf_8 : decode cX9_slipOf 8 = .ok (.aload_n 0, 1) := by decide +kernel
theorem dX9_slipOf_9 : decode cX9_slipOf 9 = .ok (.getfield 124, 3) := by decide +kernel
theorem dX9_slipOf_12 : decode cX9_slipOf 12 = .ok (.invokevirtual 470, 3) := by decide +kernel
theorem dX9_slipOf_15 : decode cX9_slipOf 15 = .ok (.isub, 1) := by decide +kernel
theorem dX9_slipOf_16 : decode cX9_slipOf 16 = .ok (.ireturn, 1) := by decide +kernel
theorem dX9_without_0 : decode cX9_without 0 = .ok (.iconst 0, 1) := by decide +kernel
theorem dX9_without_1 : decode cX9_without 1 = .ok (.istore_n 2, 1) := by decide +kernel
theorem dX9_without_2 : decode cX9_without 2 = .ok (.iload_n 2, 1) := by decide +kernel
theorem dX9_without_3 : decode cX9_without 3 = .ok (.aload_n 0, 1) := by decide +kernel
theorem dX9_without_4 : decode cX9_without 4 = .ok (.getfield 463, 3) := by decide +kernel
theorem dX9_without_7 : decode cX9_without 7 = .ok (.if_icmp .ge 39, 3) := by decide +kernel
theorem dX9_without_10 : decode cX9_without 10 = .ok (.aload_n 0, 1) := by decide +kernel
theorem dX9_without_11 : decode cX9_without 11 = .ok (.getfield 133, 3) := by decide +kernel
theorem dX9_without_14 : decode cX9_without 14 = .ok (.iload_n 2, 1) := by decide +kernel
theorem dX9_without_15 : decode cX9_without 15 = .ok (.aload_n 0, 1) := by decide +kernel
theorem dX9_without_16 : decode cX9_without 16 = .ok (.iload_n 2, 1) := by decide +kernel
theorem dX9_without_17 : decode cX9_without 17 = .ok (.aload_n 0, 1) := by decide +kernel
theorem dX9_without_18 : decode cX9_without 18 = .ok (.getfield 133, 3) := by decide +kernel
theorem dX9_without_21 : decode cX9_without 21 = .ok (.invokevirtual 470, 3) := by decide +kernel
theorem dX9_without_24 : decode cX9_without 24 = .ok (.iload_n 2, 1) := by decide +kernel
theorem dX9_without_25 : decode cX9_without 25 = .ok (.iload_n 1, 1) := by decide +kernel
theorem dX9_without_26 : decode cX9_without 26 = .ok (.if_icmp .ne 7, 3) := by decide +kernel
theorem dX9_without_29 : decode cX9_without 29 = .ok (.iconst 0, 1) := by decide +kernel
theorem dX9_without_30 : decode cX9_without 30 = .ok (.goto 8, 3) := by decide +kernel
theorem dX9_without_33 : decode cX9_without 33 = .ok (.aload_n 0, 1) := by decide +kernel
theorem dX9_without_34 : decode cX9_without 34 = .ok (.iload_n 2, 1) := by decide +kernel
theorem dX9_without_35 : decode cX9_without 35 = .ok (.invokevirtual 474, 3) := by decide +kernel
theorem dX9_without_38 : decode cX9_without 38 = .ok (.iadd, 1) := by decide +kernel
theorem dX9_without_39 : decode cX9_without 39 = .ok (.iastore, 1) := by decide +kernel
theorem dX9_without_40 : decode cX9_without 40 = .ok (.iinc 2 1, 3) := by decide +kernel
theorem dX9_without_43 : decode cX9_without 43 = .ok (.goto (-41), 3) := by decide +kernel
theorem dX9_without_46 : decode cX9_without 46 = .ok (.aload_n 0, 1) := by decide +kernel
theorem dX9_without_47 : decode cX9_without 47 = .ok (.getfield 133, 3) := by decide +kernel
theorem dX9_without_50 : decode cX9_without 50 = .ok (.aload_n 0, 1) := by decide +kernel
theorem dX9_without_51 : decode cX9_without 51 = .ok (.getfield 463, 3) := by decide +kernel
theorem dX9_without_54 : decode cX9_without 54 = .ok (.iconst 1, 1) := by decide +kernel
theorem dX9_without_55 : decode cX9_without 55 = .ok (.isub, 1) := by decide +kernel
theorem dX9_without_56 : decode cX9_without 56 = .ok (.iaload, 1) := by decide +kernel
theorem dX9_without_57 : decode cX9_without 57 = .ok (.ireturn, 1) := by decide +kernel
theorem dX9_line_0 : decode cX9_line 0 = .ok (.iload_n 1, 1) := by decide +kernel
theorem dX9_line_1 : decode cX9_line 1 = .ok (.ifCond .lt 11, 3) := by decide +kernel
theorem dX9_line_4 : decode cX9_line 4 = .ok (.iload_n 1, 1) := by decide +kernel
theorem dX9_line_5 : decode cX9_line 5 = .ok (.aload_n 0, 1) := by decide +kernel
theorem dX9_line_6 : decode cX9_line 6 = .ok (.getfield 463, 3) := by decide +kernel
theorem dX9_line_9 : decode cX9_line 9 = .ok (.if_icmp .lt 7, 3) := by decide +kernel
theorem dX9_line_12 : decode cX9_line 12 = .ok (.ldc2_w 330, 3) := by decide +kernel
theorem dX9_line_15 : decode cX9_line 15 = .ok (.lreturn, 1) := by decide +kernel
theorem dX9_line_16 : decode cX9_line 16 = .ok (.iload_n 2, 1) := by decide +kernel
theorem dX9_line_17 : decode cX9_line 17 = .ok (.tableswitch 64 0 2 #[27, 38, 45], 27) := by decide +kernel
theorem dX9_line_44 : decode cX9_line 44 = .ok (.aload_n 0, 1) := by decide +kernel
theorem dX9_line_45 : decode cX9_line 45 = .ok (.iload_n 1, 1) := by decide +kernel
theorem dX9_line_46 : decode cX9_line 46 = .ok (.aload_n 0, 1) := by decide +kernel
theorem dX9_line_47 : decode cX9_line 47 = .ok (.getfield 124, 3) := by decide +kernel
theorem dX9_line_50 : decode cX9_line 50 = .ok (.invokevirtual 470, 3) := by decide +kernel
theorem dX9_line_53 : decode cX9_line 53 = .ok (.i2l, 1) := by decide +kernel
theorem dX9_line_54 : decode cX9_line 54 = .ok (.lreturn, 1) := by decide +kernel
theorem dX9_line_55 : decode cX9_line 55 = .ok (.aload_n 0, 1) := by decide +kernel
theorem dX9_line_56 : decode cX9_line 56 = .ok (.iload_n 1, 1) := by decide +kernel
theorem dX9_line_57 : decode cX9_line 57 = .ok (.invokevirtual 474, 3) := by decide +kernel
theorem dX9_line_60 : decode cX9_line 60 = .ok (.i2l, 1) := by decide +kernel
theorem dX9_line_61 : decode cX9_line 61 = .ok (.lreturn, 1) := by decide +kernel
theorem dX9_line_62 : decode cX9_line 62 = .ok (.aload_n 0, 1) := by decide +kernel
theorem dX9_line_63 : decode cX9_line 63 = .ok (.getfield 124, 3) := by decide +kernel
theorem dX9_line_66 : decode cX9_line 66 = .ok (.aload_n 0, 1) := by decide +kernel
theorem dX9_line_67 : decode cX9_line 67 = .ok (.getfield 463, 3) := by decide +kernel
theorem dX9_line_70 : decode cX9_line 70 = .ok (.iconst 1, 1) := by decide +kernel
theorem dX9_line_71 : decode cX9_line 71 = .ok (.isub, 1) := by decide +kernel
theorem dX9_line_72 : decode cX9_line 72 = .ok (.iaload, 1) := by decide +kernel
theorem dX9_line_73 : decode cX9_line 73 = .ok (.aload_n 0, 1) := by decide +kernel
theorem dX9_line_74 : decode cX9_line 74 = .ok (.iload_n 1, 1) := by decide +kernel
theorem dX9_line_75 : decode cX9_line 75 = .ok (.invokevirtual 477, 3) := by decide +kernel
theorem dX9_line_78 : decode cX9_line 78 = .ok (.isub, 1) := by decide +kernel
theorem dX9_line_79 : decode cX9_line 79 = .ok (.i2l, 1) := by decide +kernel
theorem dX9_line_80 : decode cX9_line 80 = .ok (.lreturn, 1) := by decide +kernel
theorem dX9_line_81 : decode cX9_line 81 = .ok (.ldc2_w 330, 3) := by decide +kernel
theorem dX9_line_84 : decode cX9_line 84 = .ok (.lreturn, 1) := by decide +kernel
theorem dX9_right_0 : decode cX9_right 0 = .ok (.aload_n 0, 1) := by decide +kernel
theorem dX9_right_1 : decode cX9_right 1 = .ok (.getfield 463, 3) := by decide +kernel
theorem dX9_right_4 : decode cX9_right 4 = .ok (.ifCond .ne 7, 3) := by decide +kernel
theorem dX9_right_7 : decode cX9_right 7 = .ok (.ldc2_w 330, 3) := by decide +kernel
theorem dX9_right_10 : decode cX9_right 10 = .ok (.lreturn, 1) := by decide +kernel
theorem dX9_right_11 : decode cX9_right 11 = .ok (.iconst 0, 1) := by decide +kernel
theorem dX9_right_12 : decode cX9_right 12 = .ok (.istore_n 1, 1) := by decide +kernel
theorem dX9_right_13 : decode cX9_right 13 = .ok (.iload_n 1, 1) := by decide +kernel
theorem dX9_right_14 : decode cX9_right 14 = .ok (.aload_n 0, 1) := by decide +kernel
theorem dX9_right_15 : decode cX9_right 15 = .ok (.getfield 463, 3) := by decide +kernel
theorem dX9_right_18 : decode cX9_right 18 = .ok (.if_icmp .ge 24, 3) := by decide +kernel
theorem dX9_right_21 : decode cX9_right 21 = .ok (.aload_n 0, 1) := by decide +kernel
theorem dX9_right_22 : decode cX9_right 22 = .ok (.getfield 133, 3) := by decide +kernel
theorem dX9_right_25 : decode cX9_right 25 = .ok (.iload_n 1, 1) := by decide +kernel
theorem dX9_right_26 : decode cX9_right 26 = .ok (.aload_n 0, 1) := by decide +kernel
theorem dX9_right_27 : decode cX9_right 27 = .ok (.iload_n 1, 1) := by decide +kernel
theorem dX9_right_28 : decode cX9_right 28 = .ok (.aload_n 0, 1) := by decide +kernel
theorem dX9_right_29 : decode cX9_right 29 = .ok (.getfield 133, 3) := by decide +kernel
theorem dX9_right_32 : decode cX9_right 32 = .ok (.invokevirtual 470, 3) := by decide +kernel
theorem dX9_right_35 : decode cX9_right 35 = .ok (.iastore, 1) := by decide +kernel
theorem dX9_right_36 : decode cX9_right 36 = .ok (.iinc 1 1, 3) := by decide +kernel
theorem dX9_right_39 : decode cX9_right 39 = .ok (.goto (-26), 3) := by decide +kernel
theorem dX9_right_42 : decode cX9_right 42 = .ok (.aload_n 0, 1) := by decide +kernel
theorem dX9_right_43 : decode cX9_right 43 = .ok (.getfield 133, 3) := by decide +kernel
theorem dX9_right_46 : decode cX9_right 46 = .ok (.aload_n 0, 1) := by decide +kernel
theorem dX9_right_47 : decode cX9_right 47 = .ok (.getfield 463, 3) := by decide +kernel
theorem dX9_right_50 : decode cX9_right 50 = .ok (.iconst 1, 1) := by decide +kernel
theorem dX9_right_51 : decode cX9_right 51 = .ok (.isub, 1) := by decide +kernel
theorem dX9_right_52 : decode cX9_right 52 = .ok (.iaload, 1) := by decide +kernel
theorem dX9_right_53 : decode cX9_right 53 = .ok (.i2l, 1) := by decide +kernel
theorem dX9_right_54 : decode cX9_right 54 = .ok (.lreturn, 1) := by decide +kernel
theorem dX9_result_0 : decode cX9_result 0 = .ok (.iload_n 1, 1) := by decide +kernel
theorem dX9_result_1 : decode cX9_result 1 = .ok (.ifCond .lt 30, 3) := by decide +kernel
theorem dX9_result_4 : decode cX9_result 4 = .ok (.iload_n 1, 1) := by decide +kernel
theorem dX9_result_5 : decode cX9_result 5 = .ok (.aload_n 0, 1) := by decide +kernel
theorem dX9_result_6 : decode cX9_result 6 = .ok (.getfield 300, 3) := by decide +kernel
theorem dX9_result_9 : decode cX9_result 9 = .ok (.if_icmp .ge 22, 3) := by decide +kernel
theorem dX9_result_12 : decode cX9_result 12 = .ok (.aload_n 0, 1) := by decide +kernel
theorem dX9_result_13 : decode cX9_result 13 = .ok (.getfield 136, 3) := by decide +kernel
theorem dX9_result_16 : decode cX9_result 16 = .ok (.iload_n 1, 1) := by decide +kernel
theorem dX9_result_17 : decode cX9_result 17 = .ok (.baload, 1) := by decide +kernel
theorem dX9_result_18 : decode cX9_result 18 = .ok (.ifCond .eq 15, 3) := by decide +kernel
theorem dX9_result_21 : decode cX9_result 21 = .ok (.aload_n 0, 1) := by decide +kernel
theorem dX9_result_22 : decode cX9_result 22 = .ok (.getfield 139, 3) := by decide +kernel
theorem dX9_result_25 : decode cX9_result 25 = .ok (.iload_n 1, 1) := by decide +kernel
theorem dX9_result_26 : decode cX9_result 26 = .ok (.baload, 1) := by decide +kernel
theorem dX9_result_27 : decode cX9_result 27 = .ok (.iload_n 2, 1) := by decide +kernel
theorem dX9_result_28 : decode cX9_result 28 = .ok (.if_icmp .ne 5, 3) := by decide +kernel
theorem dX9_result_31 : decode cX9_result 31 = .ok (.iconst 0, 1) := by decide +kernel
theorem dX9_result_32 : decode cX9_result 32 = .ok (.ireturn, 1) := by decide +kernel
theorem dX9_result_33 : decode cX9_result 33 = .ok (.aload_n 0, 1) := by decide +kernel
theorem dX9_result_34 : decode cX9_result 34 = .ok (.getfield 136, 3) := by decide +kernel
theorem dX9_result_37 : decode cX9_result 37 = .ok (.iload_n 1, 1) := by decide +kernel
theorem dX9_result_38 : decode cX9_result 38 = .ok (.iconst 1, 1) := by decide +kernel
theorem dX9_result_39 : decode cX9_result 39 = .ok (.bastore, 1) := by decide +kernel
theorem dX9_result_40 : decode cX9_result 40 = .ok (.aload_n 0, 1) := by decide +kernel
theorem dX9_result_41 : decode cX9_result 41 = .ok (.getfield 139, 3) := by decide +kernel
theorem dX9_result_44 : decode cX9_result 44 = .ok (.iload_n 1, 1) := by decide +kernel
theorem dX9_result_45 : decode cX9_result 45 = .ok (.iload_n 2, 1) := by decide +kernel
theorem dX9_result_46 : decode cX9_result 46 = .ok (.bastore, 1) := by decide +kernel
theorem dX9_result_47 : decode cX9_result 47 = .ok (.iconst 1, 1) := by decide +kernel
theorem dX9_result_48 : decode cX9_result 48 = .ok (.ireturn, 1) := by decide +kernel
theorem dX9_mayBe_0 : decode cX9_mayBe 0 = .ok (.iconst 1, 1) := by decide +kernel
theorem dX9_mayBe_1 : decode cX9_mayBe 1 = .ok (.aload_n 0, 1) := by decide +kernel
theorem dX9_mayBe_2 : decode cX9_mayBe 2 = .ok (.getfield 297, 3) := by decide +kernel
theorem dX9_mayBe_5 : decode cX9_mayBe 5 = .ok (.ishl, 1) := by decide +kernel
theorem dX9_mayBe_6 : decode cX9_mayBe 6 = .ok (.iconst 1, 1) := by decide +kernel
theorem dX9_mayBe_7 : decode cX9_mayBe 7 = .ok (.isub, 1) := by decide +kernel
theorem dX9_mayBe_8 : decode cX9_mayBe 8 = .ok (.istore_n 1, 1) := by decide +kernel
theorem dX9_mayBe_9 : decode cX9_mayBe 9 = .ok (.iconst 0, 1) := by decide +kernel
theorem dX9_mayBe_10 : decode cX9_mayBe 10 = .ok (.istore_n 2, 1) := by decide +kernel
theorem dX9_mayBe_11 : decode cX9_mayBe 11 = .ok (.iload_n 2, 1) := by decide +kernel
theorem dX9_mayBe_12 : decode cX9_mayBe 12 = .ok (.aload_n 0, 1) := by decide +kernel
theorem dX9_mayBe_13 : decode cX9_mayBe 13 = .ok (.getfield 300, 3) := by decide +kernel
theorem dX9_mayBe_16 : decode cX9_mayBe 16 = .ok (.if_icmp .ge 47, 3) := by decide +kernel
theorem dX9_mayBe_19 : decode cX9_mayBe 19 = .ok (.aload_n 0, 1) := by decide +kernel
theorem dX9_mayBe_20 : decode cX9_mayBe 20 = .ok (.getfield 136, 3) := by decide +kernel
theorem dX9_mayBe_23 : decode cX9_mayBe 23 = .ok (.iload_n 2, 1) := by decide +kernel
theorem dX9_mayBe_24 : decode cX9_mayBe 24 = .ok (.baload, 1) := by decide +kernel
theorem dX9_mayBe_25 : decode cX9_mayBe 25 = .ok (.ifCond .eq 32, 3) := by decide +kernel
theorem dX9_mayBe_28 : decode cX9_mayBe 28 = .ok (.iload_n 1, 1) := by decide +kernel
theorem dX9_mayBe_29 : decode cX9_mayBe 29 = .ok (.aload_n 0, 1) := by decide +kernel
theorem dX9_mayBe_30 : decode cX9_mayBe 30 = .ok (.getfield 139, 3) := by decide +kernel
theorem dX9_mayBe_33 : decode cX9_mayBe 33 = .ok (.iload_n 2, 1) := by decide +kernel
theorem dX9_mayBe_34 : decode cX9_mayBe 34 = .ok (.baload, 1) := by decide +kernel
theorem dX9_mayBe_35 : decode cX9_mayBe 35 = .ok (.ifCond .eq 12, 3) := by decide +kernel
theorem dX9_mayBe_38 : decode cX9_mayBe 38 = .ok (.aload_n 0, 1) := by decide +kernel
theorem dX9_mayBe_39 : decode cX9_mayBe 39 = .ok (.getfield 26, 3) := by decide +kernel
theorem dX9_mayBe_42 : decode cX9_mayBe 42 = .ok (.iload_n 2, 1) := by decide +kernel
theorem dX9_mayBe_43 : decode cX9_mayBe 43 = .ok (.iaload, 1) := by decide +kernel
theorem dX9_mayBe_44 : decode cX9_mayBe 44 = .ok (.goto 11, 3) := by decide +kernel
theorem dX9_mayBe_47 : decode cX9_mayBe 47 = .ok (.aload_n 0, 1) := by decide +kernel
theorem dX9_mayBe_48 : decode cX9_mayBe 48 = .ok (.getfield 26, 3) := by decide +kernel
theorem dX9_mayBe_51 : decode cX9_mayBe 51 = .ok (.iload_n 2, 1) := by decide +kernel
theorem dX9_mayBe_52 : decode cX9_mayBe 52 = .ok (.iaload, 1) := by decide +kernel
theorem dX9_mayBe_53 : decode cX9_mayBe 53 = .ok (.iconst (-1), 1) := by decide +kernel
theorem dX9_mayBe_54 : decode cX9_mayBe 54 = .ok (.ixor, 1) := by decide +kernel
theorem dX9_mayBe_55 : decode cX9_mayBe 55 = .ok (.iand, 1) := by decide +kernel
theorem dX9_mayBe_56 : decode cX9_mayBe 56 = .ok (.istore_n 1, 1) := by decide +kernel
theorem dX9_mayBe_57 : decode cX9_mayBe 57 = .ok (.iinc 2 1, 3) := by decide +kernel
theorem dX9_mayBe_60 : decode cX9_mayBe 60 = .ok (.goto (-49), 3) := by decide +kernel
theorem dX9_mayBe_63 : decode cX9_mayBe 63 = .ok (.iload_n 1, 1) := by decide +kernel
theorem dX9_mayBe_64 : decode cX9_mayBe 64 = .ok (.ireturn, 1) := by decide +kernel
theorem dX9_maybe_0 : decode cX9_maybe 0 = .ok (.aload_n 0, 1) := by decide +kernel
theorem dX9_maybe_1 : decode cX9_maybe 1 = .ok (.invokevirtual 480, 3) := by decide +kernel
theorem dX9_maybe_4 : decode cX9_maybe 4 = .ok (.ireturn, 1) := by decide +kernel
theorem dX9_next_0 : decode cX9_next 0 = .ok (.aload_n 0, 1) := by decide +kernel
theorem dX9_next_1 : decode cX9_next 1 = .ok (.invokevirtual 480, 3) := by decide +kernel
theorem dX9_next_4 : decode cX9_next 4 = .ok (.istore_n 1, 1) := by decide +kernel
theorem dX9_next_5 : decode cX9_next 5 = .ok (.iconst (-1), 1) := by decide +kernel
theorem dX9_next_6 : decode cX9_next 6 = .ok (.istore_n 2, 1) := by decide +kernel
theorem dX9_next_7 : decode cX9_next 7 = .ok (.iconst 0, 1) := by decide +kernel
theorem dX9_next_8 : decode cX9_next 8 = .ok (.istore_n 3, 1) := by decide +kernel
theorem dX9_next_9 : decode cX9_next 9 = .ok (.iconst 0, 1) := by decide +kernel
theorem dX9_next_10 : decode cX9_next 10 = .ok (.istore 4, 2) := by decide +kernel
theorem dX9_next_12 : decode cX9_next 12 = .ok (.iload 4, 2) := by decide +kernel
theorem dX9_next_14 : decode cX9_next 14 = .ok (.aload_n 0, 1) := by decide +kernel
theorem dX9_next_15 : decode cX9_next 15 = .ok (.getfield 300, 3) := by decide +kernel
theorem dX9_next_18 : decode cX9_next 18 = .ok (.if_icmp .ge 94, 3) := by decide +kernel
theorem dX9_next_21 : decode cX9_next 21 = .ok (.iload_n 1, 1) := by decide +kernel
theorem dX9_next_22 : decode cX9_next 22 = .ok (.aload_n 0, 1) := by decide +kernel
theorem dX9_next_23 : decode cX9_next 23 = .ok (.getfield 26, 3) := by decide +kernel
theorem dX9_next_26 : decode cX9_next 26 = .ok (.iload 4, 2) := by decide +kernel
theorem dX9_next_28 : decode cX9_next 28 = .ok (.iaload, 1) := by decide +kernel
theorem dX9_next_29 : decode cX9_next 29 = .ok (.iand, 1) := by decide +kernel
theorem dX9_next_30 : decode cX9_next 30 = .ok (.invokestatic 390, 3) := by decide +kernel
theorem dX9_next_33 : decode cX9_next 33 = .ok (.istore 5, 2) := by decide +kernel
theorem dX9_next_35 : decode cX9_next 35 = .ok (.iload_n 1, 1) := by decide +kernel
theorem dX9_next_36 : decode cX9_next 36 = .ok (.aload_n 0, 1) := by decide +kernel
theorem dX9_next_37 : decode cX9_next 37 = .ok (.getfield 26, 3) := by decide +kernel
theorem dX9_next_40 : decode cX9_next 40 = .ok (.iload 4, 2) := by decide +kernel
theorem dX9_next_42 : decode cX9_next 42 = .ok (.iaload, 1) := by decide +kernel
theorem dX9_next_43 : decode cX9_next 43 = .ok (.iconst (-1), 1) := by decide +kernel
theorem dX9_next_44 : decode cX9_next 44 = .ok (.ixor, 1) := by decide +kernel
theorem dX9_next_45 : decode cX9_next 45 = .ok (.iand, 1) := by decide +kernel
theorem dX9_next_46 : decode cX9_next 46 = .ok (.invokestatic 390, 3) := by decide +kernel
theorem dX9_next_49 : decode cX9_next 49 = .ok (.istore 6, 2) := by decide +kernel
theorem dX9_next_51 : decode cX9_next 51 = .ok (.iload 5, 2) := by decide +kernel
theorem dX9_next_53 : decode cX9_next 53 = .ok (.iload 6, 2) := by decide +kernel
theorem dX9_next_55 : decode cX9_next 55 = .ok (.if_icmp .le 8, 3) := by decide +kernel
theorem dX9_next_58 : decode cX9_next 58 = .ok (.iload 5, 2) := by decide +kernel
theorem dX9_next_60 : decode cX9_next 60 = .ok (.goto 5, 3) := by decide +kernel
theorem dX9_next_63 : decode cX9_next 63 = .ok (.iload 6, 2) := by decide +kernel
theorem dX9_next_65 : decode cX9_next 65 = .ok (.istore 7, 2) := by decide +kernel
theorem dX9_next_67 : decode cX9_next 67 = .ok (.aload_n 0, 1) := by decide +kernel
theorem dX9_next_68 : decode cX9_next 68 = .ok (.getfield 136, 3) := by decide +kernel
theorem dX9_next_71 : decode cX9_next 71 = .ok (.iload 4, 2) := by decide +kernel
theorem dX9_next_73 : decode cX9_next 73 = .ok (.baload, 1) := by decide +kernel
theorem dX9_next_74 : decode cX9_next 74 = .ok (.ifCond .ne 32, 3) := by decide +kernel
theorem dX9_next_77 : decode cX9_next 77 = .ok (.iload 5, 2) := by decide +kernel
theorem dX9_next_79 : decode cX9_next 79 = .ok (.ifCond .eq 27, 3) := by decide +kernel
theorem dX9_next_82 : decode cX9_next 82 = .ok (.iload 6, 2) := by decide +kernel
theorem dX9_next_84 : decode cX9_next 84 = .ok (.ifCond .eq 22, 3) := by decide +kernel
theorem dX9_next_87 : decode cX9_next 87 = .ok (.iload_n 2, 1) := by decide +kernel
theorem dX9_next_88 : decode cX9_next 88 = .ok (.ifCond .lt 12, 3) := by decide +kernel
theorem dX9_next_91 : decode cX9_next 91 = .ok (.iload 7, 2) := by decide +kernel
theorem dX9_next_93 : decode cX9_next 93 = .ok (.iload_n 3, 1) := by decide +kernel
theorem dX9_next_94 : decode cX9_next 94 = .ok (.if_icmp .lt 6, 3) := by decide +kernel
theorem dX9_next_97 : decode cX9_next 97 = .ok (.goto 9, 3) := by decide +kernel
theorem dX9_next_100 : decode cX9_next 100 = .ok (.iload 4, 2) := by decide +kernel
theorem dX9_next_102 : decode cX9_next 102 = .ok (.istore_n 2, 1) := by decide +kernel
theorem dX9_next_103 : decode cX9_next 103 = .ok (.iload 7, 2) := by decide +kernel
theorem dX9_next_105 : decode cX9_next 105 = .ok (.istore_n 3, 1) := by decide +kernel
theorem dX9_next_106 : decode cX9_next 106 = .ok (.iinc 4 1, 3) := by decide +kernel
theorem dX9_next_109 : decode cX9_next 109 = .ok (.goto (-97), 3) := by decide +kernel
theorem dX9_next_112 : decode cX9_next 112 = .ok (.iload_n 2, 1) := by decide +kernel
theorem dX9_next_113 : decode cX9_next 113 = .ok (.ireturn, 1) := by decide +kernel
theorem dX9_fewest_0 : decode cX9_fewest 0 = .ok (.aload_n 0, 1) := by decide +kernel
theorem dX9_fewest_1 : decode cX9_fewest 1 = .ok (.invokevirtual 480, 3) := by decide +kernel
theorem dX9_fewest_4 : decode cX9_fewest 4 = .ok (.istore_n 1, 1) := by decide +kernel
theorem dX9_fewest_5 : decode cX9_fewest 5 = .ok (.iconst 0, 1) := by decide +kernel
theorem dX9_fewest_6 : decode cX9_fewest 6 = .ok (.istore_n 2, 1) := by decide +kernel
theorem dX9_fewest_7 : decode cX9_fewest 7 = .ok (.iload_n 2, 1) := by decide +kernel
theorem dX9_fewest_8 : decode cX9_fewest 8 = .ok (.iconst 1, 1) := by decide +kernel
theorem dX9_fewest_9 : decode cX9_fewest 9 = .ok (.aload_n 0, 1) := by decide +kernel
theorem dX9_fewest_10 : decode cX9_fewest 10 = .ok (.getfield 297, 3) := by decide +kernel
theorem dX9_fewest_13 : decode cX9_fewest 13 = .ok (.ishl, 1) := by decide +kernel
theorem dX9_fewest_14 : decode cX9_fewest 14 = .ok (.if_icmp .ge 182, 3) := by decide +kernel
theorem dX9_fewest_17 : decode cX9_fewest 17 = .ok (.aload_n 0, 1) := by decide +kernel
theorem dX9_fewest_18 : decode cX9_fewest 18 = .ok (.getfield 142, 3) := by decide +kernel
theorem dX9_fewest_21 : decode cX9_fewest 21 = .ok (.iload_n 2, 1) := by decide +kernel
theorem dX9_fewest_22 : decode cX9_fewest 22 = .ok (.iload_n 2, 1) := by decide +kernel
theorem dX9_fewest_23 : decode cX9_fewest 23 = .ok (.invokestatic 390, 3) := by decide +kernel
theorem dX9_fewest_26 : decode cX9_fewest 26 = .ok (.iconst 2, 1) := by decide +kernel
theorem dX9_fewest_27 : decode cX9_fewest 27 = .ok (.if_icmp .ge 7, 3) := by decide +kernel
theorem dX9_fewest_30 : decode cX9_fewest 30 = .ok (.iconst 0, 1) := by decide +kernel
theorem dX9_fewest_31 : decode cX9_fewest 31 = .ok (.goto 4, 3) := by decide +kernel
theorem dX9_fewest_34 : decode cX9_fewest 34 = .ok (.iconst (-1), 1) := by decide +kernel
theorem dX9_fewest_35 : decode cX9_fewest 35 = .ok (.iastore, 1) := by decide +kernel
theorem dX9_fewest_36 : decode cX9_fewest 36 = .ok (.iconst 0, 1) := by decide +kernel
theorem dX9_fewest_37 : decode cX9_fewest 37 = .ok (.istore_n 3, 1) := by decide +kernel
theorem dX9_fewest_38 : decode cX9_fewest 38 = .ok (.iload_n 3, 1) := by decide +kernel
theorem dX9_fewest_39 : decode cX9_fewest 39 = .ok (.aload_n 0, 1) := by decide +kernel
theorem dX9_fewest_40 : decode cX9_fewest 40 = .ok (.getfield 300, 3) := by decide +kernel
theorem dX9_fewest_43 : decode cX9_fewest 43 = .ok (.if_icmp .ge 147, 3) := by decide +kernel
theorem dX9_fewest_46 : decode cX9_fewest 46 = .ok (.iload_n 2, 1) := by decide +kernel
theorem dX9_fewest_47 : decode cX9_fewest 47 = .ok (.invokestatic 390, 3) := by decide +kernel
theorem dX9_fewest_50 : decode cX9_fewest 50 = .ok (.iconst 1, 1) := by decide +kernel
theorem dX9_fewest_51 : decode cX9_fewest 51 = .ok (.if_icmp .le 139, 3) := by decide +kernel
theorem dX9_fewest_54 : decode cX9_fewest 54 = .ok (.iload_n 2, 1) := by decide +kernel
theorem dX9_fewest_55 : decode cX9_fewest 55 = .ok (.aload_n 0, 1) := by decide +kernel
theorem dX9_fewest_56 : decode cX9_fewest 56 = .ok (.getfield 26, 3) := by decide +kernel
theorem dX9_fewest_59 : decode cX9_fewest 59 = .ok (.iload_n 3, 1) := by decide +kernel
theorem dX9_fewest_60 : decode cX9_fewest 60 = .ok (.iaload, 1) := by decide +kernel
theorem dX9_fewest_61 : decode cX9_fewest 61 = .ok (.iand, 1) := by decide +kernel
theorem dX9_fewest_62 : decode cX9_fewest 62 = .ok (.istore 4, 2) := by decide +kernel
theorem dX9_fewest_64 : decode cX9_fewest 64 = .ok (.iload_n 2, 1) := by decide +kernel
theorem dX9_fewest_65 : decode cX9_fewest 65 = .ok (.aload_n 0, 1) := by decide +kernel
theorem dX9_fewest_66 : decode cX9_fewest 66 = .ok (.getfield 26, 3) := by decide +kernel
theorem dX9_fewest_69 : decode cX9_fewest 69 = .ok (.iload_n 3, 1) := by decide +kernel
theorem dX9_fewest_70 : decode cX9_fewest 70 = .ok (.iaload, 1) := by decide +kernel
theorem dX9_fewest_71 : decode cX9_fewest 71 = .ok (.iconst (-1), 1) := by decide +kernel
theorem dX9_fewest_72 : decode cX9_fewest 72 = .ok (.ixor, 1) := by decide +kernel
theorem dX9_fewest_73 : decode cX9_fewest 73 = .ok (.iand, 1) := by decide +kernel
theorem dX9_fewest_74 : decode cX9_fewest 74 = .ok (.istore 5, 2) := by decide +kernel
theorem dX9_fewest_76 : decode cX9_fewest 76 = .ok (.aload_n 0, 1) := by decide +kernel
theorem dX9_fewest_77 : decode cX9_fewest 77 = .ok (.getfield 136, 3) := by decide +kernel
theorem dX9_fewest_80 : decode cX9_fewest 80 = .ok (.iload_n 3, 1) := by decide +kernel
theorem dX9_fewest_81 : decode cX9_fewest 81 = .ok (.baload, 1) := by decide +kernel
theorem dX9_fewest_82 : decode cX9_fewest 82 = .ok (.ifCond .ne 102, 3) := by decide +kernel
theorem dX9_fewest_85 : decode cX9_fewest 85 = .ok (.iload 4, 2) := by decide +kernel
theorem dX9_fewest_87 : decode cX9_fewest 87 = .ok (.ifCond .eq 97, 3) := by decide +kernel
theorem dX9_fewest_90 : decode cX9_fewest 90 = .ok (.iload 5, 2) := by decide +kernel
theorem dX9_fewest_92 : decode cX9_fewest 92 = .ok (.ifCond .eq 92, 3) := by decide +kernel
theorem dX9_fewest_95 : decode cX9_fewest 95 = .ok (.aload_n 0, 1) := by decide +kernel
theorem dX9_fewest_96 : decode cX9_fewest 96 = .ok (.getfield 142, 3) := by decide +kernel
theorem dX9_fewest_99 : decode cX9_fewest 99 = .ok (.iload 4, 2) := by decide +kernel
theorem dX9_fewest_101 : decode cX9_fewest 101 = .ok (.iaload, 1) := by decide +kernel
theorem dX9_fewest_102 : decode cX9_fewest 102 = .ok (.ifCond .lt 82, 3) := by decide +kernel
theorem dX9_fewest_105 : decode cX9_fewest 105 = .ok (.aload_n 0, 1) := by decide +kernel
theorem dX9_fewest_106 : decode cX9_fewest 106 = .ok (.getfield 142, 3) := by decide +kernel
theorem dX9_fewest_109 : decode cX9_fewest 109 = .ok (.iload 5, 2) := by decide +kernel
theorem dX9_fewest_111 : decode cX9_fewest 111 = .ok (.iaload, 1) := by decide +kernel
theorem dX9_fewest_112 : decode cX9_fewest 112 = .ok (.ifCond .ge 6, 3) := by decide +kernel
theorem dX9_fewest_115 : decode cX9_fewest 115 = .ok (.goto 69, 3) := by decide +kernel
theorem dX9_fewest_118 : decode cX9_fewest 118 = .ok (.iconst 1, 1) := by decide +kernel
theorem dX9_fewest_119 : decode cX9_fewest 119 = .ok (.aload_n 0, 1) := by decide +kernel
theorem dX9_fewest_120 : decode cX9_fewest 120 = .ok (.getfield 142, 3) := by decide +kernel
theorem dX9_fewest_123 : decode cX9_fewest 123 = .ok (.iload 4, 2) := by decide +kernel
theorem dX9_fewest_125 : decode cX9_fewest 125 = .ok (.iaload, 1) := by decide +kernel
theorem dX9_fewest_126 : decode cX9_fewest 126 = .ok (.aload_n 0, 1) := by decide +kernel
theorem dX9_fewest_127 : decode cX9_fewest 127 = .ok (.getfield 142, 3) := by decide +kernel
theorem dX9_fewest_130 : decode cX9_fewest 130 = .ok (.iload 5, 2) := by decide +kernel
theorem dX9_fewest_132 : decode cX9_fewest 132 = .ok (.iaload, 1) := by decide +kernel
theorem dX9_fewest_133 : decode cX9_fewest 133 = .ok (.if_icmp .le 13, 3) := by decide +kernel
theorem dX9_fewest_136 : decode cX9_fewest 136 = .ok (.aload_n 0, 1) := by decide +kernel
theorem dX9_fewest_137 : decode cX9_fewest 137 = .ok (.getfield 142, 3) := by decide +kernel
theorem dX9_fewest_140 : decode cX9_fewest 140 = .ok (.iload 4, 2) := by decide +kernel
theorem dX9_fewest_142 : decode cX9_fewest 142 = .ok (.iaload, 1) := by decide +kernel
theorem dX9_fewest_143 : decode cX9_fewest 143 = .ok (.goto 10, 3) := by decide +kernel
theorem dX9_fewest_146 : decode cX9_fewest 146 = .ok (.aload_n 0, 1) := by decide +kernel
theorem dX9_fewest_147 : decode cX9_fewest 147 = .ok (.getfield 142, 3) := by decide +kernel
theorem dX9_fewest_150 : decode cX9_fewest 150 = .ok (.iload 5, 2) := by decide +kernel
theorem dX9_fewest_152 : decode cX9_fewest 152 = .ok (.iaload, 1) := by decide +kernel
theorem dX9_fewest_153 : decode cX9_fewest 153 = .ok (.iadd, 1) := by decide +kernel
theorem dX9_fewest_154 : decode cX9_fewest 154 = .ok (.istore 6, 2) := by decide +kernel
theorem dX9_fewest_156 : decode cX9_fewest 156 = .ok (.aload_n 0, 1) := by decide +kernel
theorem dX9_fewest_157 : decode cX9_fewest 157 = .ok (.getfield 142, 3) := by decide +kernel
theorem dX9_fewest_160 : decode cX9_fewest 160 = .ok (.iload_n 2, 1) := by decide +kernel
theorem dX9_fewest_161 : decode cX9_fewest 161 = .ok (.iaload, 1) := by decide +kernel
theorem dX9_fewest_162 : decode cX9_fewest 162 = .ok (.ifCond .lt 14, 3) := by decide +kernel
theorem dX9_fewest_165 : decode cX9_fewest 165 = .ok (.iload 6, 2) := by decide +kernel
theorem dX9_fewest_167 : decode cX9_fewest 167 = .ok (.aload_n 0, 1) := by decide +kernel
theorem dX9_fewest_168 : decode cX9_fewest 168 = .ok (.getfield 142, 3) := by decide +kernel
theorem dX9_fewest_171 : decode cX9_fewest 171 = .ok (.iload_n 2, 1) := by decide +kernel
theorem dX9_fewest_172 : decode cX9_fewest 172 = .ok (.iaload, 1) := by decide +kernel
theorem dX9_fewest_173 : decode cX9_fewest 173 = .ok (.if_icmp .ge 11, 3) := by decide +kernel
theorem dX9_fewest_176 : decode cX9_fewest 176 = .ok (.aload_n 0, 1) := by decide +kernel
theorem dX9_fewest_177 : decode cX9_fewest 177 = .ok (.getfield 142, 3) := by decide +kernel
theorem dX9_fewest_180 : decode cX9_fewest 180 = .ok (.iload_n 2, 1) := by decide +kernel
theorem dX9_fewest_181 : decode cX9_fewest 181 = .ok (.iload 6, 2) := by decide +kernel
theorem dX9_fewest_183 : decode cX9_fewest 183 = .ok (.iastore, 1) := by decide +kernel
theorem dX9_fewest_184 : decode cX9_fewest 184 = .ok (.iinc 3 1, 3) := by decide +kernel
theorem dX9_fewest_187 : decode cX9_fewest 187 = .ok (.goto (-149), 3) := by decide +kernel
theorem dX9_fewest_190 : decode cX9_fewest 190 = .ok (.iinc 2 1, 3) := by decide +kernel
theorem dX9_fewest_193 : decode cX9_fewest 193 = .ok (.goto (-186), 3) := by decide +kernel
theorem dX9_fewest_196 : decode cX9_fewest 196 = .ok (.aload_n 0, 1) := by decide +kernel
theorem dX9_fewest_197 : decode cX9_fewest 197 = .ok (.getfield 142, 3) := by decide +kernel
theorem dX9_fewest_200 : decode cX9_fewest 200 = .ok (.iload_n 1, 1) := by decide +kernel
theorem dX9_fewest_201 : decode cX9_fewest 201 = .ok (.iaload, 1) := by decide +kernel
theorem dX9_fewest_202 : decode cX9_fewest 202 = .ok (.ireturn, 1) := by decide +kernel
theorem dX9_about_0 : decode cX9_about 0 = .ok (.iload_n 1, 1) := by decide +kernel
theorem dX9_about_1 : decode cX9_about 1 = .ok (.tableswitch 87 0 7 #[47, 52, 57, 62, 67, 72, 77, 82], 47) := by decide +kernel
theorem dX9_about_48 : decode cX9_about 48 = .ok (.aload_n 0, 1) := by decide +kernel
theorem dX9_about_49 : decode cX9_about 49 = .ok (.getfield 297, 3) := by decide +kernel
theorem dX9_about_52 : decode cX9_about 52 = .ok (.ireturn, 1) := by decide +kernel
theorem dX9_about_53 : decode cX9_about 53 = .ok (.aload_n 0, 1) := by decide +kernel
theorem dX9_about_54 : decode cX9_about 54 = .ok (.getfield 300, 3) := by decide +kernel
theorem dX9_about_57 : decode cX9_about 57 = .ok (.ireturn, 1) := by decide +kernel
theorem dX9_about_58 : decode cX9_about 58 = .ok (.aload_n 0, 1) := by decide +kernel
theorem dX9_about_59 : decode cX9_about 59 = .ok (.getfield 405, 3) := by decide +kernel
theorem dX9_about_62 : decode cX9_about 62 = .ok (.ireturn, 1) := by decide +kernel
theorem dX9_about_63 : decode cX9_about 63 = .ok (.aload_n 0, 1) := by decide +kernel
theorem dX9_about_64 : decode cX9_about 64 = .ok (.getfield 463, 3) := by decide +kernel
theorem dX9_about_67 : decode cX9_about 67 = .ok (.ireturn, 1) := by decide +kernel
theorem dX9_about_68 : decode cX9_about 68 = .ok (.aload_n 0, 1) := by decide +kernel
theorem dX9_about_69 : decode cX9_about 69 = .ok (.getfield 347, 3) := by decide +kernel
theorem dX9_about_72 : decode cX9_about 72 = .ok (.ireturn, 1) := by decide +kernel
theorem dX9_about_73 : decode cX9_about 73 = .ok (.aload_n 0, 1) := by decide +kernel
theorem dX9_about_74 : decode cX9_about 74 = .ok (.getfield 350, 3) := by decide +kernel
theorem dX9_about_77 : decode cX9_about 77 = .ok (.ireturn, 1) := by decide +kernel
theorem dX9_about_78 : decode cX9_about 78 = .ok (.aload_n 0, 1) := by decide +kernel
theorem dX9_about_79 : decode cX9_about 79 = .ok (.getfield 148, 3) := by decide +kernel
theorem dX9_about_82 : decode cX9_about 82 = .ok (.ireturn, 1) := by decide +kernel
theorem dX9_about_83 : decode cX9_about 83 = .ok (.aload_n 0, 1) := by decide +kernel
theorem dX9_about_84 : decode cX9_about 84 = .ok (.getfield 460, 3) := by decide +kernel
theorem dX9_about_87 : decode cX9_about 87 = .ok (.ireturn, 1) := by decide +kernel
theorem dX9_about_88 : decode cX9_about 88 = .ok (.iconst (-1), 1) := by decide +kernel
theorem dX9_about_89 : decode cX9_about 89 = .ok (.ireturn, 1) := by decide +kernel
theorem dJ6_bitCount_0f7a4_0 : decode cJ6_bitCount_0f7a4 0 = .ok (.iload_n 0, 1) := by decide +kernel
theorem dJ6_bitCount_0f7a4_1 : decode cJ6_bitCount_0f7a4 1 = .ok (.iload_n 0, 1) := by decide +kernel
theorem dJ6_bitCount_0f7a4_2 : decode cJ6_bitCount_0f7a4 2 = .ok (.iconst 1, 1) := by decide +kernel
theorem dJ6_bitCount_0f7a4_3 : decode cJ6_bitCount_0f7a4 3 = .ok (.iushr, 1) := by decide +kernel
theorem dJ6_bitCount_0f7a4_4 : decode cJ6_bitCount_0f7a4 4 = .ok (.ldc_w 265, 3) := by decide +kernel
theorem dJ6_bitCount_0f7a4_7 : decode cJ6_bitCount_0f7a4 7 = .ok (.iand, 1) := by decide +kernel
theorem dJ6_bitCount_0f7a4_8 : decode cJ6_bitCount_0f7a4 8 = .ok (.isub, 1) := by decide +kernel
theorem dJ6_bitCount_0f7a4_9 : decode cJ6_bitCount_0f7a4 9 = .ok (.istore_n 0, 1) := by decide +kernel
theorem dJ6_bitCount_0f7a4_10 : decode cJ6_bitCount_0f7a4 10 = .ok (.iload_n 0, 1) := by decide +kernel
theorem dJ6_bitCount_0f7a4_11 : decode cJ6_bitCount_0f7a4 11 = .ok (.ldc_w 266, 3) := by decide +kernel
theorem dJ6_bitCount_0f7a4_14 : decode cJ6_bitCount_0f7a4 14 = .ok (.iand, 1) := by decide +kernel
theorem dJ6_bitCount_0f7a4_15 : decode cJ6_bitCount_0f7a4 15 = .ok (.iload_n 0, 1) := by decide +kernel
theorem dJ6_bitCount_0f7a4_16 : decode cJ6_bitCount_0f7a4 16 = .ok (.iconst 2, 1) := by decide +kernel
theorem dJ6_bitCount_0f7a4_17 : decode cJ6_bitCount_0f7a4 17 = .ok (.iushr, 1) := by decide +kernel
theorem dJ6_bitCount_0f7a4_18 : decode cJ6_bitCount_0f7a4 18 = .ok (.ldc_w 266, 3) := by decide +kernel
theorem dJ6_bitCount_0f7a4_21 : decode cJ6_bitCount_0f7a4 21 = .ok (.iand, 1) := by decide +kernel
theorem dJ6_bitCount_0f7a4_22 : decode cJ6_bitCount_0f7a4 22 = .ok (.iadd, 1) := by decide +kernel
theorem dJ6_bitCount_0f7a4_23 : decode cJ6_bitCount_0f7a4 23 = .ok (.istore_n 0, 1) := by decide +kernel
theorem dJ6_bitCount_0f7a4_24 : decode cJ6_bitCount_0f7a4 24 = .ok (.iload_n 0, 1) := by decide +kernel
theorem dJ6_bitCount_0f7a4_25 : decode cJ6_bitCount_0f7a4 25 = .ok (.iload_n 0, 1) := by decide +kernel
theorem dJ6_bitCount_0f7a4_26 : decode cJ6_bitCount_0f7a4 26 = .ok (.iconst 4, 1) := by decide +kernel
theorem dJ6_bitCount_0f7a4_27 : decode cJ6_bitCount_0f7a4 27 = .ok (.iushr, 1) := by decide +kernel
theorem dJ6_bitCount_0f7a4_28 : decode cJ6_bitCount_0f7a4 28 = .ok (.iadd, 1) := by decide +kernel
theorem dJ6_bitCount_0f7a4_29 : decode cJ6_bitCount_0f7a4 29 = .ok (.ldc_w 267, 3) := by decide +kernel
theorem dJ6_bitCount_0f7a4_32 : decode cJ6_bitCount_0f7a4 32 = .ok (.iand, 1) := by decide +kernel
theorem dJ6_bitCount_0f7a4_33 : decode cJ6_bitCount_0f7a4 33 = .ok (.istore_n 0, 1) := by decide +kernel
theorem dJ6_bitCount_0f7a4_34 : decode cJ6_bitCount_0f7a4 34 = .ok (.iload_n 0, 1) := by decide +kernel
theorem dJ6_bitCount_0f7a4_35 : decode cJ6_bitCount_0f7a4 35 = .ok (.iload_n 0, 1) := by decide +kernel
theorem dJ6_bitCount_0f7a4_36 : decode cJ6_bitCount_0f7a4 36 = .ok (.bipush 8, 2) := by decide +kernel
theorem dJ6_bitCount_0f7a4_38 : decode cJ6_bitCount_0f7a4 38 = .ok (.iushr, 1) := by decide +kernel
theorem dJ6_bitCount_0f7a4_39 : decode cJ6_bitCount_0f7a4 39 = .ok (.iadd, 1) := by decide +kernel
theorem dJ6_bitCount_0f7a4_40 : decode cJ6_bitCount_0f7a4 40 = .ok (.istore_n 0, 1) := by decide +kernel
theorem dJ6_bitCount_0f7a4_41 : decode cJ6_bitCount_0f7a4 41 = .ok (.iload_n 0, 1) := by decide +kernel
theorem dJ6_bitCount_0f7a4_42 : decode cJ6_bitCount_0f7a4 42 = .ok (.iload_n 0, 1) := by decide +kernel
theorem dJ6_bitCount_0f7a4_43 : decode cJ6_bitCount_0f7a4 43 = .ok (.bipush 16, 2) := by decide +kernel
theorem dJ6_bitCount_0f7a4_45 : decode cJ6_bitCount_0f7a4 45 = .ok (.iushr, 1) := by decide +kernel
theorem dJ6_bitCount_0f7a4_46 : decode cJ6_bitCount_0f7a4 46 = .ok (.iadd, 1) := by decide +kernel
theorem dJ6_bitCount_0f7a4_47 : decode cJ6_bitCount_0f7a4 47 = .ok (.istore_n 0, 1) := by decide +kernel
theorem dJ6_bitCount_0f7a4_48 : decode cJ6_bitCount_0f7a4 48 = .ok (.iload_n 0, 1) := by decide +kernel
theorem dJ6_bitCount_0f7a4_49 : decode cJ6_bitCount_0f7a4 49 = .ok (.bipush 63, 2) := by decide +kernel
theorem dJ6_bitCount_0f7a4_51 : decode cJ6_bitCount_0f7a4 51 = .ok (.iand, 1) := by decide +kernel
theorem dJ6_bitCount_0f7a4_52 : decode cJ6_bitCount_0f7a4 52 = .ok (.ireturn, 1) := by decide +kernel
theorem dJ9_floorDiv_f86c9_0 : decode cJ9_floorDiv_f86c9 0 = .ok (.lload_n 0, 1) := by decide +kernel
theorem dJ9_floorDiv_f86c9_1 : decode cJ9_floorDiv_f86c9 1 = .ok (.lload_n 2, 1) := by decide +kernel
theorem dJ9_floorDiv_f86c9_2 : decode cJ9_floorDiv_f86c9 2 = .ok (.ldiv, 1) := by decide +kernel
theorem dJ9_floorDiv_f86c9_3 : decode cJ9_floorDiv_f86c9 3 = .ok (.lstore 4, 2) := by decide +kernel
theorem dJ9_floorDiv_f86c9_5 : decode cJ9_floorDiv_f86c9 5 = .ok (.lload_n 0, 1) := by decide +kernel
theorem dJ9_floorDiv_f86c9_6 : decode cJ9_floorDiv_f86c9 6 = .ok (.lload_n 2, 1) := by decide +kernel
theorem dJ9_floorDiv_f86c9_7 : decode cJ9_floorDiv_f86c9 7 = .ok (.lxor, 1) := by decide +kernel
theorem dJ9_floorDiv_f86c9_8 : decode cJ9_floorDiv_f86c9 8 = .ok (.lconst 0, 1) := by decide +kernel
theorem dJ9_floorDiv_f86c9_9 : decode cJ9_floorDiv_f86c9 9 = .ok (.lcmp, 1) := by decide +kernel
theorem dJ9_floorDiv_f86c9_10 : decode cJ9_floorDiv_f86c9 10 = .ok (.ifCond .ge 17, 3) := by decide +kernel
theorem dJ9_floorDiv_f86c9_13 : decode cJ9_floorDiv_f86c9 13 = .ok (.lload 4, 2) := by decide +kernel
theorem dJ9_floorDiv_f86c9_15 : decode cJ9_floorDiv_f86c9 15 = .ok (.lload_n 2, 1) := by decide +kernel
theorem dJ9_floorDiv_f86c9_16 : decode cJ9_floorDiv_f86c9 16 = .ok (.lmul, 1) := by decide +kernel
theorem dJ9_floorDiv_f86c9_17 : decode cJ9_floorDiv_f86c9 17 = .ok (.lload_n 0, 1) := by decide +kernel
theorem dJ9_floorDiv_f86c9_18 : decode cJ9_floorDiv_f86c9 18 = .ok (.lcmp, 1) := by decide +kernel
theorem dJ9_floorDiv_f86c9_19 : decode cJ9_floorDiv_f86c9 19 = .ok (.ifCond .eq 8, 3) := by decide +kernel
theorem dJ9_floorDiv_f86c9_22 : decode cJ9_floorDiv_f86c9 22 = .ok (.lload 4, 2) := by decide +kernel
theorem dJ9_floorDiv_f86c9_24 : decode cJ9_floorDiv_f86c9 24 = .ok (.lconst 1, 1) := by decide +kernel
theorem dJ9_floorDiv_f86c9_25 : decode cJ9_floorDiv_f86c9 25 = .ok (.lsub, 1) := by decide +kernel
theorem dJ9_floorDiv_f86c9_26 : decode cJ9_floorDiv_f86c9 26 = .ok (.lreturn, 1) := by decide +kernel
theorem dJ9_floorDiv_f86c9_27 : decode cJ9_floorDiv_f86c9 27 = .ok (.lload 4, 2) := by decide +kernel
theorem dJ9_floorDiv_f86c9_29 : decode cJ9_floorDiv_f86c9 29 = .ok (.lreturn, 1) := by decide +kernel
theorem dJ9_abs_0f7a4_0 : decode cJ9_abs_0f7a4 0 = .ok (.iload_n 0, 1) := by decide +kernel
theorem dJ9_abs_0f7a4_1 : decode cJ9_abs_0f7a4 1 = .ok (.ifCond .ge 8, 3) := by decide +kernel
theorem dJ9_abs_0f7a4_4 : decode cJ9_abs_0f7a4 4 = .ok (.iload_n 0, 1) := by decide +kernel
theorem dJ9_abs_0f7a4_5 : decode cJ9_abs_0f7a4 5 = .ok (.ineg, 1) := by decide +kernel
theorem dJ9_abs_0f7a4_6 : decode cJ9_abs_0f7a4 6 = .ok (.goto 4, 3) := by decide +kernel
theorem dJ9_abs_0f7a4_9 : decode cJ9_abs_0f7a4 9 = .ok (.iload_n 0, 1) := by decide +kernel
theorem dJ9_abs_0f7a4_10 : decode cJ9_abs_0f7a4 10 = .ok (.ireturn, 1) := by decide +kernel
theorem dJ9_abs_067f4_0 : decode cJ9_abs_067f4 0 = .ok (.lload_n 0, 1) := by decide +kernel
theorem dJ9_abs_067f4_1 : decode cJ9_abs_067f4 1 = .ok (.lconst 0, 1) := by decide +kernel
theorem dJ9_abs_067f4_2 : decode cJ9_abs_067f4 2 = .ok (.lcmp, 1) := by decide +kernel
theorem dJ9_abs_067f4_3 : decode cJ9_abs_067f4 3 = .ok (.ifCond .ge 8, 3) := by decide +kernel
theorem dJ9_abs_067f4_6 : decode cJ9_abs_067f4 6 = .ok (.lload_n 0, 1) := by decide +kernel
theorem dJ9_abs_067f4_7 : decode cJ9_abs_067f4 7 = .ok (.lneg, 1) := by decide +kernel
theorem dJ9_abs_067f4_8 : decode cJ9_abs_067f4 8 = .ok (.goto 4, 3) := by decide +kernel
theorem dJ9_abs_067f4_11 : decode cJ9_abs_067f4 11 = .ok (.lload_n 0, 1) := by decide +kernel
theorem dJ9_abs_067f4_12 : decode cJ9_abs_067f4 12 = .ok (.lreturn, 1) := by decide +kernel
theorem dJ9_max_7cf53_0 : decode cJ9_max_7cf53 0 = .ok (.iload_n 0, 1) := by decide +kernel
theorem dJ9_max_7cf53_1 : decode cJ9_max_7cf53 1 = .ok (.iload_n 1, 1) := by decide +kernel
theorem dJ9_max_7cf53_2 : decode cJ9_max_7cf53 2 = .ok (.if_icmp .lt 7, 3) := by decide +kernel
theorem dJ9_max_7cf53_5 : decode cJ9_max_7cf53 5 = .ok (.iload_n 0, 1) := by decide +kernel
theorem dJ9_max_7cf53_6 : decode cJ9_max_7cf53 6 = .ok (.goto 4, 3) := by decide +kernel
theorem dJ9_max_7cf53_9 : decode cJ9_max_7cf53 9 = .ok (.iload_n 1, 1) := by decide +kernel
theorem dJ9_max_7cf53_10 : decode cJ9_max_7cf53 10 = .ok (.ireturn, 1) := by decide +kernel
theorem dJ9_max_f86c9_0 : decode cJ9_max_f86c9 0 = .ok (.lload_n 0, 1) := by decide +kernel
theorem dJ9_max_f86c9_1 : decode cJ9_max_f86c9 1 = .ok (.lload_n 2, 1) := by decide +kernel
theorem dJ9_max_f86c9_2 : decode cJ9_max_f86c9 2 = .ok (.lcmp, 1) := by decide +kernel
theorem dJ9_max_f86c9_3 : decode cJ9_max_f86c9 3 = .ok (.ifCond .lt 7, 3) := by decide +kernel
theorem dJ9_max_f86c9_6 : decode cJ9_max_f86c9 6 = .ok (.lload_n 0, 1) := by decide +kernel
theorem dJ9_max_f86c9_7 : decode cJ9_max_f86c9 7 = .ok (.goto 4, 3) := by decide +kernel
theorem dJ9_max_f86c9_10 : decode cJ9_max_f86c9 10 = .ok (.lload_n 2, 1) := by decide +kernel
theorem dJ9_max_f86c9_11 : decode cJ9_max_f86c9 11 = .ok (.lreturn, 1) := by decide +kernel
theorem dJ9_min_7cf53_0 : decode cJ9_min_7cf53 0 = .ok (.iload_n 0, 1) := by decide +kernel
theorem dJ9_min_7cf53_1 : decode cJ9_min_7cf53 1 = .ok (.iload_n 1, 1) := by decide +kernel
theorem dJ9_min_7cf53_2 : decode cJ9_min_7cf53 2 = .ok (.if_icmp .gt 7, 3) := by decide +kernel
theorem dJ9_min_7cf53_5 : decode cJ9_min_7cf53 5 = .ok (.iload_n 0, 1) := by decide +kernel
theorem dJ9_min_7cf53_6 : decode cJ9_min_7cf53 6 = .ok (.goto 4, 3) := by decide +kernel
theorem dJ9_min_7cf53_9 : decode cJ9_min_7cf53 9 = .ok (.iload_n 1, 1) := by decide +kernel
theorem dJ9_min_7cf53_10 : decode cJ9_min_7cf53 10 = .ok (.ireturn, 1) := by decide +kernel
theorem dJ0_length_8abf5_0 : decode cJ0_length_8abf5 0 = .ok (.aload_n 0, 1) := by decide +kernel
theorem dJ0_length_8abf5_1 : decode cJ0_length_8abf5 1 = .ok (.getfield 9, 3) := by decide +kernel
theorem dJ0_length_8abf5_4 : decode cJ0_length_8abf5 4 = .ok (.arraylength, 1) := by decide +kernel
theorem dJ0_length_8abf5_5 : decode cJ0_length_8abf5 5 = .ok (.aload_n 0, 1) := by decide +kernel
theorem dJ0_length_8abf5_6 : decode cJ0_length_8abf5 6 = .ok (.invokevirtual 335, 3) := by decide +kernel
theorem dJ0_length_8abf5_9 : decode cJ0_length_8abf5 9 = .ok (.ishr, 1) := by decide +kernel
theorem dJ0_length_8abf5_10 : decode cJ0_length_8abf5 10 = .ok (.ireturn, 1) := by decide +kernel
theorem dJ0_charAt_5068e_0 : decode cJ0_charAt_5068e 0 = .ok (.aload_n 0, 1) := by decide +kernel
theorem dJ0_charAt_5068e_1 : decode cJ0_charAt_5068e 1 = .ok (.invokevirtual 492, 3) := by decide +kernel
theorem dJ0_charAt_5068e_4 : decode cJ0_charAt_5068e 4 = .ok (.ifCond .eq 12, 3) := by decide +kernel
theorem dJ0_charAt_5068e_7 : decode cJ0_charAt_5068e 7 = .ok (.aload_n 0, 1) := by decide +kernel
theorem dJ0_charAt_5068e_8 : decode cJ0_charAt_5068e 8 = .ok (.getfield 9, 3) := by decide +kernel
theorem dJ0_charAt_5068e_11 : decode cJ0_charAt_5068e 11 = .ok (.iload_n 1, 1) := by decide +kernel
theorem dJ0_charAt_5068e_12 : decode cJ0_charAt_5068e 12 = .ok (.invokestatic 495, 3) := by decide +kernel
theorem dJ0_charAt_5068e_15 : decode cJ0_charAt_5068e 15 = .ok (.ireturn, 1) := by decide +kernel
theorem dJ0_charAt_5068e_16 : decode cJ0_charAt_5068e 16 = .ok (.aload_n 0, 1) := by decide +kernel
theorem dJ0_charAt_5068e_17 : decode cJ0_charAt_5068e 17 = .ok (.getfield 9, 3) := by decide +kernel
theorem dJ0_charAt_5068e_20 : decode cJ0_charAt_5068e 20 = .ok (.iload_n 1, 1) := by decide +kernel
theorem dJ0_charAt_5068e_21 : decode cJ0_charAt_5068e 21 = .ok (.invokestatic 498, 3) := by decide +kernel
theorem dJ0_charAt_5068e_24 : decode cJ0_charAt_5068e 24 = .ok (.ireturn, 1) := by decide +kernel
theorem dJ0_coder_7d493_0 : decode cJ0_coder_7d493 0 = .ok (.getstatic 38, 3) := by decide +kernel
theorem dJ0_coder_7d493_3 : decode cJ0_coder_7d493 3 = .ok (.ifCond .eq 10, 3) := by decide +kernel
theorem dJ0_coder_7d493_6 : decode cJ0_coder_7d493 6 = .ok (.aload_n 0, 1) := by decide +kernel
theorem dJ0_coder_7d493_7 : decode cJ0_coder_7d493 7 = .ok (.getfield 15, 3) := by decide +kernel
theorem dJ0_coder_7d493_10 : decode cJ0_coder_7d493 10 = .ok (.goto 4, 3) := by decide +kernel
theorem dJ0_coder_7d493_13 : decode cJ0_coder_7d493 13 = .ok (.iconst 1, 1) := by decide +kernel
theorem dJ0_coder_7d493_14 : decode cJ0_coder_7d493 14 = .ok (.ireturn, 1) := by decide +kernel
theorem dJ0_isLatin1_aae02_0 : decode cJ0_isLatin1_aae02 0 = .ok (.getstatic 38, 3) := by decide +kernel
theorem dJ0_isLatin1_aae02_3 : decode cJ0_isLatin1_aae02 3 = .ok (.ifCond .eq 14, 3) := by decide +kernel
theorem dJ0_isLatin1_aae02_6 : decode cJ0_isLatin1_aae02 6 = .ok (.aload_n 0, 1) := by decide +kernel
theorem dJ0_isLatin1_aae02_7 : decode cJ0_isLatin1_aae02 7 = .ok (.getfield 15, 3) := by decide +kernel
theorem dJ0_isLatin1_aae02_10 : decode cJ0_isLatin1_aae02 10 = .ok (.ifCond .ne 7, 3) := by decide +kernel
theorem dJ0_isLatin1_aae02_13 : decode cJ0_isLatin1_aae02 13 = .ok (.iconst 1, 1) := by decide +kernel
theorem dJ0_isLatin1_aae02_14 : decode cJ0_isLatin1_aae02 14 = .ok (.goto 4, 3) := by decide +kernel
theorem dJ0_isLatin1_aae02_17 : decode cJ0_isLatin1_aae02 17 = .ok (.iconst 0, 1) := by decide +kernel
theorem dJ0_isLatin1_aae02_18 : decode cJ0_isLatin1_aae02 18 = .ok (.ireturn, 1) := by decide +kernel
theorem dJ0_checkIndex_df160_0 : decode cJ0_checkIndex_df160 0 = .ok (.iload_n 0, 1) := by decide +kernel
theorem dJ0_checkIndex_df160_1 : decode cJ0_checkIndex_df160 1 = .ok (.iload_n 1, 1) := by decide +kernel
theorem dJ0_checkIndex_df160_2 : decode cJ0_checkIndex_df160 2 = .ok (.getstatic 1053, 3) := by decide +kernel
theorem dJ0_checkIndex_df160_5 : decode cJ0_checkIndex_df160 5 = .ok (.invokestatic 1059, 3) := by decide +kernel
theorem dJ0_checkIndex_df160_8 : decode cJ0_checkIndex_df160 8 = .ok (.pop, 1) := by decide +kernel
theorem dJ0_checkIndex_df160_9 : decode cJ0_checkIndex_df160 9 = .ok (.return_, 1) := by decide +kernel
theorem dJ1_charAt_3b067_0 : decode cJ1_charAt_3b067 0 = .ok (.iload_n 1, 1) := by decide +kernel
theorem dJ1_charAt_3b067_1 : decode cJ1_charAt_3b067 1 = .ok (.aload_n 0, 1) := by decide +kernel
theorem dJ1_charAt_3b067_2 : decode cJ1_charAt_3b067 2 = .ok (.arraylength, 1) := by decide +kernel
theorem dJ1_charAt_3b067_3 : decode cJ1_charAt_3b067 3 = .ok (.invokestatic 9, 3) := by decide +kernel
theorem dJ1_charAt_3b067_6 : decode cJ1_charAt_3b067 6 = .ok (.aload_n 0, 1) := by decide +kernel
theorem dJ1_charAt_3b067_7 : decode cJ1_charAt_3b067 7 = .ok (.iload_n 1, 1) := by decide +kernel
theorem dJ1_charAt_3b067_8 : decode cJ1_charAt_3b067 8 = .ok (.baload, 1) := by decide +kernel
theorem dJ1_charAt_3b067_9 : decode cJ1_charAt_3b067 9 = .ok (.sipush 255, 3) := by decide +kernel
theorem dJ1_charAt_3b067_12 : decode cJ1_charAt_3b067 12 = .ok (.iand, 1) := by decide +kernel
theorem dJ1_charAt_3b067_13 : decode cJ1_charAt_3b067 13 = .ok (.i2c, 1) := by decide +kernel
theorem dJ1_charAt_3b067_14 : decode cJ1_charAt_3b067 14 = .ok (.ireturn, 1) := by decide +kernel
theorem dJ2_getChar_3b067_0 : decode cJ2_getChar_3b067 0 = .ok (.getstatic 44, 3) := by decide +kernel
theorem dJ2_getChar_3b067_3 : decode cJ2_getChar_3b067 3 = .ok (.ifCond .ne 25, 3) := by decide +kernel
theorem dJ2_getChar_3b067_6 : decode cJ2_getChar_3b067 6 = .ok (.iload_n 1, 1) := by decide +kernel
theorem dJ2_getChar_3b067_7 : decode cJ2_getChar_3b067 7 = .ok (.ifCond .lt 11, 3) := by decide +kernel
theorem dJ2_getChar_3b067_10 : decode cJ2_getChar_3b067 10 = .ok (.iload_n 1, 1) := by decide +kernel
theorem dJ2_getChar_3b067_11 : decode cJ2_getChar_3b067 11 = .ok (.aload_n 0, 1) := by decide +kernel
theorem dJ2_getChar_3b067_12 : decode cJ2_getChar_3b067 12 = .ok (.invokestatic 48, 3) := by decide +kernel
theorem dJ2_getChar_3b067_15 : decode cJ2_getChar_3b067 15 = .ok (.if_icmp .lt 13, 3) := by decide +kernel
theorem dJ2_getChar_3b067_18 : decode cJ2_getChar_3b067 18 = .ok (.new 52, 3) := by decide +kernel
theorem dJ2_getChar_3b067_21 : decode cJ2_getChar_3b067 21 = .ok (.dup, 1) := by decide +kernel
theorem dJ2_getChar_3b067_22 : decode cJ2_getChar_3b067 22 = .ok (.ldc 54, 2) := by decide +kernel
theorem dJ2_getChar_3b067_24 : decode cJ2_getChar_3b067 24 = .ok (.invokespecial 56, 3) := by decide +kernel
theorem dJ2_getChar_3b067_27 : decode cJ2_getChar_3b067 27 = .ok (.athrow, 1) := by decide +kernel
theorem dJ2_getChar_3b067_28 : decode cJ2_getChar_3b067 28 = .ok (.iload_n 1, 1) := by decide +kernel
theorem dJ2_getChar_3b067_29 : decode cJ2_getChar_3b067 29 = .ok (.iconst 1, 1) := by decide +kernel
theorem dJ2_getChar_3b067_30 : decode cJ2_getChar_3b067 30 = .ok (.ishl, 1) := by decide +kernel
theorem dJ2_getChar_3b067_31 : decode cJ2_getChar_3b067 31 = .ok (.istore_n 1, 1) := by decide +kernel
theorem dJ2_getChar_3b067_32 : decode cJ2_getChar_3b067 32 = .ok (.aload_n 0, 1) := by decide +kernel
theorem dJ2_getChar_3b067_33 : decode cJ2_getChar_3b067 33 = .ok (.iload_n 1, 1) := by decide +kernel
theorem dJ2_getChar_3b067_34 : decode cJ2_getChar_3b067 34 = .ok (.iinc 1 1, 3) := by decide +kernel
theorem dJ2_getChar_3b067_37 : decode cJ2_getChar_3b067 37 = .ok (.baload, 1) := by decide +kernel
theorem dJ2_getChar_3b067_38 : decode cJ2_getChar_3b067 38 = .ok (.sipush 255, 3) := by decide +kernel
theorem dJ2_getChar_3b067_41 : decode cJ2_getChar_3b067 41 = .ok (.iand, 1) := by decide +kernel
theorem dJ2_getChar_3b067_42 : decode cJ2_getChar_3b067 42 = .ok (.getstatic 59, 3) := by decide +kernel
theorem dJ2_getChar_3b067_45 : decode cJ2_getChar_3b067 45 = .ok (.ishl, 1) := by decide +kernel
theorem dJ2_getChar_3b067_46 : decode cJ2_getChar_3b067 46 = .ok (.aload_n 0, 1) := by decide +kernel
theorem dJ2_getChar_3b067_47 : decode cJ2_getChar_3b067 47 = .ok (.iload_n 1, 1) := by decide +kernel
theorem dJ2_getChar_3b067_48 : decode cJ2_getChar_3b067 48 = .ok (.baload, 1) := by decide +kernel
theorem dJ2_getChar_3b067_49 : decode cJ2_getChar_3b067 49 = .ok (.sipush 255, 3) := by decide +kernel
theorem dJ2_getChar_3b067_52 : decode cJ2_getChar_3b067 52 = .ok (.iand, 1) := by decide +kernel
theorem dJ2_getChar_3b067_53 : decode cJ2_getChar_3b067 53 = .ok (.getstatic 63, 3) := by decide +kernel
theorem dJ2_getChar_3b067_56 : decode cJ2_getChar_3b067 56 = .ok (.ishl, 1) := by decide +kernel
theorem dJ2_getChar_3b067_57 : decode cJ2_getChar_3b067 57 = .ok (.ior, 1) := by decide +kernel
theorem dJ2_getChar_3b067_58 : decode cJ2_getChar_3b067 58 = .ok (.i2c, 1) := by decide +kernel
theorem dJ2_getChar_3b067_59 : decode cJ2_getChar_3b067 59 = .ok (.ireturn, 1) := by decide +kernel
theorem dJ2_length_9d52b_0 : decode cJ2_length_9d52b 0 = .ok (.aload_n 0, 1) := by decide +kernel
theorem dJ2_length_9d52b_1 : decode cJ2_length_9d52b 1 = .ok (.arraylength, 1) := by decide +kernel
theorem dJ2_length_9d52b_2 : decode cJ2_length_9d52b 2 = .ok (.iconst 1, 1) := by decide +kernel
theorem dJ2_length_9d52b_3 : decode cJ2_length_9d52b 3 = .ok (.ishr, 1) := by decide +kernel
theorem dJ2_length_9d52b_4 : decode cJ2_length_9d52b 4 = .ok (.ireturn, 1) := by decide +kernel
theorem dJ2_charAt_3b067_0 : decode cJ2_charAt_3b067 0 = .ok (.iload_n 1, 1) := by decide +kernel
theorem dJ2_charAt_3b067_1 : decode cJ2_charAt_3b067 1 = .ok (.aload_n 0, 1) := by decide +kernel
theorem dJ2_charAt_3b067_2 : decode cJ2_charAt_3b067 2 = .ok (.invokestatic 67, 3) := by decide +kernel
theorem dJ2_charAt_3b067_5 : decode cJ2_charAt_3b067 5 = .ok (.aload_n 0, 1) := by decide +kernel
theorem dJ2_charAt_3b067_6 : decode cJ2_charAt_3b067 6 = .ok (.iload_n 1, 1) := by decide +kernel
theorem dJ2_charAt_3b067_7 : decode cJ2_charAt_3b067 7 = .ok (.invokestatic 71, 3) := by decide +kernel
theorem dJ2_charAt_3b067_10 : decode cJ2_charAt_3b067 10 = .ok (.ireturn, 1) := by decide +kernel
theorem dJ2_checkIndex_2214a_0 : decode cJ2_checkIndex_2214a 0 = .ok (.iload_n 0, 1) := by decide +kernel
theorem dJ2_checkIndex_2214a_1 : decode cJ2_checkIndex_2214a 1 = .ok (.aload_n 1, 1) := by decide +kernel
theorem dJ2_checkIndex_2214a_2 : decode cJ2_checkIndex_2214a 2 = .ok (.invokestatic 48, 3) := by decide +kernel
theorem dJ2_checkIndex_2214a_5 : decode cJ2_checkIndex_2214a 5 = .ok (.invokestatic 414, 3) := by decide +kernel
theorem dJ2_checkIndex_2214a_8 : decode cJ2_checkIndex_2214a 8 = .ok (.return_, 1) := by decide +kernel
theorem dJ3_checkIndex_8e157_0 : decode cJ3_checkIndex_8e157 0 = .ok (.iload_n 0, 1) := by decide +kernel
theorem dJ3_checkIndex_8e157_1 : decode cJ3_checkIndex_8e157 1 = .ok (.ifCond .lt 8, 3) := by decide +kernel
theorem dJ3_checkIndex_8e157_4 : decode cJ3_checkIndex_8e157 4 = .ok (.iload_n 0, 1) := by decide +kernel
theorem dJ3_checkIndex_8e157_5 : decode cJ3_checkIndex_8e157 5 = .ok (.iload_n 1, 1) := by decide +kernel
theorem dJ3_checkIndex_8e157_6 : decode cJ3_checkIndex_8e157 6 = .ok (.if_icmp .lt 10, 3) := by decide +kernel
theorem dJ3_checkIndex_8e157_9 : decode cJ3_checkIndex_8e157 9 = .ok (.aload_n 2, 1) := by decide +kernel
theorem dJ3_checkIndex_8e157_10 : decode cJ3_checkIndex_8e157 10 = .ok (.iload_n 0, 1) := by decide +kernel
theorem dJ3_checkIndex_8e157_11 : decode cJ3_checkIndex_8e157 11 = .ok (.iload_n 1, 1) := by decide +kernel
theorem dJ3_checkIndex_8e157_12 : decode cJ3_checkIndex_8e157 12 = .ok (.invokestatic 95, 3) := by decide +kernel
theorem dJ3_checkIndex_8e157_15 : decode cJ3_checkIndex_8e157 15 = .ok (.athrow, 1) := by decide +kernel
theorem dJ3_checkIndex_8e157_16 : decode cJ3_checkIndex_8e157 16 = .ok (.iload_n 0, 1) := by decide +kernel
theorem dJ3_checkIndex_8e157_17 : decode cJ3_checkIndex_8e157 17 = .ok (.ireturn, 1) := by decide +kernel
theorem dL_law_0 : decode cL_law 0 = .ok (.new 7, 3) := by decide +kernel
theorem dL_law_3 : decode cL_law 3 = .ok (.dup, 1) := by decide +kernel
theorem dL_law_4 : decode cL_law 4 = .ok (.invokespecial 9, 3) := by decide +kernel
theorem dL_law_7 : decode cL_law 7 = .ok (.astore_n 1, 1) := by decide +kernel
theorem dL_law_8 : decode cL_law 8 = .ok (.new 10, 3) := by decide +kernel
theorem dL_law_11 : decode cL_law 11 = .ok (.dup, 1) := by decide +kernel
theorem dL_law_12 : decode cL_law 12 = .ok (.invokespecial 12, 3) := by decide +kernel
theorem dL_law_15 : decode cL_law 15 = .ok (.astore_n 2, 1) := by decide +kernel
theorem dL_law_16 : decode cL_law 16 = .ok (.iconst 0, 1) := by decide +kernel
theorem dL_law_17 : decode cL_law 17 = .ok (.istore_n 3, 1) := by decide +kernel
theorem dL_law_18 : decode cL_law 18 = .ok (.iload_n 3, 1) := by decide +kernel
theorem dL_law_19 : decode cL_law 19 = .ok (.aload_n 0, 1) := by decide +kernel
theorem dL_law_20 : decode cL_law 20 = .ok (.arraylength, 1) := by decide +kernel
theorem dL_law_21 : decode cL_law 21 = .ok (.bipush 6, 2) := by decide +kernel
theorem dL_law_23 : decode cL_law 23 = .ok (.isub, 1) := by decide +kernel
theorem dL_law_24 : decode cL_law 24 = .ok (.if_icmp .gt 804, 3) := by decide +kernel
theorem dL_law_27 : decode cL_law 27 = .ok (.aload_n 0, 1) := by decide +kernel
theorem dL_law_28 : decode cL_law 28 = .ok (.iload_n 3, 1) := by decide +kernel
theorem dL_law_29 : decode cL_law 29 = .ok (.iaload, 1) := by decide +kernel
theorem dL_law_30 : decode cL_law 30 = .ok (.bipush 31, 2) := by decide +kernel
theorem dL_law_32 : decode cL_law 32 = .ok (.iand, 1) := by decide +kernel
theorem dL_law_33 : decode cL_law 33 = .ok (.tableswitch 789 0 22 #[107, 170, 193, 206, 219, 232, 255, 299, 353, 417, 460, 483, 506, 560, 584, 607, 630, 664, 678, 727, 740, 753, 766], 107) := by decide +kernel
theorem dL_law_140 : decode cL_law 140 = .ok (.aload_n 1, 1) := by decide +kernel
theorem dL_law_141 : decode cL_law 141 = .ok (.aload_n 0, 1) := by decide +kernel
theorem dL_law_142 : decode cL_law 142 = .ok (.iload_n 3, 1) := by decide +kernel
theorem dL_law_143 : decode cL_law 143 = .ok (.iconst 1, 1) := by decide +kernel
theorem dL_law_144 : decode cL_law 144 = .ok (.iadd, 1) := by decide +kernel
theorem dL_law_145 : decode cL_law 145 = .ok (.iaload, 1) := by decide +kernel
theorem dL_law_146 : decode cL_law 146 = .ok (.aload_n 0, 1) := by decide +kernel
theorem dL_law_147 : decode cL_law 147 = .ok (.iload_n 3, 1) := by decide +kernel
theorem dL_law_148 : decode cL_law 148 = .ok (.iconst 2, 1) := by decide +kernel
theorem dL_law_149 : decode cL_law 149 = .ok (.iadd, 1) := by decide +kernel
theorem dL_law_150 : decode cL_law 150 = .ok (.iaload, 1) := by decide +kernel
theorem dL_law_151 : decode cL_law 151 = .ok (.aload_n 0, 1) := by decide +kernel
theorem dL_law_152 : decode cL_law 152 = .ok (.iload_n 3, 1) := by decide +kernel
theorem dL_law_153 : decode cL_law 153 = .ok (.iconst 3, 1) := by decide +kernel
theorem dL_law_154 : decode cL_law 154 = .ok (.iadd, 1) := by decide +kernel
theorem dL_law_155 : decode cL_law 155 = .ok (.iaload, 1) := by decide +kernel
theorem dL_law_156 : decode cL_law 156 = .ok (.aload_n 0, 1) := by decide +kernel
theorem dL_law_157 : decode cL_law 157 = .ok (.iload_n 3, 1) := by decide +kernel
theorem dL_law_158 : decode cL_law 158 = .ok (.iconst 4, 1) := by decide +kernel
theorem dL_law_159 : decode cL_law 159 = .ok (.iadd, 1) := by decide +kernel
theorem dL_law_160 : decode cL_law 160 = .ok (.iaload, 1) := by decide +kernel
theorem dL_law_161 : decode cL_law 161 = .ok (.aload_n 0, 1) := by decide +kernel
theorem dL_law_162 : decode cL_law 162 = .ok (.iload_n 3, 1) := by decide +kernel
theorem dL_law_163 : decode cL_law 163 = .ok (.iconst 5, 1) := by decide +kernel
theorem dL_law_164 : decode cL_law 164 = .ok (.iadd, 1) := by decide +kernel
theorem dL_law_165 : decode cL_law 165 = .ok (.iaload, 1) := by decide +kernel
theorem dL_law_166 : decode cL_law 166 = .ok (.invokevirtual 13, 3) := by decide +kernel
theorem dL_law_169 : decode cL_law 169 = .ok (.aload_n 2, 1) := by decide +kernel
theorem dL_law_170 : decode cL_law 170 = .ok (.aload_n 0, 1) := by decide +kernel
theorem dL_law_171 : decode cL_law 171 = .ok (.iload_n 3, 1) := by decide +kernel
theorem dL_law_172 : decode cL_law 172 = .ok (.iconst 1, 1) := by decide +kernel
theorem dL_law_173 : decode cL_law 173 = .ok (.iadd, 1) := by decide +kernel
theorem dL_law_174 : decode cL_law 174 = .ok (.iaload, 1) := by decide +kernel
theorem dL_law_175 : decode cL_law 175 = .ok (.aload_n 0, 1) := by decide +kernel
theorem dL_law_176 : decode cL_law 176 = .ok (.iload_n 3, 1) := by decide +kernel
theorem dL_law_177 : decode cL_law 177 = .ok (.iconst 2, 1) := by decide +kernel
theorem dL_law_178 : decode cL_law 178 = .ok (.iadd, 1) := by decide +kernel
theorem dL_law_179 : decode cL_law 179 = .ok (.iaload, 1) := by decide +kernel
theorem dL_law_180 : decode cL_law 180 = .ok (.aload_n 0, 1) := by decide +kernel
theorem dL_law_181 : decode cL_law 181 = .ok (.iload_n 3, 1) := by decide +kernel
theorem dL_law_182 : decode cL_law 182 = .ok (.iconst 3, 1) := by decide +kernel
theorem dL_law_183 : decode cL_law 183 = .ok (.iadd, 1) := by decide +kernel
theorem dL_law_184 : decode cL_law 184 = .ok (.iaload, 1) := by decide +kernel
theorem dL_law_185 : decode cL_law 185 = .ok (.aload_n 0, 1) := by decide +kernel
theorem dL_law_186 : decode cL_law 186 = .ok (.iload_n 3, 1) := by decide +kernel
theorem dL_law_187 : decode cL_law 187 = .ok (.iconst 4, 1) := by decide +kernel
theorem dL_law_188 : decode cL_law 188 = .ok (.iadd, 1) := by decide +kernel
theorem dL_law_189 : decode cL_law 189 = .ok (.iaload, 1) := by decide +kernel
theorem dL_law_190 : decode cL_law 190 = .ok (.aload_n 0, 1) := by decide +kernel
theorem dL_law_191 : decode cL_law 191 = .ok (.iload_n 3, 1) := by decide +kernel
theorem dL_law_192 : decode cL_law 192 = .ok (.iconst 5, 1) := by decide +kernel
theorem dL_law_193 : decode cL_law 193 = .ok (.iadd, 1) := by decide +kernel
theorem dL_law_194 : decode cL_law 194 = .ok (.iaload, 1) := by decide +kernel
theorem dL_law_195 : decode cL_law 195 = .ok (.invokevirtual 17, 3) := by decide +kernel
theorem dL_law_198 : decode cL_law 198 = .ok (.if_icmp .eq 624, 3) := by decide +kernel
theorem dL_law_201 : decode cL_law 201 = .ok (.iconst 0, 1) := by decide +kernel
theorem dL_law_202 : decode cL_law 202 = .ok (.ireturn, 1) := by decide +kernel
theorem dL_law_203 : decode cL_law 203 = .ok (.aload_n 1, 1) := by decide +kernel
theorem dL_law_204 : decode cL_law 204 = .ok (.aload_n 0, 1) := by decide +kernel
theorem dL_law_205 : decode cL_law 205 = .ok (.iload_n 3, 1) := by decide +kernel
theorem dL_law_206 : decode cL_law 206 = .ok (.iconst 1, 1) := by decide +kernel
theorem dL_law_207 : decode cL_law 207 = .ok (.iadd, 1) := by decide +kernel
theorem dL_law_208 : decode cL_law 208 = .ok (.iaload, 1) := by decide +kernel
theorem dL_law_209 : decode cL_law 209 = .ok (.invokevirtual 18, 3) := by decide +kernel
theorem dL_law_212 : decode cL_law 212 = .ok (.aload_n 2, 1) := by decide +kernel
theorem dL_law_213 : decode cL_law 213 = .ok (.aload_n 0, 1) := by decide +kernel
theorem dL_law_214 : decode cL_law 214 = .ok (.iload_n 3, 1) := by decide +kernel
theorem dL_law_215 : decode cL_law 215 = .ok (.iconst 1, 1) := by decide +kernel
theorem dL_law_216 : decode cL_law 216 = .ok (.iadd, 1) := by decide +kernel
theorem dL_law_217 : decode cL_law 217 = .ok (.iaload, 1) := by decide +kernel
theorem dL_law_218 : decode cL_law 218 = .ok (.invokevirtual 22, 3) := by decide +kernel
theorem dL_law_221 : decode cL_law 221 = .ok (.if_icmp .eq 601, 3) := by decide +kernel
theorem dL_law_224 : decode cL_law 224 = .ok (.iconst 0, 1) := by decide +kernel
theorem dL_law_225 : decode cL_law 225 = .ok (.ireturn, 1) := by decide +kernel
theorem dL_law_226 : decode cL_law 226 = .ok (.aload_n 1, 1) := by decide +kernel
theorem dL_law_227 : decode cL_law 227 = .ok (.invokevirtual 23, 3) := by decide +kernel
theorem dL_law_230 : decode cL_law 230 = .ok (.aload_n 2, 1) := by decide +kernel
theorem dL_law_231 : decode cL_law 231 = .ok (.invokevirtual 27, 3) := by decide +kernel
theorem dL_law_234 : decode cL_law 234 = .ok (.if_icmp .eq 588, 3) := by decide +kernel
theorem dL_law_237 : decode cL_law 237 = .ok (.iconst 0, 1) := by decide +kernel
theorem dL_law_238 : decode cL_law 238 = .ok (.ireturn, 1) := by decide +kernel
theorem dL_law_239 : decode cL_law 239 = .ok (.aload_n 1, 1) := by decide +kernel
theorem dL_law_240 : decode cL_law 240 = .ok (.invokevirtual 28, 3) := by decide +kernel
theorem dL_law_243 : decode cL_law 243 = .ok (.aload_n 2, 1) := by decide +kernel
theorem dL_law_244 : decode cL_law 244 = .ok (.invokevirtual 31, 3) := by decide +kernel
theorem dL_law_247 : decode cL_law 247 = .ok (.if_icmp .eq 575, 3) := by decide +kernel
theorem dL_law_250 : decode cL_law 250 = .ok (.iconst 0, 1) := by decide +kernel
theorem dL_law_251 : decode cL_law 251 = .ok (.ireturn, 1) := by decide +kernel
theorem dL_law_252 : decode cL_law 252 = .ok (.aload_n 1, 1) := by decide +kernel
theorem dL_law_253 : decode cL_law 253 = .ok (.invokevirtual 32, 3) := by decide +kernel
theorem dL_law_256 : decode cL_law 256 = .ok (.aload_n 2, 1) := by decide +kernel
theorem dL_law_257 : decode cL_law 257 = .ok (.invokevirtual 35, 3) := by decide +kernel
theorem dL_law_260 : decode cL_law 260 = .ok (.if_icmp .eq 562, 3) := by decide +kernel
theorem dL_law_263 : decode cL_law 263 = .ok (.iconst 0, 1) := by decide +kernel
theorem dL_law_264 : decode cL_law 264 = .ok (.ireturn, 1) := by decide +kernel
theorem dL_law_265 : decode cL_law 265 = .ok (.aload_n 1, 1) := by decide +kernel
theorem dL_law_266 : decode cL_law 266 = .ok (.aload_n 0, 1) := by decide +kernel
theorem dL_law_267 : decode cL_law 267 = .ok (.iload_n 3, 1) := by decide +kernel
theorem dL_law_268 : decode cL_law 268 = .ok (.iconst 1, 1) := by decide +kernel
theorem dL_law_269 : decode cL_law 269 = .ok (.iadd, 1) := by decide +kernel
theorem dL_law_270 : decode cL_law 270 = .ok (.iaload, 1) := by decide +kernel
theorem dL_law_271 : decode cL_law 271 = .ok (.invokevirtual 36, 3) := by decide +kernel
theorem dL_law_274 : decode cL_law 274 = .ok (.aload_n 2, 1) := by decide +kernel
theorem dL_law_275 : decode cL_law 275 = .ok (.aload_n 0, 1) := by decide +kernel
theorem dL_law_276 : decode cL_law 276 = .ok (.iload_n 3, 1) := by decide +kernel
theorem dL_law_277 : decode cL_law 277 = .ok (.iconst 1, 1) := by decide +kernel
theorem dL_law_278 : decode cL_law 278 = .ok (.iadd, 1) := by decide +kernel
theorem dL_law_279 : decode cL_law 279 = .ok (.iaload, 1) := by decide +kernel
theorem dL_law_280 : decode cL_law 280 = .ok (.invokevirtual 39, 3) := by decide +kernel
theorem dL_law_283 : decode cL_law 283 = .ok (.if_icmp .eq 539, 3) := by decide +kernel
theorem dL_law_286 : decode cL_law 286 = .ok (.iconst 0, 1) := by decide +kernel
theorem dL_law_287 : decode cL_law 287 = .ok (.ireturn, 1) := by decide +kernel
theorem dL_law_288 : decode cL_law 288 = .ok (.aload_n 1, 1) := by decide +kernel
theorem dL_law_289 : decode cL_law 289 = .ok (.aload_n 0, 1) := by decide +kernel
theorem dL_law_290 : decode cL_law 290 = .ok (.iload_n 3, 1) := by decide +kernel
theorem dL_law_291 : decode cL_law 291 = .ok (.iconst 1, 1) := by decide +kernel
theorem dL_law_292 : decode cL_law 292 = .ok (.iadd, 1) := by decide +kernel
theorem dL_law_293 : decode cL_law 293 = .ok (.iaload, 1) := by decide +kernel
theorem dL_law_294 : decode cL_law 294 = .ok (.aload_n 0, 1) := by decide +kernel
theorem dL_law_295 : decode cL_law 295 = .ok (.iload_n 3, 1) := by decide +kernel
theorem dL_law_296 : decode cL_law 296 = .ok (.iconst 2, 1) := by decide +kernel
theorem dL_law_297 : decode cL_law 297 = .ok (.iadd, 1) := by decide +kernel
theorem dL_law_298 : decode cL_law 298 = .ok (.iaload, 1) := by decide +kernel
theorem dL_law_299 : decode cL_law 299 = .ok (.aload_n 0, 1) := by decide +kernel
theorem dL_law_300 : decode cL_law 300 = .ok (.iload_n 3, 1) := by decide +kernel
theorem dL_law_301 : decode cL_law 301 = .ok (.iconst 3, 1) := by decide +kernel
theorem dL_law_302 : decode cL_law 302 = .ok (.iadd, 1) := by decide +kernel
theorem dL_law_303 : decode cL_law 303 = .ok (.iaload, 1) := by decide +kernel
theorem dL_law_304 : decode cL_law 304 = .ok (.invokevirtual 40, 3) := by decide +kernel
theorem dL_law_307 : decode cL_law 307 = .ok (.aload_n 2, 1) := by decide +kernel
theorem dL_law_308 : decode cL_law 308 = .ok (.aload_n 0, 1) := by decide +kernel
theorem dL_law_309 : decode cL_law 309 = .ok (.iload_n 3, 1) := by decide +kernel
theorem dL_law_310 : decode cL_law 310 = .ok (.iconst 1, 1) := by decide +kernel
theorem dL_law_311 : decode cL_law 311 = .ok (.iadd, 1) := by decide +kernel
theorem dL_law_312 : decode cL_law 312 = .ok (.iaload, 1) := by decide +kernel
theorem dL_law_313 : decode cL_law 313 = .ok (.aload_n 0, 1) := by decide +kernel
theorem dL_law_314 : decode cL_law 314 = .ok (.iload_n 3, 1) := by decide +kernel
theorem dL_law_315 : decode cL_law 315 = .ok (.iconst 2, 1) := by decide +kernel
theorem dL_law_316 : decode cL_law 316 = .ok (.iadd, 1) := by decide +kernel
theorem dL_law_317 : decode cL_law 317 = .ok (.iaload, 1) := by decide +kernel
theorem dL_law_318 : decode cL_law 318 = .ok (.aload_n 0, 1) := by decide +kernel
theorem dL_law_319 : decode cL_law 319 = .ok (.iload_n 3, 1) := by decide +kernel
theorem dL_law_320 : decode cL_law 320 = .ok (.iconst 3, 1) := by decide +kernel
theorem dL_law_321 : decode cL_law 321 = .ok (.iadd, 1) := by decide +kernel
theorem dL_law_322 : decode cL_law 322 = .ok (.iaload, 1) := by decide +kernel
theorem dL_law_323 : decode cL_law 323 = .ok (.invokevirtual 44, 3) := by decide +kernel
theorem dL_law_326 : decode cL_law 326 = .ok (.lcmp, 1) := by decide +kernel
theorem dL_law_327 : decode cL_law 327 = .ok (.ifCond .eq 495, 3) := by decide +kernel
theorem dL_law_330 : decode cL_law 330 = .ok (.iconst 0, 1) := by decide +kernel
theorem dL_law_331 : decode cL_law 331 = .ok (.ireturn, 1) := by decide +kernel
theorem dL_law_332 : decode cL_law 332 = .ok (.aload_n 1, 1) := by decide +kernel
theorem dL_law_333 : decode cL_law 333 = .ok (.aload_n 0, 1) := by decide +kernel
theorem dL_law_334 : decode cL_law 334 = .ok (.iload_n 3, 1) := by decide +kernel
theorem dL_law_335 : decode cL_law 335 = .ok (.iconst 1, 1) := by decide +kernel
theorem dL_law_336 : decode cL_law 336 = .ok (.iadd, 1) := by decide +kernel
theorem dL_law_337 : decode cL_law 337 = .ok (.iaload, 1) := by decide +kernel
theorem dL_law_338 : decode cL_law 338 = .ok (.aload_n 0, 1) := by decide +kernel
theorem dL_law_339 : decode cL_law 339 = .ok (.iload_n 3, 1) := by decide +kernel
theorem dL_law_340 : decode cL_law 340 = .ok (.iconst 2, 1) := by decide +kernel
theorem dL_law_341 : decode cL_law 341 = .ok (.iadd, 1) := by decide +kernel
theorem dL_law_342 : decode cL_law 342 = .ok (.iaload, 1) := by decide +kernel
theorem dL_law_343 : decode cL_law 343 = .ok (.aload_n 0, 1) := by decide +kernel
theorem dL_law_344 : decode cL_law 344 = .ok (.iload_n 3, 1) := by decide +kernel
theorem dL_law_345 : decode cL_law 345 = .ok (.iconst 3, 1) := by decide +kernel
theorem dL_law_346 : decode cL_law 346 = .ok (.iadd, 1) := by decide +kernel
theorem dL_law_347 : decode cL_law 347 = .ok (.iaload, 1) := by decide +kernel
theorem dL_law_348 : decode cL_law 348 = .ok (.aload_n 0, 1) := by decide +kernel
theorem dL_law_349 : decode cL_law 349 = .ok (.iload_n 3, 1) := by decide +kernel
theorem dL_law_350 : decode cL_law 350 = .ok (.iconst 4, 1) := by decide +kernel
theorem dL_law_351 : decode cL_law 351 = .ok (.iadd, 1) := by decide +kernel
theorem dL_law_352 : decode cL_law 352 = .ok (.iaload, 1) := by decide +kernel
theorem dL_law_353 : decode cL_law 353 = .ok (.invokevirtual 45, 3) := by decide +kernel
theorem dL_law_356 : decode cL_law 356 = .ok (.aload_n 2, 1) := by decide +kernel
theorem dL_law_357 : decode cL_law 357 = .ok (.aload_n 0, 1) := by decide +kernel
theorem dL_law_358 : decode cL_law 358 = .ok (.iload_n 3, 1) := by decide +kernel
theorem dL_law_359 : decode cL_law 359 = .ok (.iconst 1, 1) := by decide +kernel
theorem dL_law_360 : decode cL_law 360 = .ok (.iadd, 1) := by decide +kernel
theorem dL_law_361 : decode cL_law 361 = .ok (.iaload, 1) := by decide +kernel
theorem dL_law_362 : decode cL_law 362 = .ok (.aload_n 0, 1) := by decide +kernel
theorem dL_law_363 : decode cL_law 363 = .ok (.iload_n 3, 1) := by decide +kernel
theorem dL_law_364 : decode cL_law 364 = .ok (.iconst 2, 1) := by decide +kernel
theorem dL_law_365 : decode cL_law 365 = .ok (.iadd, 1) := by decide +kernel
theorem dL_law_366 : decode cL_law 366 = .ok (.iaload, 1) := by decide +kernel
theorem dL_law_367 : decode cL_law 367 = .ok (.aload_n 0, 1) := by decide +kernel
theorem dL_law_368 : decode cL_law 368 = .ok (.iload_n 3, 1) := by decide +kernel
theorem dL_law_369 : decode cL_law 369 = .ok (.iconst 3, 1) := by decide +kernel
theorem dL_law_370 : decode cL_law 370 = .ok (.iadd, 1) := by decide +kernel
theorem dL_law_371 : decode cL_law 371 = .ok (.iaload, 1) := by decide +kernel
theorem dL_law_372 : decode cL_law 372 = .ok (.aload_n 0, 1) := by decide +kernel
theorem dL_law_373 : decode cL_law 373 = .ok (.iload_n 3, 1) := by decide +kernel
theorem dL_law_374 : decode cL_law 374 = .ok (.iconst 4, 1) := by decide +kernel
theorem dL_law_375 : decode cL_law 375 = .ok (.iadd, 1) := by decide +kernel
theorem dL_law_376 : decode cL_law 376 = .ok (.iaload, 1) := by decide +kernel
theorem dL_law_377 : decode cL_law 377 = .ok (.invokevirtual 49, 3) := by decide +kernel
theorem dL_law_380 : decode cL_law 380 = .ok (.lcmp, 1) := by decide +kernel
theorem dL_law_381 : decode cL_law 381 = .ok (.ifCond .eq 441, 3) := by decide +kernel
theorem dL_law_384 : decode cL_law 384 = .ok (.iconst 0, 1) := by decide +kernel
theorem dL_law_385 : decode cL_law 385 = .ok (.ireturn, 1) := by decide +kernel
theorem dL_law_386 : decode cL_law 386 = .ok (.aload_n 1, 1) := by decide +kernel
theorem dL_law_387 : decode cL_law 387 = .ok (.aload_n 0, 1) := by decide +kernel
theorem dL_law_388 : decode cL_law 388 = .ok (.iload_n 3, 1) := by decide +kernel
theorem dL_law_389 : decode cL_law 389 = .ok (.iconst 1, 1) := by decide +kernel
theorem dL_law_390 : decode cL_law 390 = .ok (.iadd, 1) := by decide +kernel
theorem dL_law_391 : decode cL_law 391 = .ok (.iaload, 1) := by decide +kernel
theorem dL_law_392 : decode cL_law 392 = .ok (.aload_n 0, 1) := by decide +kernel
theorem dL_law_393 : decode cL_law 393 = .ok (.iload_n 3, 1) := by decide +kernel
theorem dL_law_394 : decode cL_law 394 = .ok (.iconst 2, 1) := by decide +kernel
theorem dL_law_395 : decode cL_law 395 = .ok (.iadd, 1) := by decide +kernel
theorem dL_law_396 : decode cL_law 396 = .ok (.iaload, 1) := by decide +kernel
theorem dL_law_397 : decode cL_law 397 = .ok (.aload_n 0, 1) := by decide +kernel
theorem dL_law_398 : decode cL_law 398 = .ok (.iload_n 3, 1) := by decide +kernel
theorem dL_law_399 : decode cL_law 399 = .ok (.iconst 3, 1) := by decide +kernel
theorem dL_law_400 : decode cL_law 400 = .ok (.iadd, 1) := by decide +kernel
theorem dL_law_401 : decode cL_law 401 = .ok (.iaload, 1) := by decide +kernel
theorem dL_law_402 : decode cL_law 402 = .ok (.aload_n 0, 1) := by decide +kernel
theorem dL_law_403 : decode cL_law 403 = .ok (.iload_n 3, 1) := by decide +kernel
theorem dL_law_404 : decode cL_law 404 = .ok (.iconst 4, 1) := by decide +kernel
theorem dL_law_405 : decode cL_law 405 = .ok (.iadd, 1) := by decide +kernel
theorem dL_law_406 : decode cL_law 406 = .ok (.iaload, 1) := by decide +kernel
theorem dL_law_407 : decode cL_law 407 = .ok (.aload_n 0, 1) := by decide +kernel
theorem dL_law_408 : decode cL_law 408 = .ok (.iload_n 3, 1) := by decide +kernel
theorem dL_law_409 : decode cL_law 409 = .ok (.iconst 5, 1) := by decide +kernel
theorem dL_law_410 : decode cL_law 410 = .ok (.iadd, 1) := by decide +kernel
theorem dL_law_411 : decode cL_law 411 = .ok (.iaload, 1) := by decide +kernel
theorem dL_law_412 : decode cL_law 412 = .ok (.invokevirtual 50, 3) := by decide +kernel
theorem dL_law_415 : decode cL_law 415 = .ok (.aload_n 2, 1) := by decide +kernel
theorem dL_law_416 : decode cL_law 416 = .ok (.aload_n 0, 1) := by decide +kernel
theorem dL_law_417 : decode cL_law 417 = .ok (.iload_n 3, 1) := by decide +kernel
theorem dL_law_418 : decode cL_law 418 = .ok (.iconst 1, 1) := by decide +kernel
theorem dL_law_419 : decode cL_law 419 = .ok (.iadd, 1) := by decide +kernel
theorem dL_law_420 : decode cL_law 420 = .ok (.iaload, 1) := by decide +kernel
theorem dL_law_421 : decode cL_law 421 = .ok (.aload_n 0, 1) := by decide +kernel
theorem dL_law_422 : decode cL_law 422 = .ok (.iload_n 3, 1) := by decide +kernel
theorem dL_law_423 : decode cL_law 423 = .ok (.iconst 2, 1) := by decide +kernel
theorem dL_law_424 : decode cL_law 424 = .ok (.iadd, 1) := by decide +kernel
theorem dL_law_425 : decode cL_law 425 = .ok (.iaload, 1) := by decide +kernel
theorem dL_law_426 : decode cL_law 426 = .ok (.aload_n 0, 1) := by decide +kernel
theorem dL_law_427 : decode cL_law 427 = .ok (.iload_n 3, 1) := by decide +kernel
theorem dL_law_428 : decode cL_law 428 = .ok (.iconst 3, 1) := by decide +kernel
theorem dL_law_429 : decode cL_law 429 = .ok (.iadd, 1) := by decide +kernel
theorem dL_law_430 : decode cL_law 430 = .ok (.iaload, 1) := by decide +kernel
theorem dL_law_431 : decode cL_law 431 = .ok (.aload_n 0, 1) := by decide +kernel
theorem dL_law_432 : decode cL_law 432 = .ok (.iload_n 3, 1) := by decide +kernel
theorem dL_law_433 : decode cL_law 433 = .ok (.iconst 4, 1) := by decide +kernel
theorem dL_law_434 : decode cL_law 434 = .ok (.iadd, 1) := by decide +kernel
theorem dL_law_435 : decode cL_law 435 = .ok (.iaload, 1) := by decide +kernel
theorem dL_law_436 : decode cL_law 436 = .ok (.aload_n 0, 1) := by decide +kernel
theorem dL_law_437 : decode cL_law 437 = .ok (.iload_n 3, 1) := by decide +kernel
theorem dL_law_438 : decode cL_law 438 = .ok (.iconst 5, 1) := by decide +kernel
theorem dL_law_439 : decode cL_law 439 = .ok (.iadd, 1) := by decide +kernel
theorem dL_law_440 : decode cL_law 440 = .ok (.iaload, 1) := by decide +kernel
theorem dL_law_441 : decode cL_law 441 = .ok (.invokevirtual 54, 3) := by decide +kernel
theorem dL_law_444 : decode cL_law 444 = .ok (.lcmp, 1) := by decide +kernel
theorem dL_law_445 : decode cL_law 445 = .ok (.ifCond .eq 377, 3) := by decide +kernel
theorem dL_law_448 : decode cL_law 448 = .ok (.iconst 0, 1) := by decide +kernel
theorem dL_law_449 : decode cL_law 449 = .ok (.ireturn, 1) := by decide +kernel
theorem dL_law_450 : decode cL_law 450 = .ok (.aload_n 1, 1) := by decide +kernel
theorem dL_law_451 : decode cL_law 451 = .ok (.aload_n 0, 1) := by decide +kernel
theorem dL_law_452 : decode cL_law 452 = .ok (.iload_n 3, 1) := by decide +kernel
theorem dL_law_453 : decode cL_law 453 = .ok (.iconst 1, 1) := by decide +kernel
theorem dL_law_454 : decode cL_law 454 = .ok (.iadd, 1) := by decide +kernel
theorem dL_law_455 : decode cL_law 455 = .ok (.iaload, 1) := by decide +kernel
theorem dL_law_456 : decode cL_law 456 = .ok (.aload_n 0, 1) := by decide +kernel
theorem dL_law_457 : decode cL_law 457 = .ok (.iload_n 3, 1) := by decide +kernel
theorem dL_law_458 : decode cL_law 458 = .ok (.iconst 2, 1) := by decide +kernel
theorem dL_law_459 : decode cL_law 459 = .ok (.iadd, 1) := by decide +kernel
theorem dL_law_460 : decode cL_law 460 = .ok (.iaload, 1) := by decide +kernel
theorem dL_law_461 : decode cL_law 461 = .ok (.aload_n 0, 1) := by decide +kernel
theorem dL_law_462 : decode cL_law 462 = .ok (.iload_n 3, 1) := by decide +kernel
theorem dL_law_463 : decode cL_law 463 = .ok (.iconst 3, 1) := by decide +kernel
theorem dL_law_464 : decode cL_law 464 = .ok (.iadd, 1) := by decide +kernel
theorem dL_law_465 : decode cL_law 465 = .ok (.iaload, 1) := by decide +kernel
theorem dL_law_466 : decode cL_law 466 = .ok (.invokevirtual 55, 3) := by decide +kernel
theorem dL_law_469 : decode cL_law 469 = .ok (.aload_n 2, 1) := by decide +kernel
theorem dL_law_470 : decode cL_law 470 = .ok (.aload_n 0, 1) := by decide +kernel
theorem dL_law_471 : decode cL_law 471 = .ok (.iload_n 3, 1) := by decide +kernel
theorem dL_law_472 : decode cL_law 472 = .ok (.iconst 1, 1) := by decide +kernel
theorem dL_law_473 : decode cL_law 473 = .ok (.iadd, 1) := by decide +kernel
theorem dL_law_474 : decode cL_law 474 = .ok (.iaload, 1) := by decide +kernel
theorem dL_law_475 : decode cL_law 475 = .ok (.aload_n 0, 1) := by decide +kernel
theorem dL_law_476 : decode cL_law 476 = .ok (.iload_n 3, 1) := by decide +kernel
theorem dL_law_477 : decode cL_law 477 = .ok (.iconst 2, 1) := by decide +kernel
theorem dL_law_478 : decode cL_law 478 = .ok (.iadd, 1) := by decide +kernel
theorem dL_law_479 : decode cL_law 479 = .ok (.iaload, 1) := by decide +kernel
theorem dL_law_480 : decode cL_law 480 = .ok (.aload_n 0, 1) := by decide +kernel
theorem dL_law_481 : decode cL_law 481 = .ok (.iload_n 3, 1) := by decide +kernel
theorem dL_law_482 : decode cL_law 482 = .ok (.iconst 3, 1) := by decide +kernel
theorem dL_law_483 : decode cL_law 483 = .ok (.iadd, 1) := by decide +kernel
theorem dL_law_484 : decode cL_law 484 = .ok (.iaload, 1) := by decide +kernel
theorem dL_law_485 : decode cL_law 485 = .ok (.invokevirtual 59, 3) := by decide +kernel
theorem dL_law_488 : decode cL_law 488 = .ok (.if_icmp .eq 334, 3) := by decide +kernel
theorem dL_law_491 : decode cL_law 491 = .ok (.iconst 0, 1) := by decide +kernel
theorem dL_law_492 : decode cL_law 492 = .ok (.ireturn, 1) := by decide +kernel
theorem dL_law_493 : decode cL_law 493 = .ok (.aload_n 1, 1) := by decide +kernel
theorem dL_law_494 : decode cL_law 494 = .ok (.aload_n 0, 1) := by decide +kernel
theorem dL_law_495 : decode cL_law 495 = .ok (.iload_n 3, 1) := by decide +kernel
theorem dL_law_496 : decode cL_law 496 = .ok (.iconst 1, 1) := by decide +kernel
theorem dL_law_497 : decode cL_law 497 = .ok (.iadd, 1) := by decide +kernel
theorem dL_law_498 : decode cL_law 498 = .ok (.iaload, 1) := by decide +kernel
theorem dL_law_499 : decode cL_law 499 = .ok (.invokevirtual 60, 3) := by decide +kernel
theorem dL_law_502 : decode cL_law 502 = .ok (.aload_n 2, 1) := by decide +kernel
theorem dL_law_503 : decode cL_law 503 = .ok (.aload_n 0, 1) := by decide +kernel
theorem dL_law_504 : decode cL_law 504 = .ok (.iload_n 3, 1) := by decide +kernel
theorem dL_law_505 : decode cL_law 505 = .ok (.iconst 1, 1) := by decide +kernel
theorem dL_law_506 : decode cL_law 506 = .ok (.iadd, 1) := by decide +kernel
theorem dL_law_507 : decode cL_law 507 = .ok (.iaload, 1) := by decide +kernel
theorem dL_law_508 : decode cL_law 508 = .ok (.invokevirtual 64, 3) := by decide +kernel
theorem dL_law_511 : decode cL_law 511 = .ok (.if_icmp .eq 311, 3) := by decide +kernel
theorem dL_law_514 : decode cL_law 514 = .ok (.iconst 0, 1) := by decide +kernel
theorem dL_law_515 : decode cL_law 515 = .ok (.ireturn, 1) := by decide +kernel
theorem dL_law_516 : decode cL_law 516 = .ok (.aload_n 1, 1) := by decide +kernel
theorem dL_law_517 : decode cL_law 517 = .ok (.aload_n 0, 1) := by decide +kernel
theorem dL_law_518 : decode cL_law 518 = .ok (.iload_n 3, 1) := by decide +kernel
theorem dL_law_519 : decode cL_law 519 = .ok (.iconst 1, 1) := by decide +kernel
theorem dL_law_520 : decode cL_law 520 = .ok (.iadd, 1) := by decide +kernel
theorem dL_law_521 : decode cL_law 521 = .ok (.iaload, 1) := by decide +kernel
theorem dL_law_522 : decode cL_law 522 = .ok (.invokevirtual 65, 3) := by decide +kernel
theorem dL_law_525 : decode cL_law 525 = .ok (.aload_n 2, 1) := by decide +kernel
theorem dL_law_526 : decode cL_law 526 = .ok (.aload_n 0, 1) := by decide +kernel
theorem dL_law_527 : decode cL_law 527 = .ok (.iload_n 3, 1) := by decide +kernel
theorem dL_law_528 : decode cL_law 528 = .ok (.iconst 1, 1) := by decide +kernel
theorem dL_law_529 : decode cL_law 529 = .ok (.iadd, 1) := by decide +kernel
theorem dL_law_530 : decode cL_law 530 = .ok (.iaload, 1) := by decide +kernel
theorem dL_law_531 : decode cL_law 531 = .ok (.invokevirtual 68, 3) := by decide +kernel
theorem dL_law_534 : decode cL_law 534 = .ok (.if_icmp .eq 288, 3) := by decide +kernel
theorem dL_law_537 : decode cL_law 537 = .ok (.iconst 0, 1) := by decide +kernel
theorem dL_law_538 : decode cL_law 538 = .ok (.ireturn, 1) := by decide +kernel
theorem dL_law_539 : decode cL_law 539 = .ok (.aload_n 1, 1) := by decide +kernel
theorem dL_law_540 : decode cL_law 540 = .ok (.aload_n 0, 1) := by decide +kernel
theorem dL_law_541 : decode cL_law 541 = .ok (.iload_n 3, 1) := by decide +kernel
theorem dL_law_542 : decode cL_law 542 = .ok (.iconst 1, 1) := by decide +kernel
theorem dL_law_543 : decode cL_law 543 = .ok (.iadd, 1) := by decide +kernel
theorem dL_law_544 : decode cL_law 544 = .ok (.iaload, 1) := by decide +kernel
theorem dL_law_545 : decode cL_law 545 = .ok (.aload_n 0, 1) := by decide +kernel
theorem dL_law_546 : decode cL_law 546 = .ok (.iload_n 3, 1) := by decide +kernel
theorem dL_law_547 : decode cL_law 547 = .ok (.iconst 2, 1) := by decide +kernel
theorem dL_law_548 : decode cL_law 548 = .ok (.iadd, 1) := by decide +kernel
theorem dL_law_549 : decode cL_law 549 = .ok (.iaload, 1) := by decide +kernel
theorem dL_law_550 : decode cL_law 550 = .ok (.aload_n 0, 1) := by decide +kernel
theorem dL_law_551 : decode cL_law 551 = .ok (.iload_n 3, 1) := by decide +kernel
theorem dL_law_552 : decode cL_law 552 = .ok (.iconst 3, 1) := by decide +kernel
theorem dL_law_553 : decode cL_law 553 = .ok (.iadd, 1) := by decide +kernel
theorem dL_law_554 : decode cL_law 554 = .ok (.iaload, 1) := by decide +kernel
theorem dL_law_555 : decode cL_law 555 = .ok (.aload_n 0, 1) := by decide +kernel
theorem dL_law_556 : decode cL_law 556 = .ok (.iload_n 3, 1) := by decide +kernel
theorem dL_law_557 : decode cL_law 557 = .ok (.iconst 4, 1) := by decide +kernel
theorem dL_law_558 : decode cL_law 558 = .ok (.iadd, 1) := by decide +kernel
theorem dL_law_559 : decode cL_law 559 = .ok (.iaload, 1) := by decide +kernel
theorem dL_law_560 : decode cL_law 560 = .ok (.invokevirtual 69, 3) := by decide +kernel
theorem dL_law_563 : decode cL_law 563 = .ok (.aload_n 2, 1) := by decide +kernel
theorem dL_law_564 : decode cL_law 564 = .ok (.aload_n 0, 1) := by decide +kernel
theorem dL_law_565 : decode cL_law 565 = .ok (.iload_n 3, 1) := by decide +kernel
theorem dL_law_566 : decode cL_law 566 = .ok (.iconst 1, 1) := by decide +kernel
theorem dL_law_567 : decode cL_law 567 = .ok (.iadd, 1) := by decide +kernel
theorem dL_law_568 : decode cL_law 568 = .ok (.iaload, 1) := by decide +kernel
theorem dL_law_569 : decode cL_law 569 = .ok (.aload_n 0, 1) := by decide +kernel
theorem dL_law_570 : decode cL_law 570 = .ok (.iload_n 3, 1) := by decide +kernel
theorem dL_law_571 : decode cL_law 571 = .ok (.iconst 2, 1) := by decide +kernel
theorem dL_law_572 : decode cL_law 572 = .ok (.iadd, 1) := by decide +kernel
theorem dL_law_573 : decode cL_law 573 = .ok (.iaload, 1) := by decide +kernel
theorem dL_law_574 : decode cL_law 574 = .ok (.aload_n 0, 1) := by decide +kernel
theorem dL_law_575 : decode cL_law 575 = .ok (.iload_n 3, 1) := by decide +kernel
theorem dL_law_576 : decode cL_law 576 = .ok (.iconst 3, 1) := by decide +kernel
theorem dL_law_577 : decode cL_law 577 = .ok (.iadd, 1) := by decide +kernel
theorem dL_law_578 : decode cL_law 578 = .ok (.iaload, 1) := by decide +kernel
theorem dL_law_579 : decode cL_law 579 = .ok (.aload_n 0, 1) := by decide +kernel
theorem dL_law_580 : decode cL_law 580 = .ok (.iload_n 3, 1) := by decide +kernel
theorem dL_law_581 : decode cL_law 581 = .ok (.iconst 4, 1) := by decide +kernel
theorem dL_law_582 : decode cL_law 582 = .ok (.iadd, 1) := by decide +kernel
theorem dL_law_583 : decode cL_law 583 = .ok (.iaload, 1) := by decide +kernel
theorem dL_law_584 : decode cL_law 584 = .ok (.invokevirtual 72, 3) := by decide +kernel
theorem dL_law_587 : decode cL_law 587 = .ok (.lcmp, 1) := by decide +kernel
theorem dL_law_588 : decode cL_law 588 = .ok (.ifCond .eq 234, 3) := by decide +kernel
theorem dL_law_591 : decode cL_law 591 = .ok (.iconst 0, 1) := by decide +kernel
theorem dL_law_592 : decode cL_law 592 = .ok (.ireturn, 1) := by decide +kernel
theorem dL_law_593 : decode cL_law 593 = .ok (.aload_n 1, 1) := by decide +kernel
theorem dL_law_594 : decode cL_law 594 = .ok (.aload_n 0, 1) := by decide +kernel
theorem dL_law_595 : decode cL_law 595 = .ok (.iload_n 3, 1) := by decide +kernel
theorem dL_law_596 : decode cL_law 596 = .ok (.iconst 1, 1) := by decide +kernel
theorem dL_law_597 : decode cL_law 597 = .ok (.iadd, 1) := by decide +kernel
theorem dL_law_598 : decode cL_law 598 = .ok (.iaload, 1) := by decide +kernel
theorem dL_law_599 : decode cL_law 599 = .ok (.invokevirtual 73, 3) := by decide +kernel
theorem dL_law_602 : decode cL_law 602 = .ok (.aload_n 2, 1) := by decide +kernel
theorem dL_law_603 : decode cL_law 603 = .ok (.aload_n 0, 1) := by decide +kernel
theorem dL_law_604 : decode cL_law 604 = .ok (.iload_n 3, 1) := by decide +kernel
theorem dL_law_605 : decode cL_law 605 = .ok (.iconst 1, 1) := by decide +kernel
theorem dL_law_606 : decode cL_law 606 = .ok (.iadd, 1) := by decide +kernel
theorem dL_law_607 : decode cL_law 607 = .ok (.iaload, 1) := by decide +kernel
theorem dL_law_608 : decode cL_law 608 = .ok (.invokevirtual 77, 3) := by decide +kernel
theorem dL_law_611 : decode cL_law 611 = .ok (.lcmp, 1) := by decide +kernel
theorem dL_law_612 : decode cL_law 612 = .ok (.ifCond .eq 210, 3) := by decide +kernel
theorem dL_law_615 : decode cL_law 615 = .ok (.iconst 0, 1) := by decide +kernel
theorem dL_law_616 : decode cL_law 616 = .ok (.ireturn, 1) := by decide +kernel
theorem dL_law_617 : decode cL_law 617 = .ok (.aload_n 1, 1) := by decide +kernel
theorem dL_law_618 : decode cL_law 618 = .ok (.aload_n 0, 1) := by decide +kernel
theorem dL_law_619 : decode cL_law 619 = .ok (.iload_n 3, 1) := by decide +kernel
theorem dL_law_620 : decode cL_law 620 = .ok (.iconst 1, 1) := by decide +kernel
theorem dL_law_621 : decode cL_law 621 = .ok (.iadd, 1) := by decide +kernel
theorem dL_law_622 : decode cL_law 622 = .ok (.iaload, 1) := by decide +kernel
theorem dL_law_623 : decode cL_law 623 = .ok (.invokevirtual 78, 3) := by decide +kernel
theorem dL_law_626 : decode cL_law 626 = .ok (.aload_n 2, 1) := by decide +kernel
theorem dL_law_627 : decode cL_law 627 = .ok (.aload_n 0, 1) := by decide +kernel
theorem dL_law_628 : decode cL_law 628 = .ok (.iload_n 3, 1) := by decide +kernel
theorem dL_law_629 : decode cL_law 629 = .ok (.iconst 1, 1) := by decide +kernel
theorem dL_law_630 : decode cL_law 630 = .ok (.iadd, 1) := by decide +kernel
theorem dL_law_631 : decode cL_law 631 = .ok (.iaload, 1) := by decide +kernel
theorem dL_law_632 : decode cL_law 632 = .ok (.invokevirtual 81, 3) := by decide +kernel
theorem dL_law_635 : decode cL_law 635 = .ok (.if_icmp .eq 187, 3) := by decide +kernel
theorem dL_law_638 : decode cL_law 638 = .ok (.iconst 0, 1) := by decide +kernel
theorem dL_law_639 : decode cL_law 639 = .ok (.ireturn, 1) := by decide +kernel
theorem dL_law_640 : decode cL_law 640 = .ok (.aload_n 1, 1) := by decide +kernel
theorem dL_law_641 : decode cL_law 641 = .ok (.aload_n 0, 1) := by decide +kernel
theorem dL_law_642 : decode cL_law 642 = .ok (.iload_n 3, 1) := by decide +kernel
theorem dL_law_643 : decode cL_law 643 = .ok (.iconst 1, 1) := by decide +kernel
theorem dL_law_644 : decode cL_law 644 = .ok (.iadd, 1) := by decide +kernel
theorem dL_law_645 : decode cL_law 645 = .ok (.iaload, 1) := by decide +kernel
theorem dL_law_646 : decode cL_law 646 = .ok (.invokevirtual 82, 3) := by decide +kernel
theorem dL_law_649 : decode cL_law 649 = .ok (.aload_n 2, 1) := by decide +kernel
theorem dL_law_650 : decode cL_law 650 = .ok (.aload_n 0, 1) := by decide +kernel
theorem dL_law_651 : decode cL_law 651 = .ok (.iload_n 3, 1) := by decide +kernel
theorem dL_law_652 : decode cL_law 652 = .ok (.iconst 1, 1) := by decide +kernel
theorem dL_law_653 : decode cL_law 653 = .ok (.iadd, 1) := by decide +kernel
theorem dL_law_654 : decode cL_law 654 = .ok (.iaload, 1) := by decide +kernel
theorem dL_law_655 : decode cL_law 655 = .ok (.invokevirtual 85, 3) := by decide +kernel
theorem dL_law_658 : decode cL_law 658 = .ok (.if_icmp .eq 164, 3) := by decide +kernel
theorem dL_law_661 : decode cL_law 661 = .ok (.iconst 0, 1) := by decide +kernel
theorem dL_law_662 : decode cL_law 662 = .ok (.ireturn, 1) := by decide +kernel
theorem dL_law_663 : decode cL_law 663 = .ok (.aload_n 1, 1) := by decide +kernel
theorem dL_law_664 : decode cL_law 664 = .ok (.aload_n 0, 1) := by decide +kernel
theorem dL_law_665 : decode cL_law 665 = .ok (.iload_n 3, 1) := by decide +kernel
theorem dL_law_666 : decode cL_law 666 = .ok (.iconst 1, 1) := by decide +kernel
theorem dL_law_667 : decode cL_law 667 = .ok (.iadd, 1) := by decide +kernel
theorem dL_law_668 : decode cL_law 668 = .ok (.iaload, 1) := by decide +kernel
theorem dL_law_669 : decode cL_law 669 = .ok (.aload_n 0, 1) := by decide +kernel
theorem dL_law_670 : decode cL_law 670 = .ok (.iload_n 3, 1) := by decide +kernel
theorem dL_law_671 : decode cL_law 671 = .ok (.iconst 2, 1) := by decide +kernel
theorem dL_law_672 : decode cL_law 672 = .ok (.iadd, 1) := by decide +kernel
theorem dL_law_673 : decode cL_law 673 = .ok (.iaload, 1) := by decide +kernel
theorem dL_law_674 : decode cL_law 674 = .ok (.invokevirtual 86, 3) := by decide +kernel
theorem dL_law_677 : decode cL_law 677 = .ok (.aload_n 2, 1) := by decide +kernel
theorem dL_law_678 : decode cL_law 678 = .ok (.aload_n 0, 1) := by decide +kernel
theorem dL_law_679 : decode cL_law 679 = .ok (.iload_n 3, 1) := by decide +kernel
theorem dL_law_680 : decode cL_law 680 = .ok (.iconst 1, 1) := by decide +kernel
theorem dL_law_681 : decode cL_law 681 = .ok (.iadd, 1) := by decide +kernel
theorem dL_law_682 : decode cL_law 682 = .ok (.iaload, 1) := by decide +kernel
theorem dL_law_683 : decode cL_law 683 = .ok (.aload_n 0, 1) := by decide +kernel
theorem dL_law_684 : decode cL_law 684 = .ok (.iload_n 3, 1) := by decide +kernel
theorem dL_law_685 : decode cL_law 685 = .ok (.iconst 2, 1) := by decide +kernel
theorem dL_law_686 : decode cL_law 686 = .ok (.iadd, 1) := by decide +kernel
theorem dL_law_687 : decode cL_law 687 = .ok (.iaload, 1) := by decide +kernel
theorem dL_law_688 : decode cL_law 688 = .ok (.invokevirtual 90, 3) := by decide +kernel
theorem dL_law_691 : decode cL_law 691 = .ok (.lcmp, 1) := by decide +kernel
theorem dL_law_692 : decode cL_law 692 = .ok (.ifCond .eq 130, 3) := by decide +kernel
theorem dL_law_695 : decode cL_law 695 = .ok (.iconst 0, 1) := by decide +kernel
theorem dL_law_696 : decode cL_law 696 = .ok (.ireturn, 1) := by decide +kernel
theorem dL_law_697 : decode cL_law 697 = .ok (.aload_n 1, 1) := by decide +kernel
theorem dL_law_698 : decode cL_law 698 = .ok (.invokevirtual 91, 3) := by decide +kernel
theorem dL_law_701 : decode cL_law 701 = .ok (.aload_n 2, 1) := by decide +kernel
theorem dL_law_702 : decode cL_law 702 = .ok (.invokevirtual 95, 3) := by decide +kernel
theorem dL_law_705 : decode cL_law 705 = .ok (.lcmp, 1) := by decide +kernel
theorem dL_law_706 : decode cL_law 706 = .ok (.ifCond .eq 116, 3) := by decide +kernel
theorem dL_law_709 : decode cL_law 709 = .ok (.iconst 0, 1) := by decide +kernel
theorem dL_law_710 : decode cL_law 710 = .ok (.ireturn, 1) := by decide +kernel
theorem dL_law_711 : decode cL_law 711 = .ok (.aload_n 1, 1) := by decide +kernel
theorem dL_law_712 : decode cL_law 712 = .ok (.aload_n 0, 1) := by decide +kernel
theorem dL_law_713 : decode cL_law 713 = .ok (.iload_n 3, 1) := by decide +kernel
theorem dL_law_714 : decode cL_law 714 = .ok (.iconst 1, 1) := by decide +kernel
theorem dL_law_715 : decode cL_law 715 = .ok (.iadd, 1) := by decide +kernel
theorem dL_law_716 : decode cL_law 716 = .ok (.iaload, 1) := by decide +kernel
theorem dL_law_717 : decode cL_law 717 = .ok (.aload_n 0, 1) := by decide +kernel
theorem dL_law_718 : decode cL_law 718 = .ok (.iload_n 3, 1) := by decide +kernel
theorem dL_law_719 : decode cL_law 719 = .ok (.iconst 2, 1) := by decide +kernel
theorem dL_law_720 : decode cL_law 720 = .ok (.iadd, 1) := by decide +kernel
theorem dL_law_721 : decode cL_law 721 = .ok (.iaload, 1) := by decide +kernel
theorem dL_law_722 : decode cL_law 722 = .ok (.ifCond .eq 7, 3) := by decide +kernel
theorem dL_law_725 : decode cL_law 725 = .ok (.iconst 1, 1) := by decide +kernel
theorem dL_law_726 : decode cL_law 726 = .ok (.goto 4, 3) := by decide +kernel
theorem dL_law_729 : decode cL_law 729 = .ok (.iconst 0, 1) := by decide +kernel
theorem dL_law_730 : decode cL_law 730 = .ok (.invokevirtual 96, 3) := by decide +kernel
theorem dL_law_733 : decode cL_law 733 = .ok (.aload_n 2, 1) := by decide +kernel
theorem dL_law_734 : decode cL_law 734 = .ok (.aload_n 0, 1) := by decide +kernel
theorem dL_law_735 : decode cL_law 735 = .ok (.iload_n 3, 1) := by decide +kernel
theorem dL_law_736 : decode cL_law 736 = .ok (.iconst 1, 1) := by decide +kernel
theorem dL_law_737 : decode cL_law 737 = .ok (.iadd, 1) := by decide +kernel
theorem dL_law_738 : decode cL_law 738 = .ok (.iaload, 1) := by decide +kernel
theorem dL_law_739 : decode cL_law 739 = .ok (.aload_n 0, 1) := by decide +kernel
theorem dL_law_740 : decode cL_law 740 = .ok (.iload_n 3, 1) := by decide +kernel
theorem dL_law_741 : decode cL_law 741 = .ok (.iconst 2, 1) := by decide +kernel
theorem dL_law_742 : decode cL_law 742 = .ok (.iadd, 1) := by decide +kernel
theorem dL_law_743 : decode cL_law 743 = .ok (.iaload, 1) := by decide +kernel
theorem dL_law_744 : decode cL_law 744 = .ok (.ifCond .eq 7, 3) := by decide +kernel
theorem dL_law_747 : decode cL_law 747 = .ok (.iconst 1, 1) := by decide +kernel
theorem dL_law_748 : decode cL_law 748 = .ok (.goto 4, 3) := by decide +kernel
theorem dL_law_751 : decode cL_law 751 = .ok (.iconst 0, 1) := by decide +kernel
theorem dL_law_752 : decode cL_law 752 = .ok (.invokevirtual 100, 3) := by decide +kernel
theorem dL_law_755 : decode cL_law 755 = .ok (.if_icmp .eq 67, 3) := by decide +kernel
theorem dL_law_758 : decode cL_law 758 = .ok (.iconst 0, 1) := by decide +kernel
theorem dL_law_759 : decode cL_law 759 = .ok (.ireturn, 1) := by decide +kernel
theorem dL_law_760 : decode cL_law 760 = .ok (.aload_n 1, 1) := by decide +kernel
theorem dL_law_761 : decode cL_law 761 = .ok (.invokevirtual 101, 3) := by decide +kernel
theorem dL_law_764 : decode cL_law 764 = .ok (.aload_n 2, 1) := by decide +kernel
theorem dL_law_765 : decode cL_law 765 = .ok (.invokevirtual 104, 3) := by decide +kernel
theorem dL_law_768 : decode cL_law 768 = .ok (.if_icmp .eq 54, 3) := by decide +kernel
theorem dL_law_771 : decode cL_law 771 = .ok (.iconst 0, 1) := by decide +kernel
theorem dL_law_772 : decode cL_law 772 = .ok (.ireturn, 1) := by decide +kernel
theorem dL_law_773 : decode cL_law 773 = .ok (.aload_n 1, 1) := by decide +kernel
theorem dL_law_774 : decode cL_law 774 = .ok (.invokevirtual 105, 3) := by decide +kernel
theorem dL_law_777 : decode cL_law 777 = .ok (.aload_n 2, 1) := by decide +kernel
theorem dL_law_778 : decode cL_law 778 = .ok (.invokevirtual 108, 3) := by decide +kernel
theorem dL_law_781 : decode cL_law 781 = .ok (.if_icmp .eq 41, 3) := by decide +kernel
theorem dL_law_784 : decode cL_law 784 = .ok (.iconst 0, 1) := by decide +kernel
theorem dL_law_785 : decode cL_law 785 = .ok (.ireturn, 1) := by decide +kernel
theorem dL_law_786 : decode cL_law 786 = .ok (.aload_n 1, 1) := by decide +kernel
theorem dL_law_787 : decode cL_law 787 = .ok (.invokevirtual 109, 3) := by decide +kernel
theorem dL_law_790 : decode cL_law 790 = .ok (.aload_n 2, 1) := by decide +kernel
theorem dL_law_791 : decode cL_law 791 = .ok (.invokevirtual 112, 3) := by decide +kernel
theorem dL_law_794 : decode cL_law 794 = .ok (.if_icmp .eq 28, 3) := by decide +kernel
theorem dL_law_797 : decode cL_law 797 = .ok (.iconst 0, 1) := by decide +kernel
theorem dL_law_798 : decode cL_law 798 = .ok (.ireturn, 1) := by decide +kernel
theorem dL_law_799 : decode cL_law 799 = .ok (.aload_n 1, 1) := by decide +kernel
theorem dL_law_800 : decode cL_law 800 = .ok (.aload_n 0, 1) := by decide +kernel
theorem dL_law_801 : decode cL_law 801 = .ok (.iload_n 3, 1) := by decide +kernel
theorem dL_law_802 : decode cL_law 802 = .ok (.iconst 1, 1) := by decide +kernel
theorem dL_law_803 : decode cL_law 803 = .ok (.iadd, 1) := by decide +kernel
theorem dL_law_804 : decode cL_law 804 = .ok (.iaload, 1) := by decide +kernel
theorem dL_law_805 : decode cL_law 805 = .ok (.invokevirtual 113, 3) := by decide +kernel
theorem dL_law_808 : decode cL_law 808 = .ok (.aload_n 2, 1) := by decide +kernel
theorem dL_law_809 : decode cL_law 809 = .ok (.aload_n 0, 1) := by decide +kernel
theorem dL_law_810 : decode cL_law 810 = .ok (.iload_n 3, 1) := by decide +kernel
theorem dL_law_811 : decode cL_law 811 = .ok (.iconst 1, 1) := by decide +kernel
theorem dL_law_812 : decode cL_law 812 = .ok (.iadd, 1) := by decide +kernel
theorem dL_law_813 : decode cL_law 813 = .ok (.iaload, 1) := by decide +kernel
theorem dL_law_814 : decode cL_law 814 = .ok (.invokevirtual 116, 3) := by decide +kernel
theorem dL_law_817 : decode cL_law 817 = .ok (.if_icmp .eq 5, 3) := by decide +kernel
theorem dL_law_820 : decode cL_law 820 = .ok (.iconst 0, 1) := by decide +kernel
theorem dL_law_821 : decode cL_law 821 = .ok (.ireturn, 1) := by decide +kernel
theorem dL_law_822 : decode cL_law 822 = .ok (.iinc 3 6, 3) := by decide +kernel
theorem dL_law_825 : decode cL_law 825 = .ok (.goto (-807), 3) := by decide +kernel
theorem dL_law_828 : decode cL_law 828 = .ok (.iconst 1, 1) := by decide +kernel
theorem dL_law_829 : decode cL_law 829 = .ok (.ireturn, 1) := by decide +kernel
