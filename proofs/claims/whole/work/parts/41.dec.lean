/-! decode rows: a trial -/
theorem dd_162_0 : decode (tb_code 162) 0 = .ok (.aload_n 0, 1) := by decide +kernel
theorem dd_162_1 : decode (tb_code 162) 1 = .ok (.getfield 166, 3) := by decide +kernel
theorem dd_162_4 : decode (tb_code 162) 4 = .ok (.ireturn, 1) := by decide +kernel
theorem dd_0_0 : decode (tb_code 0) 0 = .ok (.aload_n 0, 1) := by decide +kernel
theorem dd_0_1 : decode (tb_code 0) 1 = .ok (.invokespecial 3, 3) := by decide +kernel
theorem dd_0_4 : decode (tb_code 0) 4 = .ok (.aload_n 0, 1) := by decide +kernel
theorem dd_0_5 : decode (tb_code 0) 5 = .ok (.bipush 40, 2) := by decide +kernel
theorem dd_0_7 : decode (tb_code 0) 7 = .ok (.newarray .byte, 2) := by decide +kernel
theorem dd_0_9 : decode (tb_code 0) 9 = .ok (.putfield 11, 3) := by decide +kernel
theorem dd_0_12 : decode (tb_code 0) 12 = .ok (.aload_n 0, 1) := by decide +kernel
theorem dd_0_13 : decode (tb_code 0) 13 = .ok (.getstatic 15, 3) := by decide +kernel
theorem dd_0_16 : decode (tb_code 0) 16 = .ok (.putfield 18, 3) := by decide +kernel
theorem dd_0_19 : decode (tb_code 0) 19 = .ok (.aload_n 0, 1) := by decide +kernel
theorem dd_0_20 : decode (tb_code 0) 20 = .ok (.bipush 8, 2) := by decide +kernel
theorem dd_0_22 : decode (tb_code 0) 22 = .ok (.anewarray 21, 3) := by decide +kernel
theorem dd_0_25 : decode (tb_code 0) 25 = .ok (.putfield 23, 3) := by decide +kernel
theorem dd_0_28 : decode (tb_code 0) 28 = .ok (.aload_n 0, 1) := by decide +kernel
theorem dd_0_29 : decode (tb_code 0) 29 = .ok (.new 27, 3) := by decide +kernel
theorem dd_0_32 : decode (tb_code 0) 32 = .ok (.dup, 1) := by decide +kernel
theorem dd_0_33 : decode (tb_code 0) 33 = .ok (.invokespecial 29, 3) := by decide +kernel
theorem dd_0_36 : decode (tb_code 0) 36 = .ok (.putfield 30, 3) := by decide +kernel
theorem dd_0_39 : decode (tb_code 0) 39 = .ok (.aload_n 0, 1) := by decide +kernel
theorem dd_0_40 : decode (tb_code 0) 40 = .ok (.new 27, 3) := by decide +kernel
theorem dd_0_43 : decode (tb_code 0) 43 = .ok (.dup, 1) := by decide +kernel
theorem dd_0_44 : decode (tb_code 0) 44 = .ok (.invokespecial 29, 3) := by decide +kernel
theorem dd_0_47 : decode (tb_code 0) 47 = .ok (.putfield 34, 3) := by decide +kernel
theorem dd_0_50 : decode (tb_code 0) 50 = .ok (.aload_n 0, 1) := by decide +kernel
theorem dd_0_51 : decode (tb_code 0) 51 = .ok (.new 27, 3) := by decide +kernel
theorem dd_0_54 : decode (tb_code 0) 54 = .ok (.dup, 1) := by decide +kernel
theorem dd_0_55 : decode (tb_code 0) 55 = .ok (.invokespecial 29, 3) := by decide +kernel
theorem dd_0_58 : decode (tb_code 0) 58 = .ok (.putfield 37, 3) := by decide +kernel
theorem dd_0_61 : decode (tb_code 0) 61 = .ok (.aload_n 0, 1) := by decide +kernel
theorem dd_0_62 : decode (tb_code 0) 62 = .ok (.new 40, 3) := by decide +kernel
theorem dd_0_65 : decode (tb_code 0) 65 = .ok (.dup, 1) := by decide +kernel
theorem dd_0_66 : decode (tb_code 0) 66 = .ok (.invokespecial 42, 3) := by decide +kernel
theorem dd_0_69 : decode (tb_code 0) 69 = .ok (.putfield 43, 3) := by decide +kernel
theorem dd_0_72 : decode (tb_code 0) 72 = .ok (.aload_n 0, 1) := by decide +kernel
theorem dd_0_73 : decode (tb_code 0) 73 = .ok (.new 47, 3) := by decide +kernel
theorem dd_0_76 : decode (tb_code 0) 76 = .ok (.dup, 1) := by decide +kernel
theorem dd_0_77 : decode (tb_code 0) 77 = .ok (.invokespecial 49, 3) := by decide +kernel
theorem dd_0_80 : decode (tb_code 0) 80 = .ok (.putfield 50, 3) := by decide +kernel
theorem dd_0_83 : decode (tb_code 0) 83 = .ok (.aload_n 0, 1) := by decide +kernel
theorem dd_0_84 : decode (tb_code 0) 84 = .ok (.new 54, 3) := by decide +kernel
theorem dd_0_87 : decode (tb_code 0) 87 = .ok (.dup, 1) := by decide +kernel
theorem dd_0_88 : decode (tb_code 0) 88 = .ok (.invokespecial 56, 3) := by decide +kernel
theorem dd_0_91 : decode (tb_code 0) 91 = .ok (.putfield 57, 3) := by decide +kernel
theorem dd_0_94 : decode (tb_code 0) 94 = .ok (.iconst 0, 1) := by decide +kernel
theorem dd_0_95 : decode (tb_code 0) 95 = .ok (.istore_n 1, 1) := by decide +kernel
theorem dd_0_96 : decode (tb_code 0) 96 = .ok (.iload_n 1, 1) := by decide +kernel
theorem dd_0_97 : decode (tb_code 0) 97 = .ok (.aload_n 0, 1) := by decide +kernel
theorem dd_0_98 : decode (tb_code 0) 98 = .ok (.getfield 23, 3) := by decide +kernel
theorem dd_0_101 : decode (tb_code 0) 101 = .ok (.arraylength, 1) := by decide +kernel
theorem dd_0_102 : decode (tb_code 0) 102 = .ok (.if_icmp .ge 25, 3) := by decide +kernel
theorem dd_0_105 : decode (tb_code 0) 105 = .ok (.aload_n 0, 1) := by decide +kernel
theorem dd_0_106 : decode (tb_code 0) 106 = .ok (.getfield 23, 3) := by decide +kernel
theorem dd_0_109 : decode (tb_code 0) 109 = .ok (.iload_n 1, 1) := by decide +kernel
theorem dd_0_110 : decode (tb_code 0) 110 = .ok (.new 21, 3) := by decide +kernel
theorem dd_0_113 : decode (tb_code 0) 113 = .ok (.dup, 1) := by decide +kernel
theorem dd_0_114 : decode (tb_code 0) 114 = .ok (.iload_n 1, 1) := by decide +kernel
theorem dd_0_115 : decode (tb_code 0) 115 = .ok (.iconst 1, 1) := by decide +kernel
theorem dd_0_116 : decode (tb_code 0) 116 = .ok (.iadd, 1) := by decide +kernel
theorem dd_0_117 : decode (tb_code 0) 117 = .ok (.invokespecial 61, 3) := by decide +kernel
theorem dd_0_120 : decode (tb_code 0) 120 = .ok (.aastore, 1) := by decide +kernel
theorem dd_0_121 : decode (tb_code 0) 121 = .ok (.iinc 1 1, 3) := by decide +kernel
theorem dd_0_124 : decode (tb_code 0) 124 = .ok (.goto (-28), 3) := by decide +kernel
theorem dd_0_127 : decode (tb_code 0) 127 = .ok (.aload_n 0, 1) := by decide +kernel
theorem dd_0_128 : decode (tb_code 0) 128 = .ok (.getfield 57, 3) := by decide +kernel
theorem dd_0_131 : decode (tb_code 0) 131 = .ok (.aload_n 0, 1) := by decide +kernel
theorem dd_0_132 : decode (tb_code 0) 132 = .ok (.getfield 18, 3) := by decide +kernel
theorem dd_0_135 : decode (tb_code 0) 135 = .ok (.invokevirtual 64, 3) := by decide +kernel
theorem dd_0_138 : decode (tb_code 0) 138 = .ok (.return_, 1) := by decide +kernel
theorem dd_268_0 : decode (tb_code 268) 0 = .ok (.aload_n 0, 1) := by decide +kernel
theorem dd_268_1 : decode (tb_code 268) 1 = .ok (.iconst 0, 1) := by decide +kernel
theorem dd_268_2 : decode (tb_code 268) 2 = .ok (.putfield 206, 3) := by decide +kernel
theorem dd_268_5 : decode (tb_code 268) 5 = .ok (.aload_n 0, 1) := by decide +kernel
theorem dd_268_6 : decode (tb_code 268) 6 = .ok (.getfield 219, 3) := by decide +kernel
theorem dd_268_9 : decode (tb_code 268) 9 = .ok (.ireturn, 1) := by decide +kernel
