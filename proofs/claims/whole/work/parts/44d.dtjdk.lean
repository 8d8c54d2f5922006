/-! written by gen_dt.py: tables of instructions -/
/-- java/util/ArrayList.<init> -/
def dt_2 : List jx_D := [(0, .aload_n 0, 1, 0, 0, 0, 0, [], 0), (1, .invokespecial 1, 3, 9, 3, 0, 0, [], 0), (4, .aload_n 0, 1, 0, 0, 0, 0, [], 0), (5, .getstatic 39, 3, 13, 1, 0, 0, [], 0), (8, .putfield 9, 3, 12, 1, 0, 2, [], 0), (11, .return_, 1, 7, 0, 0, 0, [], 0)]
set_option maxRecDepth 100000 in
theorem dt_2_k : dt_2.all (jx_ck 2) = true := by decide +kernel
/-- java/util/AbstractList.<init> -/
def dt_3 : List jx_D := [(0, .aload_n 0, 1, 0, 0, 0, 0, [], 0), (1, .invokespecial 1, 3, 9, 4, 0, 0, [], 0), (4, .aload_n 0, 1, 0, 0, 0, 0, [], 0), (5, .iconst 0, 1, 0, 0, 0, 0, [(0, 0)], 0), (6, .putfield 7, 3, 12, 1, 2, 0, [], 0), (9, .return_, 1, 7, 0, 0, 0, [], 0)]
set_option maxRecDepth 100000 in
theorem dt_3_k : dt_3.all (jx_ck 3) = true := by decide +kernel
/-- java/util/AbstractCollection.<init> -/
def dt_4 : List jx_D := [(0, .aload_n 0, 1, 0, 0, 0, 0, [], 0), (1, .invokespecial 1, 3, 29, 0, 0, 0, [], 0), (4, .return_, 1, 7, 0, 0, 0, [], 0)]
set_option maxRecDepth 100000 in
theorem dt_4_k : dt_4.all (jx_ck 4) = true := by decide +kernel
/-- java/lang/Math.max -/
def dt_11 : List jx_D := [(0, .iload_n 0, 1, 0, 0, 0, 0, [], 0), (1, .iload_n 1, 1, 0, 0, 0, 0, [], 0), (2, .if_icmp .lt 7, 3, 2, 9, 0, 0, [], 0), (5, .iload_n 0, 1, 0, 0, 0, 0, [], 0), (6, .goto 4, 3, 5, 10, 0, 0, [], 0), (9, .iload_n 1, 1, 0, 0, 0, 0, [], 0), (10, .ireturn, 1, 7, 0, 0, 1, [], 0)]
set_option maxRecDepth 100000 in
theorem dt_11_k : dt_11.all (jx_ck 11) = true := by decide +kernel
/-- java/lang/Math.min -/
def dt_13 : List jx_D := [(0, .iload_n 0, 1, 0, 0, 0, 0, [], 0), (1, .iload_n 1, 1, 0, 0, 0, 0, [], 0), (2, .if_icmp .gt 7, 3, 2, 9, 0, 0, [], 0), (5, .iload_n 0, 1, 0, 0, 0, 0, [], 0), (6, .goto 4, 3, 5, 10, 0, 0, [], 0), (9, .iload_n 1, 1, 0, 0, 0, 0, [], 0), (10, .ireturn, 1, 7, 0, 0, 1, [], 0)]
set_option maxRecDepth 100000 in
theorem dt_13_k : dt_13.all (jx_ck 13) = true := by decide +kernel
/-- java/util/Arrays.copyOf -/
def dt_14 : List jx_D := [(0, .iload_n 1, 1, 0, 0, 0, 0, [], 0), (1, .aload_n 0, 1, 0, 0, 0, 0, [], 0), (2, .arraylength, 1, 17, 0, 0, 0, [], 0), (3, .if_icmp .ne 11, 3, 2, 14, 0, 0, [], 0), (6, .aload_n 0, 1, 0, 0, 0, 0, [], 0), (7, .invokevirtual 316, 3, 31, 6, 0, 0, [], 0), (10, .checkcast 317, 3, 26, 317, 0, 18, [], 0), (13, .areturn, 1, 7, 0, 0, 4, [], 0), (14, .iload_n 1, 1, 0, 0, 0, 0, [], 0), (15, .newarray .int, 2, 15, 1, 0, 0, [], 0), (17, .astore_n 2, 1, 0, 0, 0, 0, [], 0), (18, .aload_n 0, 1, 0, 0, 0, 0, [], 0), (19, .iconst 0, 1, 0, 0, 0, 0, [(0, 0)], 0), (20, .aload_n 2, 1, 0, 0, 0, 0, [], 0), (21, .iconst 0, 1, 0, 0, 0, 0, [(0, 0)], 0), (22, .aload_n 0, 1, 0, 0, 0, 0, [], 0), (23, .arraylength, 1, 17, 0, 0, 0, [], 0), (24, .iload_n 1, 1, 0, 0, 0, 0, [], 0), (25, .invokestatic 304, 3, 30, 2, 0, 0, [], 0), (28, .invokestatic 150, 3, 30, 5, 0, 0, [], 0), (31, .aload_n 2, 1, 0, 0, 0, 0, [], 0), (32, .areturn, 1, 7, 0, 0, 4, [], 0)]
set_option maxRecDepth 100000 in
theorem dt_14_k : dt_14.all (jx_ck 14) = true := by decide +kernel
/-- java/util/ArrayList.isEmpty -/
def dt_18 : List jx_D := [(0, .aload_n 0, 1, 0, 0, 0, 0, [], 0), (1, .getfield 48, 3, 11, 1, 1, 0, [], 0), (4, .ifCond .ne 7, 3, 1, 11, 0, 0, [], 0), (7, .iconst 1, 1, 0, 0, 0, 0, [(1, 0)], 0), (8, .goto 4, 3, 5, 12, 0, 0, [], 0), (11, .iconst 0, 1, 0, 0, 0, 0, [(0, 0)], 0), (12, .ireturn, 1, 7, 0, 0, 2, [], 0)]
set_option maxRecDepth 100000 in
theorem dt_18_k : dt_18.all (jx_ck 18) = true := by decide +kernel
/-- java/util/Arrays.copyOf -/
def dt_20 : List jx_D := [(0, .iload_n 1, 1, 0, 0, 0, 0, [], 0), (1, .aload_n 0, 1, 0, 0, 0, 0, [], 0), (2, .arraylength, 1, 17, 0, 0, 0, [], 0), (3, .if_icmp .ne 11, 3, 2, 14, 0, 0, [], 0), (6, .aload_n 0, 1, 0, 0, 0, 0, [], 0), (7, .invokevirtual 310, 3, 31, 7, 0, 0, [], 0), (10, .checkcast 311, 3, 26, 311, 0, 18, [], 0), (13, .areturn, 1, 7, 0, 0, 4, [], 0), (14, .iload_n 1, 1, 0, 0, 0, 0, [], 0), (15, .newarray .byte, 2, 15, 0, 0, 0, [], 0), (17, .astore_n 2, 1, 0, 0, 0, 0, [], 0), (18, .aload_n 0, 1, 0, 0, 0, 0, [], 0), (19, .iconst 0, 1, 0, 0, 0, 0, [(0, 0)], 0), (20, .aload_n 2, 1, 0, 0, 0, 0, [], 0), (21, .iconst 0, 1, 0, 0, 0, 0, [(0, 0)], 0), (22, .aload_n 0, 1, 0, 0, 0, 0, [], 0), (23, .arraylength, 1, 17, 0, 0, 0, [], 0), (24, .iload_n 1, 1, 0, 0, 0, 0, [], 0), (25, .invokestatic 304, 3, 30, 2, 0, 0, [], 0), (28, .invokestatic 150, 3, 30, 5, 0, 0, [], 0), (31, .aload_n 2, 1, 0, 0, 0, 0, [], 0), (32, .areturn, 1, 7, 0, 0, 4, [], 0)]
set_option maxRecDepth 100000 in
theorem dt_20_k : dt_20.all (jx_ck 20) = true := by decide +kernel
/-- java/util/ArrayList.size -/
def dt_24 : List jx_D := [(0, .aload_n 0, 1, 0, 0, 0, 0, [], 0), (1, .getfield 48, 3, 11, 1, 1, 0, [], 0), (4, .ireturn, 1, 7, 0, 0, 1, [], 0)]
set_option maxRecDepth 100000 in
theorem dt_24_k : dt_24.all (jx_ck 24) = true := by decide +kernel
/-- java/util/ArrayList.get -/
def dt_25 : List jx_D := [(0, .iload_n 1, 1, 0, 0, 0, 0, [], 0), (1, .aload_n 0, 1, 0, 0, 0, 0, [], 0), (2, .getfield 48, 3, 11, 1, 1, 0, [], 0), (5, .invokestatic 118, 3, 10, 26, 2, 0, [], 0), (8, .pop, 1, 0, 0, 0, 0, [], 0), (9, .aload_n 0, 1, 0, 0, 0, 0, [], 0), (10, .iload_n 1, 1, 0, 0, 0, 0, [], 0), (11, .invokevirtual 123, 3, 8, 28, 1, 1, [], 0), (14, .areturn, 1, 7, 0, 0, 4, [], 0)]
set_option maxRecDepth 100000 in
theorem dt_25_k : dt_25.all (jx_ck 25) = true := by decide +kernel
/-- java/util/Objects.checkIndex -/
def dt_26 : List jx_D := [(0, .iload_n 0, 1, 0, 0, 0, 0, [], 0), (1, .iload_n 1, 1, 0, 0, 0, 0, [], 0), (2, .aconst_null, 1, 0, 0, 0, 0, [], 0), (3, .invokestatic 105, 3, 10, 27, 3, 0, [], 0), (6, .ireturn, 1, 7, 0, 0, 1, [], 0)]
set_option maxRecDepth 100000 in
theorem dt_26_k : dt_26.all (jx_ck 26) = true := by decide +kernel
/-- jdk/internal/util/Preconditions.checkIndex -/
def dt_27 : List jx_D := [(0, .iload_n 0, 1, 0, 0, 0, 0, [], 0), (1, .ifCond .lt 8, 3, 1, 9, 0, 0, [], 0), (4, .iload_n 0, 1, 0, 0, 0, 0, [], 0), (5, .iload_n 1, 1, 0, 0, 0, 0, [], 0), (6, .if_icmp .lt 10, 3, 2, 16, 0, 0, [], 0), (9, .aload_n 2, 1, 0, 0, 0, 0, [], 0), (10, .iload_n 0, 1, 0, 0, 0, 0, [], 0), (11, .iload_n 1, 1, 0, 0, 0, 0, [], 0), (16, .iload_n 0, 1, 0, 0, 0, 0, [], 0), (17, .ireturn, 1, 7, 0, 0, 1, [], 0)]
set_option maxRecDepth 100000 in
theorem dt_27_k : dt_27.all (jx_ck 27) = true := by decide +kernel
/-- java/util/ArrayList.elementData -/
def dt_28 : List jx_D := [(0, .aload_n 0, 1, 0, 0, 0, 0, [], 0), (1, .getfield 9, 3, 11, 1, 0, 2, [], 0), (4, .iload_n 1, 1, 0, 0, 0, 0, [], 0), (5, .aaload, 1, 21, 0, 0, 0, [], 0), (6, .areturn, 1, 7, 0, 0, 4, [], 0)]
set_option maxRecDepth 100000 in
theorem dt_28_k : dt_28.all (jx_ck 28) = true := by decide +kernel
/-- java/util/ArrayList.add -/
def dt_31 : List jx_D := [(0, .aload_n 0, 1, 0, 0, 0, 0, [], 0), (1, .dup, 1, 0, 0, 0, 0, [], 0), (2, .getfield 63, 3, 11, 1, 2, 0, [], 0), (5, .iconst 1, 1, 0, 0, 0, 0, [(1, 0)], 0), (6, .iadd, 1, 0, 0, 0, 0, [], 0), (7, .putfield 63, 3, 12, 1, 2, 0, [], 0), (10, .aload_n 0, 1, 0, 0, 0, 0, [], 0), (11, .aload_n 1, 1, 0, 0, 0, 0, [], 0), (12, .aload_n 0, 1, 0, 0, 0, 0, [], 0), (13, .getfield 9, 3, 11, 1, 0, 2, [], 0), (16, .aload_n 0, 1, 0, 0, 0, 0, [], 0), (17, .getfield 48, 3, 11, 1, 1, 0, [], 0), (20, .invokevirtual 131, 3, 8, 32, 3, 1, [], 0), (23, .iconst 1, 1, 0, 0, 0, 0, [(1, 0)], 0), (24, .ireturn, 1, 7, 0, 0, 2, [], 0)]
set_option maxRecDepth 100000 in
theorem dt_31_k : dt_31.all (jx_ck 31) = true := by decide +kernel
/-- java/util/ArrayList.add -/
def dt_32 : List jx_D := [(0, .iload_n 3, 1, 0, 0, 0, 0, [], 0), (1, .aload_n 2, 1, 0, 0, 0, 0, [], 0), (2, .arraylength, 1, 17, 0, 0, 0, [], 0), (3, .if_icmp .ne 8, 3, 2, 11, 0, 0, [], 0), (6, .aload_n 0, 1, 0, 0, 0, 0, [], 0), (7, .invokevirtual 129, 3, 8, 33, 0, 1, [], 0), (10, .astore_n 2, 1, 0, 0, 0, 0, [], 0), (11, .aload_n 2, 1, 0, 0, 0, 0, [], 0), (12, .iload_n 3, 1, 0, 0, 0, 0, [], 0), (13, .aload_n 1, 1, 0, 0, 0, 0, [], 0), (14, .aastore, 1, 25, 0, 0, 0, [], 0), (15, .aload_n 0, 1, 0, 0, 0, 0, [], 0), (16, .iload_n 3, 1, 0, 0, 0, 0, [], 0), (17, .iconst 1, 1, 0, 0, 0, 0, [(1, 0)], 0), (18, .iadd, 1, 0, 0, 0, 0, [], 0), (19, .putfield 48, 3, 12, 1, 1, 0, [], 0), (22, .return_, 1, 7, 0, 0, 0, [], 0)]
set_option maxRecDepth 100000 in
theorem dt_32_k : dt_32.all (jx_ck 32) = true := by decide +kernel
/-- java/util/ArrayList.grow -/
def dt_33 : List jx_D := [(0, .aload_n 0, 1, 0, 0, 0, 0, [], 0), (1, .aload_n 0, 1, 0, 0, 0, 0, [], 0), (2, .getfield 48, 3, 11, 1, 1, 0, [], 0), (5, .iconst 1, 1, 0, 0, 0, 0, [(1, 0)], 0), (6, .iadd, 1, 0, 0, 0, 0, [], 0), (7, .invokevirtual 69, 3, 8, 34, 1, 1, [], 0), (10, .areturn, 1, 7, 0, 0, 4, [], 0)]
set_option maxRecDepth 100000 in
theorem dt_33_k : dt_33.all (jx_ck 33) = true := by decide +kernel
/-- java/util/ArrayList.grow -/
def dt_34 : List jx_D := [(0, .aload_n 0, 1, 0, 0, 0, 0, [], 0), (1, .getfield 9, 3, 11, 1, 0, 2, [], 0), (4, .arraylength, 1, 17, 0, 0, 0, [], 0), (5, .istore_n 2, 1, 0, 0, 0, 0, [], 0), (6, .iload_n 2, 1, 0, 0, 0, 0, [], 0), (7, .ifCond .gt 13, 3, 1, 20, 0, 0, [], 0), (10, .aload_n 0, 1, 0, 0, 0, 0, [], 0), (11, .getfield 9, 3, 11, 1, 0, 2, [], 0), (14, .getstatic 39, 3, 13, 1, 0, 0, [], 0), (17, .if_acmp .eq 28, 3, 4, 45, 0, 0, [], 0), (20, .iload_n 2, 1, 0, 0, 0, 0, [], 0), (21, .iload_n 1, 1, 0, 0, 0, 0, [], 0), (22, .iload_n 2, 1, 0, 0, 0, 0, [], 0), (23, .isub, 1, 0, 0, 0, 0, [], 0), (24, .iload_n 2, 1, 0, 0, 0, 0, [], 0), (25, .iconst 1, 1, 0, 0, 0, 0, [(1, 0)], 0), (26, .ishr, 1, 0, 0, 0, 0, [], 0), (27, .invokestatic 73, 3, 10, 35, 3, 0, [], 0), (30, .istore_n 3, 1, 0, 0, 0, 0, [], 0), (31, .aload_n 0, 1, 0, 0, 0, 0, [], 0), (32, .aload_n 0, 1, 0, 0, 0, 0, [], 0), (33, .getfield 9, 3, 11, 1, 0, 2, [], 0), (36, .iload_n 3, 1, 0, 0, 0, 0, [], 0), (37, .invokestatic 66, 3, 10, 37, 2, 0, [], 0), (40, .dup_x1, 1, 0, 0, 0, 0, [], 0), (41, .putfield 9, 3, 12, 1, 0, 2, [], 0), (44, .areturn, 1, 7, 0, 0, 4, [], 0), (45, .aload_n 0, 1, 0, 0, 0, 0, [], 0), (46, .bipush 10, 2, 0, 0, 0, 0, [(10, 0)], 0), (48, .iload_n 1, 1, 0, 0, 0, 0, [], 0), (49, .invokestatic 79, 3, 30, 1, 0, 0, [], 0), (52, .anewarray 7, 3, 16, 4, 0, 0, [], 0), (55, .dup_x1, 1, 0, 0, 0, 0, [], 0), (56, .putfield 9, 3, 12, 1, 0, 2, [], 0), (59, .areturn, 1, 7, 0, 0, 4, [], 0)]
set_option maxRecDepth 100000 in
theorem dt_34_k : dt_34.all (jx_ck 34) = true := by decide +kernel
/-- jdk/internal/util/ArraysSupport.newLength -/
def dt_35 : List jx_D := [(0, .iload_n 0, 1, 0, 0, 0, 0, [], 0), (1, .iload_n 1, 1, 0, 0, 0, 0, [], 0), (2, .iload_n 2, 1, 0, 0, 0, 0, [], 0), (3, .invokestatic 194, 3, 30, 1, 0, 0, [], 0), (6, .iadd, 1, 0, 0, 0, 0, [], 0), (7, .istore_n 3, 1, 0, 0, 0, 0, [], 0), (8, .iconst 0, 1, 0, 0, 0, 0, [(0, 0)], 0), (9, .iload_n 3, 1, 0, 0, 0, 0, [], 0), (10, .if_icmp .ge 11, 3, 2, 21, 0, 0, [], 0), (13, .iload_n 3, 1, 0, 0, 0, 0, [], 0), (14, .ldc 200, 2, 27, 0, 0, 0, [(2147483639, 0)], 0), (16, .if_icmp .gt 5, 3, 2, 21, 0, 0, [], 0), (19, .iload_n 3, 1, 0, 0, 0, 0, [], 0), (20, .ireturn, 1, 7, 0, 0, 1, [], 0), (21, .iload_n 0, 1, 0, 0, 0, 0, [], 0), (22, .iload_n 1, 1, 0, 0, 0, 0, [], 0), (23, .invokestatic 201, 3, 10, 36, 2, 0, [], 0), (26, .ireturn, 1, 7, 0, 0, 1, [], 0)]
set_option maxRecDepth 100000 in
theorem dt_35_k : dt_35.all (jx_ck 35) = true := by decide +kernel
/-- jdk/internal/util/ArraysSupport.hugeLength -/
def dt_36 : List jx_D := [(0, .iload_n 0, 1, 0, 0, 0, 0, [], 0), (1, .iload_n 1, 1, 0, 0, 0, 0, [], 0), (2, .iadd, 1, 0, 0, 0, 0, [], 0), (3, .istore_n 2, 1, 0, 0, 0, 0, [], 0), (4, .iload_n 2, 1, 0, 0, 0, 0, [], 0), (5, .ifCond .ge 44, 3, 1, 49, 0, 0, [], 0), (11, .dup, 1, 0, 0, 0, 0, [], 0), (15, .dup, 1, 0, 0, 0, 0, [], 0), (24, .iload_n 0, 1, 0, 0, 0, 0, [], 0), (33, .iload_n 1, 1, 0, 0, 0, 0, [], 0), (49, .iload_n 2, 1, 0, 0, 0, 0, [], 0), (50, .ldc 200, 2, 27, 0, 0, 0, [(2147483639, 0)], 0), (52, .if_icmp .gt 6, 3, 2, 58, 0, 0, [], 0), (55, .ldc 200, 2, 27, 0, 0, 0, [(2147483639, 0)], 0), (57, .ireturn, 1, 7, 0, 0, 1, [], 0), (58, .iload_n 2, 1, 0, 0, 0, 0, [], 0), (59, .ireturn, 1, 7, 0, 0, 1, [], 0)]
set_option maxRecDepth 100000 in
theorem dt_36_k : dt_36.all (jx_ck 36) = true := by decide +kernel
/-- java/util/Arrays.copyOf -/
def dt_37 : List jx_D := [(0, .aload_n 0, 1, 0, 0, 0, 0, [], 0), (1, .iload_n 1, 1, 0, 0, 0, 0, [], 0), (2, .aload_n 0, 1, 0, 0, 0, 0, [], 0), (3, .invokevirtual 86, 3, 31, 8, 0, 0, [], 0), (6, .invokestatic 300, 3, 10, 38, 3, 0, [], 0), (9, .areturn, 1, 7, 0, 0, 4, [], 0)]
set_option maxRecDepth 100000 in
theorem dt_37_k : dt_37.all (jx_ck 37) = true := by decide +kernel
/-- java/util/Arrays.copyOf -/
def dt_38 : List jx_D := [(0, .aload_n 2, 1, 0, 0, 0, 0, [], 0), (1, .ldc 110, 2, 32, 0, 0, 0, [], 0), (3, .if_acmp .ne 10, 3, 4, 13, 0, 0, [], 0), (6, .iload_n 1, 1, 0, 0, 0, 0, [], 0), (7, .anewarray 2, 3, 16, 4, 0, 0, [], 0), (10, .goto 14, 3, 5, 24, 0, 0, [], 0), (13, .aload_n 2, 1, 0, 0, 0, 0, [], 0), (17, .iload_n 1, 1, 0, 0, 0, 0, [], 0), (21, .checkcast 110, 3, 26, 110, 0, 18, [], 0), (24, .astore_n 3, 1, 0, 0, 0, 0, [], 0), (25, .aload_n 0, 1, 0, 0, 0, 0, [], 0), (26, .iconst 0, 1, 0, 0, 0, 0, [(0, 0)], 0), (27, .aload_n 3, 1, 0, 0, 0, 0, [], 0), (28, .iconst 0, 1, 0, 0, 0, 0, [(0, 0)], 0), (29, .aload_n 0, 1, 0, 0, 0, 0, [], 0), (30, .arraylength, 1, 17, 0, 0, 0, [], 0), (31, .iload_n 1, 1, 0, 0, 0, 0, [], 0), (32, .invokestatic 304, 3, 30, 2, 0, 0, [], 0), (35, .invokestatic 150, 3, 30, 5, 0, 0, [], 0), (38, .aload_n 3, 1, 0, 0, 0, 0, [], 0), (39, .areturn, 1, 7, 0, 0, 4, [], 0)]
set_option maxRecDepth 100000 in
theorem dt_38_k : dt_38.all (jx_ck 38) = true := by decide +kernel
/-- java/util/ArrayList.remove -/
def dt_115 : List jx_D := [(0, .iload_n 1, 1, 0, 0, 0, 0, [], 0), (1, .aload_n 0, 1, 0, 0, 0, 0, [], 0), (2, .getfield 48, 3, 11, 1, 1, 0, [], 0), (5, .invokestatic 118, 3, 10, 26, 2, 0, [], 0), (8, .pop, 1, 0, 0, 0, 0, [], 0), (9, .aload_n 0, 1, 0, 0, 0, 0, [], 0), (10, .getfield 9, 3, 11, 1, 0, 2, [], 0), (13, .astore_n 2, 1, 0, 0, 0, 0, [], 0), (14, .aload_n 2, 1, 0, 0, 0, 0, [], 0), (15, .iload_n 1, 1, 0, 0, 0, 0, [], 0), (16, .aaload, 1, 21, 0, 0, 0, [], 0), (17, .astore_n 3, 1, 0, 0, 0, 0, [], 0), (18, .aload_n 0, 1, 0, 0, 0, 0, [], 0), (19, .aload_n 2, 1, 0, 0, 0, 0, [], 0), (20, .iload_n 1, 1, 0, 0, 0, 0, [], 0), (21, .invokevirtual 144, 3, 8, 116, 2, 1, [], 0), (24, .aload_n 3, 1, 0, 0, 0, 0, [], 0), (25, .areturn, 1, 7, 0, 0, 4, [], 0)]
set_option maxRecDepth 100000 in
theorem dt_115_k : dt_115.all (jx_ck 115) = true := by decide +kernel
/-- java/util/ArrayList.fastRemove -/
def dt_116 : List jx_D := [(0, .aload_n 0, 1, 0, 0, 0, 0, [], 0), (1, .dup, 1, 0, 0, 0, 0, [], 0), (2, .getfield 63, 3, 11, 1, 2, 0, [], 0), (5, .iconst 1, 1, 0, 0, 0, 0, [(1, 0)], 0), (6, .iadd, 1, 0, 0, 0, 0, [], 0), (7, .putfield 63, 3, 12, 1, 2, 0, [], 0), (10, .aload_n 0, 1, 0, 0, 0, 0, [], 0), (11, .getfield 48, 3, 11, 1, 1, 0, [], 0), (14, .iconst 1, 1, 0, 0, 0, 0, [(1, 0)], 0), (15, .isub, 1, 0, 0, 0, 0, [], 0), (16, .dup, 1, 0, 0, 0, 0, [], 0), (17, .istore_n 3, 1, 0, 0, 0, 0, [], 0), (18, .iload_n 2, 1, 0, 0, 0, 0, [], 0), (19, .if_icmp .le 15, 3, 2, 34, 0, 0, [], 0), (22, .aload_n 1, 1, 0, 0, 0, 0, [], 0), (23, .iload_n 2, 1, 0, 0, 0, 0, [], 0), (24, .iconst 1, 1, 0, 0, 0, 0, [(1, 0)], 0), (25, .iadd, 1, 0, 0, 0, 0, [], 0), (26, .aload_n 1, 1, 0, 0, 0, 0, [], 0), (27, .iload_n 2, 1, 0, 0, 0, 0, [], 0), (28, .iload_n 3, 1, 0, 0, 0, 0, [], 0), (29, .iload_n 2, 1, 0, 0, 0, 0, [], 0), (30, .isub, 1, 0, 0, 0, 0, [], 0), (31, .invokestatic 112, 3, 30, 5, 0, 0, [], 0), (34, .aload_n 1, 1, 0, 0, 0, 0, [], 0), (35, .aload_n 0, 1, 0, 0, 0, 0, [], 0), (36, .iload_n 3, 1, 0, 0, 0, 0, [], 0), (37, .dup_x1, 1, 0, 0, 0, 0, [], 0), (38, .putfield 48, 3, 12, 1, 1, 0, [], 0), (41, .aconst_null, 1, 0, 0, 0, 0, [], 0), (42, .aastore, 1, 25, 0, 0, 0, [], 0), (43, .return_, 1, 7, 0, 0, 0, [], 0)]
set_option maxRecDepth 100000 in
theorem dt_116_k : dt_116.all (jx_ck 116) = true := by decide +kernel
/-- java/util/Arrays.copyOfRange -/
def dt_120 : List jx_D := [(0, .iload_n 1, 1, 0, 0, 0, 0, [], 0), (1, .ifCond .ne 9, 3, 1, 10, 0, 0, [], 0), (4, .iload_n 2, 1, 0, 0, 0, 0, [], 0), (5, .aload_n 0, 1, 0, 0, 0, 0, [], 0), (6, .arraylength, 1, 17, 0, 0, 0, [], 0), (7, .if_icmp .eq 10, 3, 2, 17, 0, 0, [], 0), (10, .aload_n 0, 1, 0, 0, 0, 0, [], 0), (11, .iload_n 1, 1, 0, 0, 0, 0, [], 0), (12, .iload_n 2, 1, 0, 0, 0, 0, [], 0), (13, .invokestatic 339, 3, 10, 121, 3, 0, [], 0), (16, .areturn, 1, 7, 0, 0, 4, [], 0), (17, .aload_n 0, 1, 0, 0, 0, 0, [], 0), (18, .invokevirtual 310, 3, 31, 7, 0, 0, [], 0), (21, .checkcast 311, 3, 26, 311, 0, 18, [], 0), (24, .areturn, 1, 7, 0, 0, 4, [], 0)]
set_option maxRecDepth 100000 in
theorem dt_120_k : dt_120.all (jx_ck 120) = true := by decide +kernel
/-- java/util/Arrays.copyOfRangeByte -/
def dt_121 : List jx_D := [(0, .iload_n 1, 1, 0, 0, 0, 0, [], 0), (1, .iload_n 2, 1, 0, 0, 0, 0, [], 0), (2, .invokestatic 343, 3, 10, 122, 2, 0, [], 0), (5, .iload_n 2, 1, 0, 0, 0, 0, [], 0), (6, .iload_n 1, 1, 0, 0, 0, 0, [], 0), (7, .isub, 1, 0, 0, 0, 0, [], 0), (8, .istore_n 3, 1, 0, 0, 0, 0, [], 0), (9, .iload_n 3, 1, 0, 0, 0, 0, [], 0), (10, .newarray .byte, 2, 15, 0, 0, 0, [], 0), (12, .astore 4, 2, 0, 0, 0, 0, [], 0), (14, .aload_n 0, 1, 0, 0, 0, 0, [], 0), (15, .iload_n 1, 1, 0, 0, 0, 0, [], 0), (16, .aload 4, 2, 0, 0, 0, 0, [], 0), (18, .iconst 0, 1, 0, 0, 0, 0, [(0, 0)], 0), (19, .aload_n 0, 1, 0, 0, 0, 0, [], 0), (20, .arraylength, 1, 17, 0, 0, 0, [], 0), (21, .iload_n 1, 1, 0, 0, 0, 0, [], 0), (22, .isub, 1, 0, 0, 0, 0, [], 0), (23, .iload_n 3, 1, 0, 0, 0, 0, [], 0), (24, .invokestatic 304, 3, 30, 2, 0, 0, [], 0), (27, .invokestatic 150, 3, 30, 5, 0, 0, [], 0), (30, .aload 4, 2, 0, 0, 0, 0, [], 0), (32, .areturn, 1, 7, 0, 0, 4, [], 0)]
set_option maxRecDepth 100000 in
theorem dt_121_k : dt_121.all (jx_ck 121) = true := by decide +kernel
/-- java/util/Arrays.checkLength -/
def dt_122 : List jx_D := [(0, .iload_n 1, 1, 0, 0, 0, 0, [], 0), (1, .iload_n 0, 1, 0, 0, 0, 0, [], 0), (2, .if_icmp .ge 35, 3, 2, 37, 0, 0, [], 0), (8, .dup, 1, 0, 0, 0, 0, [], 0), (12, .dup, 1, 0, 0, 0, 0, [], 0), (16, .iload_n 0, 1, 0, 0, 0, 0, [], 0), (26, .iload_n 1, 1, 0, 0, 0, 0, [], 0), (37, .return_, 1, 7, 0, 0, 0, [], 0)]
set_option maxRecDepth 100000 in
theorem dt_122_k : dt_122.all (jx_ck 122) = true := by decide +kernel
/-- java/lang/Math.min -/
def dt_138 : List jx_D := [(0, .lload_n 0, 1, 0, 0, 0, 0, [], 0), (1, .lload_n 2, 1, 0, 0, 0, 0, [], 0), (2, .lcmp, 1, 0, 0, 0, 0, [], 0), (3, .ifCond .gt 7, 3, 1, 10, 0, 0, [], 0), (6, .lload_n 0, 1, 0, 0, 0, 0, [], 0), (7, .goto 4, 3, 5, 11, 0, 0, [], 0), (10, .lload_n 2, 1, 0, 0, 0, 0, [], 0), (11, .lreturn, 1, 7, 0, 0, 3, [], 0)]
set_option maxRecDepth 100000 in
theorem dt_138_k : dt_138.all (jx_ck 138) = true := by decide +kernel
/-- java/lang/Math.max -/
def dt_140 : List jx_D := [(0, .lload_n 0, 1, 0, 0, 0, 0, [], 0), (1, .lload_n 2, 1, 0, 0, 0, 0, [], 0), (2, .lcmp, 1, 0, 0, 0, 0, [], 0), (3, .ifCond .lt 7, 3, 1, 10, 0, 0, [], 0), (6, .lload_n 0, 1, 0, 0, 0, 0, [], 0), (7, .goto 4, 3, 5, 11, 0, 0, [], 0), (10, .lload_n 2, 1, 0, 0, 0, 0, [], 0), (11, .lreturn, 1, 7, 0, 0, 3, [], 0)]
set_option maxRecDepth 100000 in
theorem dt_140_k : dt_140.all (jx_ck 140) = true := by decide +kernel
