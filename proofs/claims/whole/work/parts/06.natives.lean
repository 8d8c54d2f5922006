/-! written by gen_names.py: calls that the machine does itself -/
def tb_nn : List MethodName := [⟨"java/lang/Object", "<init>", "()V"⟩, ⟨"java/lang/Math", "max", "(II)I"⟩, ⟨"java/lang/Math", "min", "(II)I"⟩, ⟨"java/lang/Math", "max", "(JJ)J"⟩, ⟨"java/lang/Math", "min", "(JJ)J"⟩, ⟨"java/lang/System", "arraycopy", "(Ljava/lang/Object;ILjava/lang/Object;II)V"⟩, ⟨"[I", "clone", "()Ljava/lang/Object;"⟩, ⟨"[B", "clone", "()Ljava/lang/Object;"⟩, ⟨"java/lang/Object", "getClass", "()Ljava/lang/Class;"⟩]
def tb_natL0 : List (Nat × Nat × Nat × Nat) := [(0, 3, 0, 159), (16, 1, 0, 177), (2, 3, 0, 198), (3, 3, 0, 215), (4, 3, 0, 246), (5, 3, 0, 263), (4, 37, 1, 311), (4, 31, 2, 321), (18, 316, 6, 327), (18, 304, 2, 334), (18, 150, 5, 335), (0, 174, 1, 403), (0, 180, 2, 404), (18, 310, 7, 408), (6, 3, 0, 458), (20, 194, 1, 557), (18, 86, 8, 565), (1, 79, 1, 588), (3, 15, 2, 756), (1, 112, 5, 941), (7, 3, 0, 951), (8, 3, 0, 1091), (8, 70, 4, 1139), (2, 123, 3, 1149), (8, 64, 3, 1170), (9, 1, 0, 1194), (2, 150, 2, 1254), (10, 1, 0, 1304), (11, 3, 0, 1354), (12, 1, 0, 1396)]
def tb_natL : List (Nat × Nat × Nat × Nat) := tb_natL0
def jx_natF (q : Nat × Nat × Nat × Nat) : Bool := match tb_nn[q.2.2.1]? with
  | some y => lw_tbl[q.2.2.2]? == some (Cond.methodLink (tb_Rn q.1) q.2.1 y)
  | none => false
set_option maxRecDepth 100000 in
theorem jx_natFs_tb_natL0 : tb_natL0.all jx_natF = true := by decide +kernel
theorem jx_natFs : ∀ q ∈ tb_natL, jx_natF q = true := by
  intro q h
  simp only [tb_natL, List.mem_append] at h
  exact List.all_eq_true.mp jx_natFs_tb_natL0 q h
def tb_nat (o idx : Nat) : Option Nat := (tb_natL.find? (fun q => q.1 == o && q.2.1 == idx)).map (fun q => q.2.2.1)
theorem jx_w_oi : Cond.instanceMethod Lib.objectInit ∈ jx_T := jx_inG (pl := 160) (by decide +kernel) (by decide +kernel)
set_option maxRecDepth 100000 in
theorem jx_w_oc : Cond.code Lib.objectInit ⟨#[0xb1]⟩ 1 none ∈ jx_T := jx_inG (pl := 161) rfl (by decide +kernel)
theorem jx_w_mi : Cond.initialized "java/lang/Math" ∈ jx_T := jx_inG (pl := 141) (by decide +kernel) (by decide +kernel)
theorem jx_w_mxs : Cond.static Lib.Math.max.name ∈ jx_T := jx_inG (pl := 312) (by decide +kernel) (by decide +kernel)
set_option maxRecDepth 100000 in
theorem jx_w_mxc : Cond.code Lib.Math.max.name Lib.Math.max.code 2 (some .int) ∈ jx_T := jx_inG (pl := 313) rfl (by decide +kernel)
theorem jx_w_mns : Cond.static Lib.Math.min.name ∈ jx_T := jx_inG (pl := 322) (by decide +kernel) (by decide +kernel)
set_option maxRecDepth 100000 in
theorem jx_w_mnc : Cond.code Lib.Math.min.name Lib.Math.min.code 2 (some .int) ∈ jx_T := jx_inG (pl := 323) rfl (by decide +kernel)
theorem jx_w_mxls : Cond.static Lib.MathLoose.max_long.x ∈ jx_T := jx_inG (pl := 1150) (by decide +kernel) (by decide +kernel)
set_option maxRecDepth 100000 in
theorem jx_w_mxlc : Cond.code Lib.MathLoose.max_long.x Lib.MathLoose.max_long.code 4 (some .long) ∈ jx_T := jx_inG (pl := 1151) rfl (by decide +kernel)
theorem jx_w_mnls : Cond.static Lib.MathLoose.min_long.x ∈ jx_T := jx_inG (pl := 1140) (by decide +kernel) (by decide +kernel)
set_option maxRecDepth 100000 in
theorem jx_w_mnlc : Cond.code Lib.MathLoose.min_long.x Lib.MathLoose.min_long.code 4 (some .long) ∈ jx_T := jx_inG (pl := 1141) rfl (by decide +kernel)
theorem jx_w_acn : Cond.native arraycopyName ∈ jx_T := jx_inG (pl := 337) (by decide +kernel) (by decide +kernel)
theorem jx_w_acs : Cond.static arraycopyName ∈ jx_T := jx_inG (pl := 336) (by decide +kernel) (by decide +kernel)
theorem jx_w_aci : Cond.initialized "java/lang/System" ∈ jx_T := jx_inG (pl := 143) (by decide +kernel) (by decide +kernel)
theorem jx_w_cn : Cond.native ⟨"java/lang/Object", "clone", "()Ljava/lang/Object;"⟩ ∈ jx_T := jx_inG (pl := 329) (by decide +kernel) (by decide +kernel)
theorem jx_w_ci : Cond.instanceMethod ⟨"java/lang/Object", "clone", "()Ljava/lang/Object;"⟩ ∈ jx_T := jx_inG (pl := 330) (by decide +kernel) (by decide +kernel)
theorem jx_w_csI : Cond.sameMethod "[I" "java/lang/Object" "clone" "()Ljava/lang/Object;" ∈ jx_T := jx_inG (pl := 328) (by decide +kernel) (by decide +kernel)
theorem jx_w_clI : Cond.selects "[I" ⟨"[I", "clone", "()Ljava/lang/Object;"⟩ ⟨"java/lang/Object", "clone", "()Ljava/lang/Object;"⟩ ∈ jx_T := jx_inG (pl := 331) (by decide +kernel) (by decide +kernel)
theorem jx_w_ccI : Cond.castable "[I" "java/lang/Cloneable" ∈ jx_N := jx_inN (pl := 332) (by decide +kernel) (by decide +kernel)
theorem jx_w_csB : Cond.sameMethod "[B" "java/lang/Object" "clone" "()Ljava/lang/Object;" ∈ jx_T := jx_inG (pl := 409) (by decide +kernel) (by decide +kernel)
theorem jx_w_clB : Cond.selects "[B" ⟨"[B", "clone", "()Ljava/lang/Object;"⟩ ⟨"java/lang/Object", "clone", "()Ljava/lang/Object;"⟩ ∈ jx_T := jx_inG (pl := 410) (by decide +kernel) (by decide +kernel)
theorem jx_w_ccB : Cond.castable "[B" "java/lang/Cloneable" ∈ jx_N := jx_inN (pl := 411) (by decide +kernel) (by decide +kernel)
theorem jx_w_gn : Cond.native ⟨"java/lang/Object", "getClass", "()Ljava/lang/Class;"⟩ ∈ jx_T := jx_inG (pl := 581) (by decide +kernel) (by decide +kernel)
theorem jx_w_gi : Cond.instanceMethod ⟨"java/lang/Object", "getClass", "()Ljava/lang/Class;"⟩ ∈ jx_T := jx_inG (pl := 566) (by decide +kernel) (by decide +kernel)
theorem jx_w_gd : Cond.declares ⟨"java/lang/Object", "getClass", "()Ljava/lang/Class;"⟩ ∈ jx_N := jx_inN (pl := 2098) (by decide +kernel) (by decide +kernel)
theorem jx_w_gs : Cond.selects "[Ljava/lang/Object;" ⟨"java/lang/Object", "getClass", "()Ljava/lang/Class;"⟩ ⟨"java/lang/Object", "getClass", "()Ljava/lang/Class;"⟩ ∈ jx_T := jx_inG (pl := 2097) (by decide +kernel) (by decide +kernel)
theorem jx_w_gl : Cond.classLink "java/util/Arrays" 110 "[Ljava/lang/Object;" ∈ jx_T := jx_inG (pl := 585) (by decide +kernel) (by decide +kernel)
