/-! THE PURE PART: a rule for each instruction of the heap, and for calls -/
section JxSteps
variable {th : Nat → Nat} {d i o pc idx a ci k j n kd : Nat} {l : jx_L} {st as rest : List Value} {σ σ' : jx_S} {Q : Option Value → jx_S → Prop} {v : Value} {x y ix : Int32}
theorem jx_getF_of {fs : List Value} (h : σ.1 a = some (.inr (ci, fs))) (hk : fs[k]? = some v) : jx_getF σ a ci k = some v := by
  unfold jx_getF
  rw [h]
  simp only [if_true, hk]
theorem jx_putF_of {fs : List Value} (h : σ.1 a = some (.inr (ci, fs))) (hk : k < fs.length) (hf : jx_fit (tb_tt ci k) v = true) : jx_putF σ a ci k v = some (jx_up σ a (.inr (ci, fs.set k v))) := by
  unfold jx_putF
  rw [h]
  simp only [hk, hf, and_self, if_true]
theorem jw_getf (hd : decode (tb_code i) pc = .ok (.getfield idx, 3)) (ho : tb_ow i = o) (hf : tb_fld o idx = some (ci, k)) (hv : jx_getF σ a ci k = some v) (kk : jw th d i (pc + 3) l (v :: st) σ Q) : jw th d i pc l (.ref a :: st) σ Q :=
  jw_hp hd (by subst ho; simp only [jx_hp, if_true, hf, Option.bind_some, hv, Option.map_some]) kk
theorem jw_putf (hd : decode (tb_code i) pc = .ok (.putfield idx, 3)) (ho : tb_ow i = o) (hf : tb_fld o idx = some (ci, k)) (hw : jx_wr i ci k = true) (hv : jx_putF σ a ci k v = some σ') (kk : jw th d i (pc + 3) l st σ' Q) : jw th d i pc l (v :: .ref a :: st) σ Q :=
  jw_hp hd (by subst ho; simp only [jx_hp, if_true, hf, Option.bind_some, hw, hv, Option.map_some]) kk
theorem jw_gets (hd : decode (tb_code i) pc = .ok (.getstatic idx, 3)) (ho : tb_ow i = o) {z : Nat} (hf : tb_sta o idx = some z) (kk : jw th d i (pc + 3) l (.ref (th z) :: st) σ Q) : jw th d i pc l st σ Q :=
  jw_hp hd (by subst ho; simp only [jx_hp, if_true, hf, Option.map_some]) kk
theorem jw_new (hd : decode (tb_code i) pc = .ok (.new idx, 3)) (ho : tb_ow i = o) (hf : tb_new o idx = some ci) {N : Nat} (hq : (tb_cl[ci]?).map (fun q => q.2.2) = some N) (kk : jw th d i (pc + 3) l (.ref σ.2.1 :: st) (jx_mk σ (.inr (ci, tb_df ci)) N) Q) : jw th d i pc l st σ Q := by
  obtain ⟨q, hq2, rfl⟩ := Option.map_eq_some_iff.mp hq
  exact jw_hp hd (by subst ho; simp only [jx_hp, if_true, hf, Option.bind_some, jx_newo, hq2, Option.map_some]) kk
theorem jw_newa {y : ArrayType} (hd : decode (tb_code i) pc = .ok (.newarray y, 2)) {t : Nat} (hy : jx_at y = some t) (hx : ¬ (x < 0 ∨ 67108864 < x.toNatClampNeg)) (kk : jw th d i (pc + 2) l (.ref σ.2.1 :: st) (jx_mk σ (.inl (t, x.toNatClampNeg, jx_emp t)) x.toNatClampNeg) Q) : jw th d i pc l (.int x :: st) σ Q :=
  jw_hp hd (by simp only [jx_hp, if_true, hy, Option.bind_some, jx_newa, if_neg hx, Option.map_some]) kk
theorem jw_anew (hd : decode (tb_code i) pc = .ok (.anewarray idx, 3)) (ho : tb_ow i = o) {t : Nat} (hf : tb_anw o idx = some t) (hx : ¬ (x < 0 ∨ 67108864 < x.toNatClampNeg)) (kk : jw th d i (pc + 3) l (.ref σ.2.1 :: st) (jx_mk σ (.inl (t, x.toNatClampNeg, jx_emp t)) x.toNatClampNeg) Q) : jw th d i pc l (.int x :: st) σ Q :=
  jw_hp hd (by subst ho; simp only [jx_hp, if_true, hf, Option.bind_some, jx_newa, if_neg hx, Option.map_some]) kk
theorem jw_alen (hd : decode (tb_code i) pc = .ok (.arraylength, 1)) {N : Int32} (hv : jx_al σ a = some N) (kk : jw th d i (pc + 1) l (.int N :: st) σ Q) : jw th d i pc l (.ref a :: st) σ Q :=
  jw_hp hd (by simp only [jx_hp, if_true, hv, Option.map_some]) kk
theorem jw_iald (hd : decode (tb_code i) pc = .ok (.iaload, 1)) (hv : jx_ild σ [1, 101] a ix = some v) (kk : jw th d i (pc + 1) l (v :: st) σ Q) : jw th d i pc l (.int ix :: .ref a :: st) σ Q :=
  jw_hp hd (by simp only [jx_hp, if_true, hv, Option.map_some]) kk
theorem jw_bald (hd : decode (tb_code i) pc = .ok (.baload, 1)) (hv : jx_ild σ [0, 3, 100] a ix = some v) (kk : jw th d i (pc + 1) l (v :: st) σ Q) : jw th d i pc l (.int ix :: .ref a :: st) σ Q :=
  jw_hp hd (by simp only [jx_hp, if_true, hv, Option.map_some]) kk
theorem jw_lald (hd : decode (tb_code i) pc = .ok (.laload, 1)) (hv : jx_lld1 σ a ix = some v) (kk : jw th d i (pc + 1) l (v :: st) σ Q) : jw th d i pc l (.int ix :: .ref a :: st) σ Q :=
  jw_hp hd (by simp only [jx_hp, if_true, hv, Option.map_some]) kk
theorem jw_aald (hd : decode (tb_code i) pc = .ok (.aaload, 1)) (hv : jx_ald σ a ix = some v) (kk : jw th d i (pc + 1) l (v :: st) σ Q) : jw th d i pc l (.int ix :: .ref a :: st) σ Q :=
  jw_hp hd (by simp only [jx_hp, if_true, hv, Option.map_some]) kk
theorem jw_iast (hd : decode (tb_code i) pc = .ok (.iastore, 1)) (hv : jx_ist σ a ix x = some σ') (kk : jw th d i (pc + 1) l st σ' Q) : jw th d i pc l (.int x :: .int ix :: .ref a :: st) σ Q :=
  jw_hp hd (by simp only [jx_hp, if_true, hv, Option.map_some]) kk
theorem jw_bast (hd : decode (tb_code i) pc = .ok (.bastore, 1)) (hv : jx_bst σ a ix x = some σ') (kk : jw th d i (pc + 1) l st σ' Q) : jw th d i pc l (.int x :: .int ix :: .ref a :: st) σ Q :=
  jw_hp hd (by simp only [jx_hp, if_true, hv, Option.map_some]) kk
theorem jw_last (hd : decode (tb_code i) pc = .ok (.lastore, 1)) {w : Int64} (hv : jx_lst σ a ix w = some σ') (kk : jw th d i (pc + 1) l st σ' Q) : jw th d i pc l (.long w :: .int ix :: .ref a :: st) σ Q :=
  jw_hp hd (by simp only [jx_hp, if_true, hv, Option.map_some]) kk
theorem jw_aast (hd : decode (tb_code i) pc = .ok (.aastore, 1)) (hv : jx_ast σ a ix v = some σ') (kk : jw th d i (pc + 1) l st σ' Q) : jw th d i pc l (v :: .int ix :: .ref a :: st) σ Q :=
  jw_hp hd (by simp only [jx_hp, if_true, hv, Option.map_some]) kk
theorem jw_cast (hd : decode (tb_code i) pc = .ok (.checkcast idx, 3)) (ho : tb_ow i = o) (hv : jx_cast σ o idx v = true) (kk : jw th d i (pc + 3) l (v :: st) σ Q) : jw th d i pc l (v :: st) σ Q :=
  jw_hp hd (by subst ho; simp only [jx_hp, hv, and_self, if_true]) kk
theorem jw_ldc (hd : decode (tb_code i) pc = .ok (.ldc idx, 2)) (ho : tb_ow i = o) (hf : tb_ldc o idx = some x) (kk : jw th d i (pc + 2) l (.int x :: st) σ Q) : jw th d i pc l st σ Q :=
  jw_hp hd (by subst ho; simp only [jx_hp, if_true, hf]) kk
theorem jw_ldcw (hd : decode (tb_code i) pc = .ok (.ldc_w idx, 3)) (ho : tb_ow i = o) (hf : tb_ldc o idx = some x) (kk : jw th d i (pc + 3) l (.int x :: st) σ Q) : jw th d i pc l st σ Q :=
  jw_hp hd (by subst ho; simp only [jx_hp, if_true, hf, Option.map_some]) kk
theorem jw_ldc2 (hd : decode (tb_code i) pc = .ok (.ldc2_w idx, 3)) (ho : tb_ow i = o) {w : Int64} (hf : tb_ldc2 o idx = some w) (kk : jw th d i (pc + 3) l (.long w :: st) σ Q) : jw th d i pc l st σ Q :=
  jw_hp hd (by subst ho; simp only [jx_hp, if_true, hf, Option.map_some]) kk
theorem jw_oinit (hd : decode (tb_code i) pc = .ok (.invokespecial idx, 3)) (ho : tb_ow i = o) (hf : tb_nat o idx = some 0) (hs : jx_sm st ≤ 8) (kk : jw th d i (pc + 3) l st σ Q) : jw th d i pc l (.ref a :: st) σ Q :=
  jw_hp hd (by subst ho; simp only [jx_hp, hf, hs, and_self, if_true]) kk
theorem jw_nats {b : Nat} {st' : List Value} (hd : decode (tb_code i) pc = .ok (.invokestatic idx, 3)) (ho : tb_ow i = o) (hf : tb_nat o idx = some b) (hv : jx_bs b st σ = some (st', σ')) (kk : jw th d i (pc + 3) l st' σ' Q) : jw th d i pc l st σ Q :=
  jw_hp hd (by subst ho; simp only [jx_hp, if_true, hf, Option.bind_some, hv]) kk
theorem jw_natv {b : Nat} {st' : List Value} (hd : decode (tb_code i) pc = .ok (.invokevirtual idx, 3)) (ho : tb_ow i = o) (hf : tb_nat o idx = some b) (hv : jx_bv th b st σ = some (st', σ')) (kk : jw th d i (pc + 3) l st' σ' Q) : jw th d i pc l st σ Q :=
  jw_hp hd (by subst ho; simp only [jx_hp, if_true, hf, Option.bind_some, hv]) kk
theorem jx_isC_of {fs : List Value} (h : σ.1 a = some (.inr (ci, fs))) : jx_isC σ a ci = true := by
  unfold jx_isC
  rw [h]
  simp
/-- a call on an object: As are the arguments behind it, the last first -/
theorem jw_callv {As : List Value} (hd : decode (tb_code i) pc = .ok (.invokevirtual idx, 3)) (ho : tb_ow i = o) (hno : tb_nat o idx = none) (hf : tb_inv o idx = some (kd, j, As.length, ci)) (hk : kd = 0 ∨ kd = 4) (hs : jx_sm rest ≤ 8) (hc : jx_isC σ a ci = true) (kk : jc th d j (.ref a :: As.reverse) σ (fun r σ' => jw th d i (pc + 3) l (r.toList ++ rest) σ' Q)) : jw th d i pc l (As ++ .ref a :: rest) σ Q := by
  refine jw_cl hd (by subst ho; simp only [jx_hp, if_true, hno, Option.bind_none]) (j := j) (as := .ref a :: As.reverse) (rest := rest) ?_ kk
  subst ho
  unfold jx_cl
  simp only [if_true, hf, Option.bind_some, List.take_left, List.drop_left, List.length_append]
  rcases hk with rfl | rfl
  · simp [hs, hc]
  · simp [hs, hc]
theorem jw_callf {As : List Value} {cnt : Nat} (hd : decode (tb_code i) pc = .ok (.invokeinterface idx cnt, 5)) (ho : tb_ow i = o) (hf : tb_inv o idx = some (3, j, As.length, ci)) (hs : jx_sm rest ≤ 8) (hc : jx_isC σ a ci = true) (kk : jc th d j (.ref a :: As.reverse) σ (fun r σ' => jw th d i (pc + 5) l (r.toList ++ rest) σ' Q)) : jw th d i pc l (As ++ .ref a :: rest) σ Q := by
  refine jw_cl hd (by simp only [jx_hp]) (j := j) (as := .ref a :: As.reverse) (rest := rest) ?_ kk
  subst ho
  unfold jx_cl
  simp only [if_true, hf, Option.bind_some, List.take_left, List.drop_left, List.length_append]
  simp [hs, hc]
theorem jw_calli {As : List Value} (hd : decode (tb_code i) pc = .ok (.invokespecial idx, 3)) (ho : tb_ow i = o) (hno : tb_nat o idx = none) (hf : tb_inv o idx = some (kd, j, As.length, ci)) (hk : kd = 1 ∨ kd = 5) (hr : tb_ret j = none) (hs : jx_sm rest ≤ 8) (kk : jc th d j (.ref a :: As.reverse) σ (fun r σ' => jw th d i (pc + 3) l (r.toList ++ rest) σ' Q)) : jw th d i pc l (As ++ .ref a :: rest) σ Q := by
  refine jw_cl hd ?_ (j := j) (as := .ref a :: As.reverse) (rest := rest) ?_ kk
  · subst ho
    simp only [jx_hp]
    split
    · simp [hno]
    · rfl
  · subst ho
    unfold jx_cl
    simp only [if_true, hf, Option.bind_some, List.take_left, List.drop_left, List.length_append]
    rcases hk with rfl | rfl
    · simp [hs, hr]
    · simp [hs, hr]
theorem jw_calls {As : List Value} (hd : decode (tb_code i) pc = .ok (.invokestatic idx, 3)) (ho : tb_ow i = o) (hno : tb_nat o idx = none) (hf : tb_inv o idx = some (2, j, As.length, ci)) (hs : jx_sm rest ≤ 8) (kk : jc th d j As.reverse σ (fun r σ' => jw th d i (pc + 3) l (r.toList ++ rest) σ' Q)) : jw th d i pc l (As ++ rest) σ Q := by
  refine jw_cl hd (by subst ho; simp only [jx_hp, if_true, hno, Option.bind_none]) (j := j) (as := As.reverse) (rest := rest) ?_ kk
  subst ho
  unfold jx_cl
  simp only [if_true, hf, Option.bind_some, List.take_left, List.drop_left, List.length_append]
  simp [hs]
theorem jw_iret (hd : decode (tb_code i) pc = .ok (.ireturn, 1)) (hr : tb_ret i = some .int) (q : Q (some (.int x)) σ) : jw th d i pc l [.int x] σ Q :=
  jw_ret hd (by rw [hr]; simp [jx_ret, narrow]) q
theorem jw_zret (hd : decode (tb_code i) pc = .ok (.ireturn, 1)) (hr : tb_ret i = some .boolean) (hx : x = 0 ∨ x = 1) (q : Q (some (.int x)) σ) : jw th d i pc l [.int x] σ Q :=
  jw_ret hd (by rw [hr]; rcases hx with rfl | rfl <;> rfl) q
theorem jw_lret {w : Int64} (hd : decode (tb_code i) pc = .ok (.lreturn, 1)) (hr : tb_ret i = some .long) (q : Q (some (.long w)) σ) : jw th d i pc l [.long w] σ Q :=
  jw_ret hd (by rw [hr]; simp [jx_ret]) q
theorem jw_oret {C : String} (hd : decode (tb_code i) pc = .ok (.areturn, 1)) (hr : tb_ret i = some (.object C)) (hv : jx_isR v = true) (q : Q (some v) σ) : jw th d i pc l [v] σ Q :=
  jw_ret hd (by rw [hr]; simp [jx_ret, hv]) q
theorem jw_aret {t : FieldType} (hd : decode (tb_code i) pc = .ok (.areturn, 1)) (hr : tb_ret i = some (.array t)) (hv : jx_isR v = true) (q : Q (some v) σ) : jw th d i pc l [v] σ Q :=
  jw_ret hd (by rw [hr]; simp [jx_ret, hv]) q
theorem jw_vret (hd : decode (tb_code i) pc = .ok (.return_, 1)) (hr : tb_ret i = none) (q : Q none σ) : jw th d i pc l [] σ Q :=
  jw_ret hd (by rw [hr]; simp [jx_ret]) q
/-- what the entries are behind a change, and behind a making -/
theorem jx_up_eq {e : jx_E} : (jx_up σ a e).1 a = some e := by simp [jx_up, va_up]
theorem jx_up_ne {b : Nat} {e : jx_E} (h : b ≠ a) : (jx_up σ a e).1 b = σ.1 b := by simp [jx_up, va_up, h]
theorem jx_mk_eq {e : jx_E} {N : Nat} : (jx_mk σ e N).1 σ.2.1 = some e := by simp [jx_mk, va_up]
theorem jx_mk_ne {b : Nat} {e : jx_E} {N : Nat} (h : b ≠ σ.2.1) : (jx_mk σ e N).1 b = σ.1 b := by simp [jx_mk, va_up, h]
end JxSteps
