/-! A TABLE OF INSTRUCTIONS: links looked up, targets reckoned -/
/-- place, instruction, length, kind, three numbers, cases, a long -/
abbrev jx_D : Type := Nat × Instr × Nat × Nat × Nat × Nat × Nat × List (Int32 × Nat) × Int64
def jx_tg (ins : Instr) (pc : Nat) : Option Nat := match ins with
  | .goto off => jx_tgt pc off
  | .ifCond _ off => jx_tgt pc off
  | .if_icmp _ off => jx_tgt pc off
  | .ifnull off => jx_tgt pc off
  | .ifnonnull off => jx_tgt pc off
  | .if_acmp _ off => jx_tgt pc off
  | _ => none
def jx_swc (ins : Instr) (pc a : Nat) (sw : List (Int32 × Nat)) : Bool := match ins with
  | .tableswitch dflt lo hi offs => decide (jx_tgt pc dflt = some a) && decide (sw.length = offs.size) && decide (hi + 1 = lo + (sw.length : Int)) && (List.range sw.length).all (fun k => match sw[k]?, offs[k]? with
    | some q, some o => decide (q.1.toInt = lo + (k : Int)) && decide (jx_tgt pc o = some q.2)
    | _, _ => false)
  | .lookupswitch dflt ps => decide (jx_tgt pc dflt = some a) && (ps.toList.zip (ps.toList.drop 1)).all (fun (a, next) => a.1 < next.1) && decide (sw.map (fun q => (q.1.toInt, some q.2)) = ps.toList.map (fun q => (q.1, jx_tgt pc q.2)))
  | _ => false
def jx_cst (ins : Instr) : Option Int32 := match ins with
  | .iconst n => some (Int32.ofInt n)
  | .bipush n => some (Int8.ofInt n).toInt32
  | .sipush n => some (Int16.ofInt n).toInt32
  | _ => none
theorem jx_cst_pure {ins : Instr} {x : Int32} (h : jx_cst ins = some x) (nl : Nat) (l : jx_L) (st : List Value) : jx_pure nl ins l st = some (l, .int x :: st) := by
  unfold jx_cst at h
  split at h <;> first | (cases h; rfl) | cases h
def jx_rck (ins : Instr) (c : Nat) (rt : Option FieldType) : Bool := match c with
  | 0 => decide (ins = .return_) && decide (rt = none)
  | 1 => decide (ins = .ireturn) && decide (rt = some .int)
  | 2 => decide (ins = .ireturn) && decide (rt = some .boolean)
  | 3 => decide (ins = .lreturn) && decide (rt = some .long)
  | 4 => decide (ins = .areturn) && (match rt with
    | some (.object _) => true
    | some (.array _) => true
    | _ => false)
  | _ => false
/-- the table's row is right -/
def jx_ck (i : Nat) (q : jx_D) : Bool := match q with
  | (pc, ins, len, kd, a, b, c, sw, w) => decide (decode (tb_code i) pc = .ok (ins, len)) && (match kd with
    | 0 => decide (len = jx_len ins) && (match sw with
      | [(x, _)] => decide (jx_cst ins = some x)
      | _ => true)
    | 1 => decide (len = 3) && decide (jx_tg ins pc = some a) && (match ins with
      | .ifCond _ _ => true
      | _ => false)
    | 2 => decide (len = 3) && decide (jx_tg ins pc = some a) && (match ins with
      | .if_icmp _ _ => true
      | _ => false)
    | 3 => decide (len = 3) && decide (jx_tg ins pc = some a) && (match ins with
      | .ifnull _ => true
      | .ifnonnull _ => true
      | _ => false)
    | 4 => decide (len = 3) && decide (jx_tg ins pc = some a) && (match ins with
      | .if_acmp _ _ => true
      | _ => false)
    | 5 => decide (len = 3) && decide (jx_tg ins pc = some a) && (match ins with
      | .goto _ => true
      | _ => false)
    | 6 => jx_swc ins pc a sw
    | 7 => decide (len = 1) && jx_rck ins c (tb_ret i)
    | 8 => (match ins with
      | .invokevirtual idx => decide (len = 3) && decide (tb_nat (tb_ow i) idx = none) && (decide (tb_inv (tb_ow i) idx = some (0, a, b, c)) || decide (tb_inv (tb_ow i) idx = some (4, a, b, c)))
      | .invokeinterface idx _ => decide (len = 5) && decide (tb_inv (tb_ow i) idx = some (3, a, b, c))
      | _ => false)
    | 9 => (match ins with
      | .invokespecial idx => decide (len = 3) && decide (tb_nat (tb_ow i) idx = none) && decide (tb_ret a = none) && (decide (tb_inv (tb_ow i) idx = some (1, a, b, c)) || decide (tb_inv (tb_ow i) idx = some (5, a, b, c)))
      | _ => false)
    | 10 => (match ins with
      | .invokestatic idx => decide (len = 3) && decide (tb_nat (tb_ow i) idx = none) && decide (tb_inv (tb_ow i) idx = some (2, a, b, c))
      | _ => false)
    | 11 => (match ins with
      | .getfield idx => decide (len = 3) && decide (tb_fld (tb_ow i) idx = some (a, b))
      | _ => false)
    | 12 => (match ins with
      | .putfield idx => decide (len = 3) && decide (tb_fld (tb_ow i) idx = some (a, b)) && jx_wr i a b
      | _ => false)
    | 13 => (match ins with
      | .getstatic idx => decide (len = 3) && decide (tb_sta (tb_ow i) idx = some a)
      | _ => false)
    | 14 => (match ins with
      | .new idx => decide (len = 3) && decide (tb_new (tb_ow i) idx = some a) && (match tb_cl[a]? with
        | some r => decide (r.2.2 = b)
        | none => false)
      | _ => false)
    | 15 => (match ins with
      | .newarray y => decide (len = 2) && decide (jx_at y = some a)
      | _ => false)
    | 16 => (match ins with
      | .anewarray idx => decide (len = 3) && decide (tb_anw (tb_ow i) idx = some a)
      | _ => false)
    | 17 => decide (len = 1) && decide (ins = .arraylength)
    | 18 => decide (len = 1) && decide (ins = .iaload)
    | 19 => decide (len = 1) && decide (ins = .baload)
    | 20 => decide (len = 1) && decide (ins = .laload)
    | 21 => decide (len = 1) && decide (ins = .aaload)
    | 22 => decide (len = 1) && decide (ins = .iastore)
    | 23 => decide (len = 1) && decide (ins = .bastore)
    | 24 => decide (len = 1) && decide (ins = .lastore)
    | 25 => decide (len = 1) && decide (ins = .aastore)
    | 26 => (match ins with
      | .checkcast idx => decide (len = 3) && decide (idx = a) && decide (tb_ow i = c)
      | _ => false)
    | 27 => (match ins, sw with
      | .ldc idx, [(x, _)] => decide (len = 2) && decide (tb_ldc (tb_ow i) idx = some x)
      | .ldc_w idx, [(x, _)] => decide (len = 3) && decide (tb_ldc (tb_ow i) idx = some x)
      | _, _ => false)
    | 28 => (match ins with
      | .ldc2_w idx => decide (len = 3) && decide (tb_ldc2 (tb_ow i) idx = some w)
      | _ => false)
    | 29 => (match ins with
      | .invokespecial idx => decide (len = 3) && decide (tb_nat (tb_ow i) idx = some 0)
      | _ => false)
    | 30 => (match ins with
      | .invokestatic idx => decide (len = 3) && decide (tb_nat (tb_ow i) idx = some a)
      | _ => false)
    | 31 => (match ins with
      | .invokevirtual idx => decide (len = 3) && decide (tb_nat (tb_ow i) idx = some a)
      | _ => false)
    | 32 => (match ins with
      | .ldc idx => decide (len = 2) && decide (tb_ldc (tb_ow i) idx = none) && decide (idx = 110) && decide (tb_Rn (tb_ow i) = "java/util/Arrays")
      | _ => false)
    | _ => false)
/-! values whose addresses are called otherwise; locals of which some are known -/
def jx_rn (g : Nat → Nat) (v : Value) : Value := match v with
  | .ref a => .ref (g a)
  | v => v
def jx_Lr (g : Nat → Nat) (l L : jx_L) : Prop := (∀ q ∈ l, (q.1, jx_rn g q.2) ∈ L) ∧ ∀ q ∈ L, ∀ q' ∈ L, q.1 = q'.1 → q.2 = q'.2
section JxRn
variable {g : Nat → Nat} {l L : jx_L} {st : List Value} {q : jx_L × List Value}
theorem jx_rn_cat (v : Value) : (jx_rn g v).category = v.category := by cases v <;> rfl
theorem jx_rn_I (v : Value) : jx_isI (jx_rn g v) = jx_isI v := by cases v <;> rfl
theorem jx_rn_J (v : Value) : jx_isJ (jx_rn g v) = jx_isJ v := by cases v <;> rfl
theorem jx_rn_R (v : Value) : jx_isR (jx_rn g v) = jx_isR v := by cases v <;> rfl
theorem jx_lget_of {L : jx_L} {i : Nat} {v : Value} (hm : (i, v) ∈ L) (hf : ∀ q ∈ L, ∀ q' ∈ L, q.1 = q'.1 → q.2 = q'.2) : jx_lget L i = some v := by
  induction L with
  | nil => cases hm
  | cons a r ih =>
    obtain ⟨j, w⟩ := a
    unfold jx_lget
    split
    · rename_i e
      subst e
      exact congrArg some (hf (j, w) (List.mem_cons_self ..) (j, v) hm rfl)
    · rename_i e
      rcases List.mem_cons.mp hm with h | h
      · cases h; exact absurd rfl e
      · exact ih h (fun q hq q' hq' => hf q (List.mem_cons_of_mem _ hq) q' (List.mem_cons_of_mem _ hq'))
theorem jx_Lr.get {i : Nat} {v : Value} (h : jx_Lr g l L) (e : jx_lget l i = some v) : jx_lget L i = some (jx_rn g v) := jx_lget_of (h.1 _ (jx_lget_mem e)) h.2
theorem jx_Lr.flt {p P : Nat × Value → Bool} (h : jx_Lr g l L) (hp : ∀ q, P (q.1, jx_rn g q.2) = p q) : jx_Lr g (l.filter p) (L.filter P) := by
  refine ⟨fun q hq => ?_, fun q hq q' hq' => h.2 q (List.mem_filter.mp hq).1 q' (List.mem_filter.mp hq').1⟩
  obtain ⟨h1, h2⟩ := List.mem_filter.mp hq
  exact List.mem_filter.mpr ⟨h.1 q h1, by rw [hp]; exact h2⟩
theorem jx_Lr.cons {i : Nat} {v : Value} (h : jx_Lr g l L) (hn : ∀ q ∈ L, q.1 ≠ i) : jx_Lr g ((i, v) :: l) ((i, jx_rn g v) :: L) := by
  refine ⟨fun q hq => ?_, fun q hq q' hq' e => ?_⟩
  · rcases List.mem_cons.mp hq with rfl | hq
    · exact List.mem_cons_self ..
    · exact List.mem_cons_of_mem _ (h.1 q hq)
  · rcases List.mem_cons.mp hq with rfl | hq
    · rcases List.mem_cons.mp hq' with rfl | hq'
      · rfl
      · exact absurd e.symm (hn q' hq')
    · rcases List.mem_cons.mp hq' with rfl | hq'
      · exact absurd e (hn q hq)
      · exact h.2 q hq q' hq' e
theorem jx_Lr.set1 {i : Nat} {v : Value} (h : jx_Lr g l L) : jx_Lr g (jx_set1 l i v) (jx_set1 L i (jx_rn g v)) := by
  refine jx_Lr.cons (h.flt (fun q => by simp only [jx_rn_cat])) (fun q hq => ?_)
  have := (List.mem_filter.mp hq).2
  simp only [Bool.and_eq_true, Bool.not_eq_true', beq_eq_false_iff_ne] at this
  exact this.1
theorem jx_Lr.set2 {i : Nat} {v : Value} (h : jx_Lr g l L) : jx_Lr g (jx_set2 l i v) (jx_set2 L i (jx_rn g v)) := by
  refine jx_Lr.cons (h.flt (fun q => by simp only [jx_rn_cat])) (fun q hq => ?_)
  have := (List.mem_filter.mp hq).2
  simp only [Bool.and_eq_true, Bool.not_eq_true', beq_eq_false_iff_ne] at this
  exact this.1
theorem jx_ld_r {kind : Value → Bool} {i : Nat} (hk : ∀ v, kind (jx_rn g v) = kind v) (h : jx_ld kind l i st = some q) (hL : jx_Lr g l L) : ∃ L', jx_ld kind L i (st.map (jx_rn g)) = some (L', q.2.map (jx_rn g)) ∧ jx_Lr g q.1 L' := by
  unfold jx_ld at h
  split at h
  · rename_i v e
    split at h
    · rename_i hv
      cases h
      refine ⟨L, ?_, hL⟩
      unfold jx_ld
      rw [hL.get e]
      simp only [hk, hv, if_true, List.map_cons]
    · cases h
  · cases h
theorem jx_sto_r {kind : Value → Bool} {nL i : Nat} (hk : ∀ v, kind (jx_rn g v) = kind v) (h : jx_sto kind nL l i st = some q) (hL : jx_Lr g l L) : ∃ L', jx_sto kind nL L i (st.map (jx_rn g)) = some (L', q.2.map (jx_rn g)) ∧ jx_Lr g q.1 L' := by
  unfold jx_sto at h
  split at h
  · split at h
    · rename_i hv
      cases h
      refine ⟨_, ?_, hL.set1⟩
      unfold jx_sto
      simp only [List.map_cons, hk, hv, and_self, if_true]
    · cases h
  · cases h
theorem jx_sto2_r {nL i : Nat} (h : jx_sto2 nL l i st = some q) (hL : jx_Lr g l L) : ∃ L', jx_sto2 nL L i (st.map (jx_rn g)) = some (L', q.2.map (jx_rn g)) ∧ jx_Lr g q.1 L' := by
  unfold jx_sto2 at h
  split at h
  · split at h
    · rename_i hv
      cases h
      refine ⟨_, ?_, hL.set2⟩
      show (if _ then _ else _) = _
      rw [if_pos hv]
      rfl
    · cases h
  · cases h
theorem jx_inc_r {nL i : Nat} {n : Int} (h : jx_inc nL l i n st = some q) (hL : jx_Lr g l L) : ∃ L', jx_inc nL L i n (st.map (jx_rn g)) = some (L', q.2.map (jx_rn g)) ∧ jx_Lr g q.1 L' := by
  unfold jx_inc at h
  split at h
  · rename_i x e
    split at h
    · rename_i hv
      cases h
      refine ⟨_, ?_, hL.set1⟩
      unfold jx_inc
      rw [hL.get e]
      simp only [jx_rn, hv, if_true]
    · cases h
  · cases h
theorem jx_ii_r {f : Int32 → Int32 → Int32} (h : jx_ii l f st = some q) (hL : jx_Lr g l L) : ∃ L', jx_ii L f (st.map (jx_rn g)) = some (L', q.2.map (jx_rn g)) ∧ jx_Lr g q.1 L' := by
  unfold jx_ii at h
  split at h
  · cases h; exact ⟨L, rfl, hL⟩
  · cases h
theorem jx_iid_r {f : Int32 → Int32 → Int32} (h : jx_iid l f st = some q) (hL : jx_Lr g l L) : ∃ L', jx_iid L f (st.map (jx_rn g)) = some (L', q.2.map (jx_rn g)) ∧ jx_Lr g q.1 L' := by
  unfold jx_iid at h
  split at h
  · split at h
    · cases h
    · rename_i hy
      cases h
      refine ⟨L, ?_, hL⟩
      show (if _ then _ else _) = _
      rw [if_neg hy]
      rfl
  · cases h
theorem jx_ll_r {f : Int64 → Int64 → Value} (hf : ∀ x y, jx_rn g (f x y) = f x y) (h : jx_ll l f st = some q) (hL : jx_Lr g l L) : ∃ L', jx_ll L f (st.map (jx_rn g)) = some (L', q.2.map (jx_rn g)) ∧ jx_Lr g q.1 L' := by
  unfold jx_ll at h
  split at h
  · cases h
    refine ⟨L, ?_, hL⟩
    simp only [List.map_cons, hf]
    rfl
  · cases h
theorem jx_lld_r {f : Int64 → Int64 → Int64} (h : jx_lld l f st = some q) (hL : jx_Lr g l L) : ∃ L', jx_lld L f (st.map (jx_rn g)) = some (L', q.2.map (jx_rn g)) ∧ jx_Lr g q.1 L' := by
  unfold jx_lld at h
  split at h
  · split at h
    · cases h
    · rename_i hy
      cases h
      refine ⟨L, ?_, hL⟩
      show (if _ then _ else _) = _
      rw [if_neg hy]
      rfl
  · cases h
theorem jx_li_r {f : Int64 → Int32 → Int64} (h : jx_li l f st = some q) (hL : jx_Lr g l L) : ∃ L', jx_li L f (st.map (jx_rn g)) = some (L', q.2.map (jx_rn g)) ∧ jx_Lr g q.1 L' := by
  unfold jx_li at h
  split at h
  · cases h; exact ⟨L, rfl, hL⟩
  · cases h
theorem jx_i1_r {f : Int32 → Value} (hf : ∀ x, jx_rn g (f x) = f x) (h : jx_i1 l f st = some q) (hL : jx_Lr g l L) : ∃ L', jx_i1 L f (st.map (jx_rn g)) = some (L', q.2.map (jx_rn g)) ∧ jx_Lr g q.1 L' := by
  unfold jx_i1 at h
  split at h
  · cases h
    refine ⟨L, ?_, hL⟩
    simp only [List.map_cons, hf]
    rfl
  · cases h
theorem jx_l1_r {f : Int64 → Value} (hf : ∀ x, jx_rn g (f x) = f x) (h : jx_l1 l f st = some q) (hL : jx_Lr g l L) : ∃ L', jx_l1 L f (st.map (jx_rn g)) = some (L', q.2.map (jx_rn g)) ∧ jx_Lr g q.1 L' := by
  unfold jx_l1 at h
  split at h
  · cases h
    refine ⟨L, ?_, hL⟩
    simp only [List.map_cons, hf]
    rfl
  · cases h
theorem jx_s1_r {f : Value → List Value → List Value} (hf : ∀ v r, f (jx_rn g v) (r.map (jx_rn g)) = (f v r).map (jx_rn g)) (h : jx_s1 l f st = some q) (hL : jx_Lr g l L) : ∃ L', jx_s1 L f (st.map (jx_rn g)) = some (L', q.2.map (jx_rn g)) ∧ jx_Lr g q.1 L' := by
  unfold jx_s1 at h
  split at h
  · split at h
    · rename_i hv
      cases h
      refine ⟨L, ?_, hL⟩
      simp only [jx_s1, List.map_cons, jx_rn_cat, hv, if_true, hf]
    · cases h
  · cases h
theorem jx_s2_r {f : Value → Value → List Value → List Value} (hf : ∀ v w r, f (jx_rn g v) (jx_rn g w) (r.map (jx_rn g)) = (f v w r).map (jx_rn g)) (h : jx_s2 l f st = some q) (hL : jx_Lr g l L) : ∃ L', jx_s2 L f (st.map (jx_rn g)) = some (L', q.2.map (jx_rn g)) ∧ jx_Lr g q.1 L' := by
  unfold jx_s2 at h
  split at h
  · split at h
    · rename_i hv
      cases h
      refine ⟨L, ?_, hL⟩
      simp only [jx_s2, List.map_cons, jx_rn_cat, hv, and_self, if_true, hf]
    · cases h
  · cases h
theorem jx_s3_r {f : Value → Value → Value → List Value → List Value} (hf : ∀ v w x r, f (jx_rn g v) (jx_rn g w) (jx_rn g x) (r.map (jx_rn g)) = (f v w x r).map (jx_rn g)) (h : jx_s3 l f st = some q) (hL : jx_Lr g l L) : ∃ L', jx_s3 L f (st.map (jx_rn g)) = some (L', q.2.map (jx_rn g)) ∧ jx_Lr g q.1 L' := by
  unfold jx_s3 at h
  split at h
  · split at h
    · rename_i hv
      cases h
      refine ⟨L, ?_, hL⟩
      simp only [jx_s3, List.map_cons, jx_rn_cat, hv, and_self, if_true, hf]
    · cases h
  · cases h
theorem jx_d2_r {f : Value → List Value → List Value} {f2 : Value → Value → List Value → List Value} (hf : ∀ v r, f (jx_rn g v) (r.map (jx_rn g)) = (f v r).map (jx_rn g)) (hf2 : ∀ v w r, f2 (jx_rn g v) (jx_rn g w) (r.map (jx_rn g)) = (f2 v w r).map (jx_rn g)) (h : jx_d2 l f f2 st = some q) (hL : jx_Lr g l L) : ∃ L', jx_d2 L f f2 (st.map (jx_rn g)) = some (L', q.2.map (jx_rn g)) ∧ jx_Lr g q.1 L' := by
  unfold jx_d2 at h
  split at h
  · rename_i v r
    split at h
    · rename_i hv
      cases h
      refine ⟨L, ?_, hL⟩
      simp only [jx_d2, List.map_cons, jx_rn_cat, hv, if_true, hf]
    · rename_i hv
      obtain ⟨L', e, hL'⟩ := jx_s2_r hf2 h hL
      refine ⟨L', ?_, hL'⟩
      simp only [jx_d2, List.map_cons, jx_rn_cat, if_neg hv]
      exact e
  · cases h
set_option maxHeartbeats 4000000 in
theorem jx_pure_r {nl : Nat} {ins : Instr} (h : jx_pure nl ins l st = some q) (hL : jx_Lr g l L) : ∃ L', jx_pure nl ins L (st.map (jx_rn g)) = some (L', q.2.map (jx_rn g)) ∧ jx_Lr g q.1 L' := by
  unfold jx_pure at h ⊢
  split at h
  · cases h; exact ⟨L, rfl, hL⟩
  · cases h; exact ⟨L, rfl, hL⟩
  · cases h; exact ⟨L, rfl, hL⟩
  · cases h; exact ⟨L, rfl, hL⟩
  · cases h; exact ⟨L, rfl, hL⟩
  · exact jx_ld_r jx_rn_I h hL
  · exact jx_ld_r jx_rn_I h hL
  · exact jx_ld_r jx_rn_J h hL
  · exact jx_ld_r jx_rn_J h hL
  · exact jx_ld_r jx_rn_R h hL
  · exact jx_ld_r jx_rn_R h hL
  · exact jx_sto_r jx_rn_I h hL
  · exact jx_sto_r jx_rn_I h hL
  · exact jx_sto_r jx_rn_R h hL
  · exact jx_sto_r jx_rn_R h hL
  · exact jx_sto2_r h hL
  · exact jx_sto2_r h hL
  · exact jx_inc_r h hL
  · exact jx_ii_r h hL
  · exact jx_ii_r h hL
  · exact jx_ii_r h hL
  · exact jx_ii_r h hL
  · exact jx_ii_r h hL
  · exact jx_ii_r h hL
  · exact jx_iid_r h hL
  · exact jx_iid_r h hL
  · exact jx_i1_r (fun _ => rfl) h hL
  · exact jx_ii_r h hL
  · exact jx_ii_r h hL
  · exact jx_ii_r h hL
  · exact jx_ll_r (fun _ _ => rfl) h hL
  · exact jx_ll_r (fun _ _ => rfl) h hL
  · exact jx_ll_r (fun _ _ => rfl) h hL
  · exact jx_ll_r (fun _ _ => rfl) h hL
  · exact jx_ll_r (fun _ _ => rfl) h hL
  · exact jx_ll_r (fun _ _ => rfl) h hL
  · exact jx_lld_r h hL
  · exact jx_lld_r h hL
  · exact jx_l1_r (fun _ => rfl) h hL
  · exact jx_li_r h hL
  · exact jx_li_r h hL
  · exact jx_li_r h hL
  · exact jx_ll_r (fun _ _ => rfl) h hL
  · exact jx_i1_r (fun _ => rfl) h hL
  · exact jx_l1_r (fun _ => rfl) h hL
  · exact jx_i1_r (fun _ => rfl) h hL
  · exact jx_i1_r (fun _ => rfl) h hL
  · exact jx_i1_r (fun _ => rfl) h hL
  · exact jx_s1_r (fun _ _ => rfl) h hL
  · exact jx_s1_r (fun _ _ => rfl) h hL
  · exact jx_s2_r (fun _ _ _ => rfl) h hL
  · exact jx_s3_r (fun _ _ _ _ => rfl) h hL
  · exact jx_d2_r (fun _ _ => rfl) (fun _ _ _ => rfl) h hL
  · exact jx_d2_r (fun _ _ => rfl) (fun _ _ _ => rfl) h hL
  · cases h
end JxRn
