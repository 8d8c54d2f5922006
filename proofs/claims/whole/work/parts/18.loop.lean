/-! THE INTERPRETER: the heap's instructions together; calls; the loop -/
def jx_wr (i ci k : Nat) : Bool := match tb_cl[ci]? with
  | some q => !(q.2.1 k).2.2.2 || ((tb_y i).name == "<init>" && (q.2.1 k).1 == tb_Rn (tb_ow i))
  | none => false
def jx_sm (r : List Value) : Nat := (r.map fun v => v.category).sum
/-- what the machine does itself, as a call of a static method -/
def jx_bs (b : Nat) (st : List Value) (σ : jx_S) : Option (List Value × jx_S) := match b with
  | 1 => (match st with
    | .int y :: .int x :: r => if jx_sm r ≤ 8 then some (.int (if x < y then y else x) :: r, σ) else none
    | _ => none)
  | 2 => (match st with
    | .int y :: .int x :: r => if jx_sm r ≤ 8 then some (.int (if y < x then y else x) :: r, σ) else none
    | _ => none)
  | 3 => (match st with
    | .long y :: .long x :: r => if jx_sm r ≤ 8 then some (.long (if y < x then x else y) :: r, σ) else none
    | _ => none)
  | 4 => (match st with
    | .long y :: .long x :: r => if jx_sm r ≤ 8 then some (.long (if y < x then y else x) :: r, σ) else none
    | _ => none)
  | 5 => (match st with
    | .int n :: .int dp :: .ref a :: .int sp :: .ref a0 :: r => if jx_sm r ≤ 8 then (jx_copy σ a0 sp a dp n).map (fun σ' => (r, σ')) else none
    | _ => none)
  | _ => none
def jx_bv (th : Nat → Nat) (b : Nat) (st : List Value) (σ : jx_S) : Option (List Value × jx_S) := match b with
  | 6 => (match st with
    | .ref a :: r => if jx_sm r ≤ 8 then (jx_clone σ a 1).map (fun q => (q.1 :: r, q.2)) else none
    | _ => none)
  | 7 => (match st with
    | .ref a :: r => if jx_sm r ≤ 8 then (jx_clone σ a 0).map (fun q => (q.1 :: r, q.2)) else none
    | _ => none)
  | 8 => (match st with
    | .ref a :: r => if jx_sm r ≤ 8 then (match σ.1 a with
      | some (.inl (t, _)) => if t = 4 then some (.ref (th 100) :: r, σ) else none
      | _ => none) else none
    | _ => none)
  | _ => none
def jx_hp (th : Nat → Nat) (i : Nat) (ins : Instr) (len : Nat) (st : List Value) (σ : jx_S) : Option (List Value × jx_S) := match ins with
  | .getfield idx => (match st with
    | .ref a :: r => if len = 3 then (tb_fld (tb_ow i) idx).bind (fun q => (jx_getF σ a q.1 q.2).map (fun v => (v :: r, σ))) else none
    | _ => none)
  | .putfield idx => (match st with
    | v :: .ref a :: r => if len = 3 then (tb_fld (tb_ow i) idx).bind (fun q => if jx_wr i q.1 q.2 = true then (jx_putF σ a q.1 q.2 v).map (fun σ' => (r, σ')) else none) else none
    | _ => none)
  | .getstatic idx => if len = 3 then (tb_sta (tb_ow i) idx).map (fun z => (.ref (th z) :: st, σ)) else none
  | .new idx => if len = 3 then (tb_new (tb_ow i) idx).bind (fun ci => (jx_newo σ ci).map (fun q => (q.1 :: st, q.2))) else none
  | .newarray y => (match st with
    | .int n :: r => if len = 2 then (jx_at y).bind (fun t => (jx_newa σ t n).map (fun q => (q.1 :: r, q.2))) else none
    | _ => none)
  | .anewarray idx => (match st with
    | .int n :: r => if len = 3 then (tb_anw (tb_ow i) idx).bind (fun t => (jx_newa σ t n).map (fun q => (q.1 :: r, q.2))) else none
    | _ => none)
  | .arraylength => (match st with
    | .ref a :: r => if len = 1 then (jx_al σ a).map (fun n => (.int n :: r, σ)) else none
    | _ => none)
  | .iaload => (match st with
    | .int j :: .ref a :: r => if len = 1 then (jx_ild σ [1, 101] a j).map (fun v => (v :: r, σ)) else none
    | _ => none)
  | .baload => (match st with
    | .int j :: .ref a :: r => if len = 1 then (jx_ild σ [0, 3, 100] a j).map (fun v => (v :: r, σ)) else none
    | _ => none)
  | .laload => (match st with
    | .int j :: .ref a :: r => if len = 1 then (jx_lld1 σ a j).map (fun v => (v :: r, σ)) else none
    | _ => none)
  | .aaload => (match st with
    | .int j :: .ref a :: r => if len = 1 then (jx_ald σ a j).map (fun v => (v :: r, σ)) else none
    | _ => none)
  | .iastore => (match st with
    | .int x :: .int j :: .ref a :: r => if len = 1 then (jx_ist σ a j x).map (fun σ' => (r, σ')) else none
    | _ => none)
  | .bastore => (match st with
    | .int x :: .int j :: .ref a :: r => if len = 1 then (jx_bst σ a j x).map (fun σ' => (r, σ')) else none
    | _ => none)
  | .lastore => (match st with
    | .long x :: .int j :: .ref a :: r => if len = 1 then (jx_lst σ a j x).map (fun σ' => (r, σ')) else none
    | _ => none)
  | .aastore => (match st with
    | v :: .int j :: .ref a :: r => if len = 1 then (jx_ast σ a j v).map (fun σ' => (r, σ')) else none
    | _ => none)
  | .checkcast idx => (match st with
    | v :: r => if len = 3 ∧ jx_cast σ (tb_ow i) idx v = true then some (v :: r, σ) else none
    | _ => none)
  | .ldc idx => if len = 2 then (match tb_ldc (tb_ow i) idx with
    | some x => some (.int x :: st, σ)
    | none => if idx = 110 ∧ tb_Rn (tb_ow i) = "java/util/Arrays" then some (.ref (th 100) :: st, σ) else none) else none
  | .ldc_w idx => if len = 3 then (tb_ldc (tb_ow i) idx).map (fun x => (.int x :: st, σ)) else none
  | .ldc2_w idx => if len = 3 then (tb_ldc2 (tb_ow i) idx).map (fun x => (.long x :: st, σ)) else none
  | .invokestatic idx => if len = 3 then (tb_nat (tb_ow i) idx).bind (fun b => jx_bs b st σ) else none
  | .invokespecial idx => (match st with
    | .ref _ :: r => if len = 3 ∧ tb_nat (tb_ow i) idx = some 0 ∧ jx_sm r ≤ 8 then some (r, σ) else none
    | _ => none)
  | .invokevirtual idx => if len = 3 then (tb_nat (tb_ow i) idx).bind (fun b => jx_bv th b st σ) else none
  | _ => none
def jx_isC (σ : jx_S) (b ci : Nat) : Bool := match σ.1 b with
  | some (.inr (c, _)) => decide (c = ci)
  | _ => false
/-- a call: kind, callee, its arguments, what stays on the stack -/
def jx_cl (i : Nat) (ins : Instr) (len : Nat) (st : List Value) (σ : jx_S) : Option (Nat × List Value × List Value) :=
  let go := fun (idx : Nat) (kds : List Nat) => (tb_inv (tb_ow i) idx).bind (fun q => match q with
    | (kd, j, n, ci) => if kd ∈ kds ∧ n ≤ st.length then
        (if kd = 2 then (if jx_sm (st.drop n) ≤ 8 then some (j, (st.take n).reverse, st.drop n) else none) else
          (match st.drop n with
          | .ref b :: r => if jx_sm r ≤ 8 ∧ (((kd = 1 ∨ kd = 5) ∧ tb_ret j = none) ∨ ((kd = 0 ∨ kd = 3 ∨ kd = 4) ∧ jx_isC σ b ci = true)) then some (j, .ref b :: (st.take n).reverse, r) else none
          | _ => none)) else none)
  match ins with
  | .invokevirtual idx => if len = 3 then go idx [0, 4] else none
  | .invokespecial idx => if len = 3 then go idx [1, 5] else none
  | .invokestatic idx => if len = 3 then go idx [2] else none
  | .invokeinterface idx _ => if len = 5 then go idx [3] else none
  | _ => none
def jx_ret (rt : Option FieldType) (ins : Instr) (len : Nat) (st : List Value) : Option (Option Value) := match ins with
  | .return_ => if len = 1 ∧ rt = none ∧ st = [] then some none else none
  | .ireturn => (match rt, st with
    | some ty, [.int v] => if len = 1 ∧ narrow ty (.int v) = .int v then some (some (.int v)) else none
    | _, _ => none)
  | .lreturn => (match st with
    | [.long v] => if len = 1 ∧ rt = some .long then some (some (.long v)) else none
    | _ => none)
  | .areturn => (match rt, st with
    | some (.object _), [v] => if len = 1 ∧ jx_isR v = true then some (some v) else none
    | some (.array _), [v] => if len = 1 ∧ jx_isR v = true then some (some v) else none
    | _, _ => none)
  | _ => none
def jx_loop (th : Nat → Nat) (call : Nat → List Value → jx_S → Option (Option Value × jx_S)) : Nat → Nat → Nat → jx_L → List Value → jx_S → Option (Option Value × jx_S)
  | 0, _, _, _, _, _ => none
  | n + 1, i, pc, l, st, σ => match decode (tb_code i) pc with
    | .ok (ins, len) => (match jx_ret (tb_ret i) ins len st with
      | some r => some (r, σ)
      | none => (match (if len = jx_len ins then jx_pure (tb_nl i) ins l st else none) with
        | some q => jx_loop th call n i (pc + len) q.1 q.2 σ
        | none => (match jx_br ins len pc st with
          | some q => jx_loop th call n i q.1 l q.2 σ
          | none => (match jx_hp th i ins len st σ with
            | some q => jx_loop th call n i (pc + len) l q.1 q.2
            | none => (match jx_cl i ins len st σ with
              | some q => (match call q.1 q.2.1 σ with
                | some w => jx_loop th call n i (pc + len) l (w.1.toList ++ q.2.2) w.2
                | none => none)
              | none => none)))))
    | _ => none
def jx_call (th : Nat → Nat) : Nat → Nat → Nat → List Value → jx_S → Option (Option Value × jx_S)
  | 0, _, _, _, _ => none
  | d + 1, n, j, args, σ => if (lg_sl args).length ≤ tb_nl j then jx_loop th (jx_call th d n) n j 0 (lv_args 0 args) [] σ else none
