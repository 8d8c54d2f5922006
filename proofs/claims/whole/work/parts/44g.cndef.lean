/-! RUNS WITHOUT A SCRIPT: an interpreter for them -/
def cn_br (ins : Instr) (len pc : Nat) (st : List Value) : Option (Nat × List Value) := match ins with
  | .goto _ => jx_br ins len pc st
  | .ifCond _ _ => jx_br ins len pc st
  | .if_icmp _ _ => jx_br ins len pc st
  | _ => none
def cn_hp (th : Nat → Nat) (i : Nat) (ins : Instr) (len : Nat) (st : List Value) (σ : jx_S) : Option (List Value × jx_S) := match ins with
  | .getfield _ => jx_hp th i ins len st σ
  | .putfield _ => jx_hp th i ins len st σ
  | .getstatic _ => jx_hp th i ins len st σ
  | .new _ => jx_hp th i ins len st σ
  | .newarray _ => jx_hp th i ins len st σ
  | .anewarray _ => jx_hp th i ins len st σ
  | .arraylength => jx_hp th i ins len st σ
  | .iaload => jx_hp th i ins len st σ
  | .baload => jx_hp th i ins len st σ
  | .iastore => jx_hp th i ins len st σ
  | .bastore => jx_hp th i ins len st σ
  | .aastore => jx_hp th i ins len st σ
  | .ldc idx => if tb_ldc (tb_ow i) idx = none then none else jx_hp th i ins len st σ
  | .invokestatic idx => (match tb_nat (tb_ow i) idx, st with
    | some 1, .int _ :: .int _ :: _ => jx_hp th i ins len st σ
    | some 2, .int _ :: .int _ :: _ => jx_hp th i ins len st σ
    | some 5, .int _ :: .int _ :: .ref _ :: .int _ :: .ref a0 :: _ => (match σ.1 a0 with
      | some (.inl (_, _, .inl _)) => jx_hp th i ins len st σ
      | _ => none)
    | _, _ => none)
  | .invokespecial _ => jx_hp th i ins len st σ
  | _ => none
def cn_cl (i : Nat) (ins : Instr) (len : Nat) (st : List Value) (σ : jx_S) : Option (Nat × List Value × List Value) := match ins with
  | .invokevirtual idx => if len = 3 ∧ tb_nat (tb_ow i) idx = none then (match tb_inv (tb_ow i) idx with
    | some (kd, j, n, ci) => if kd = 0 ∨ kd = 4 then (match st.drop n with
      | .ref b :: r => if jx_sm r ≤ 8 ∧ jx_isC σ b ci = true then some (j, .ref b :: (st.take n).reverse, r) else none
      | _ => none) else none
    | none => none) else none
  | .invokespecial idx => if len = 3 ∧ tb_nat (tb_ow i) idx = none then (match tb_inv (tb_ow i) idx with
    | some (kd, j, n, _) => if (kd = 1 ∨ kd = 5) ∧ tb_ret j = none then (match st.drop n with
      | .ref b :: r => if jx_sm r ≤ 8 then some (j, .ref b :: (st.take n).reverse, r) else none
      | _ => none) else none
    | none => none) else none
  | .invokestatic idx => if len = 3 ∧ tb_nat (tb_ow i) idx = none then (match tb_inv (tb_ow i) idx with
    | some (kd, j, n, _) => if kd = 2 ∧ n ≤ st.length ∧ jx_sm (st.drop n) ≤ 8 then some (j, (st.take n).reverse, st.drop n) else none
    | none => none) else none
  | _ => none
def cn_loop (th : Nat → Nat) (call : Nat → List Value → jx_S → Option (Option Value × jx_S)) : Nat → Nat → Nat → jx_L → List Value → jx_S → Option (Option Value × jx_S)
  | 0, _, _, _, _, _ => none
  | n + 1, i, pc, l, st, σ => match decode (tb_code i) pc with
    | .ok (ins, len) => (match jx_ret (tb_ret i) ins len st with
      | some r => some (r, σ)
      | none => (match (if len = jx_len ins then jx_pure (tb_nl i) ins l st else none) with
        | some q => cn_loop th call n i (pc + len) q.1 q.2 σ
        | none => (match cn_br ins len pc st with
          | some q => cn_loop th call n i q.1 l q.2 σ
          | none => (match cn_hp th i ins len st σ with
            | some q => cn_loop th call n i (pc + len) l q.1 q.2
            | none => (match cn_cl i ins len st σ with
              | some q => (match call q.1 q.2.1 σ with
                | some w => cn_loop th call n i (pc + len) l (w.1.toList ++ q.2.2) w.2
                | none => none)
              | none => none)))))
    | _ => none
def cn_call (th : Nat → Nat) : Nat → Nat → Nat → List Value → jx_S → Option (Option Value × jx_S)
  | 0, _, _, _, _ => none
  | d + 1, n, j, args, σ => if (lg_sl args).length ≤ tb_nl j then cn_loop th (cn_call th d n) n j 0 (lv_args 0 args) [] σ else none
