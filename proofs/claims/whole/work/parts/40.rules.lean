/-! THE PURE PART: rules of the interpreter; fuel and depth only help -/
theorem jx_loop_up {th : Nat → Nat} {call call' : Nat → List Value → jx_S → Option (Option Value × jx_S)} {i : Nat} (hc : ∀ (j : Nat) (as : List Value) (σ : jx_S) (y : Option Value × jx_S), call j as σ = some y → call' j as σ = some y) :
    ∀ (n n' pc : Nat) (l : jx_L) (st : List Value) (σ : jx_S) (y : Option Value × jx_S), n ≤ n' → jx_loop th call n i pc l st σ = some y → jx_loop th call' n' i pc l st σ = some y := by
  intro n
  induction n with
  | zero => intro n' pc l st σ y hn h; cases h
  | succ n ih =>
    intro n' pc l st σ y hn h
    obtain ⟨k, rfl⟩ : ∃ k, n' = k + 1 := ⟨n' - 1, by omega⟩
    have hk : n ≤ k := by omega
    unfold jx_loop at h ⊢
    split at h
    · split at h
      · exact h
      · split at h
        · exact ih _ _ _ _ _ _ hk h
        · split at h
          · exact ih _ _ _ _ _ _ hk h
          · split at h
            · exact ih _ _ _ _ _ _ hk h
            · split at h
              · split at h
                · rename_i w hw
                  rw [hc _ _ _ _ hw]
                  exact ih _ _ _ _ _ _ hk h
                · cases h
              · cases h
    · cases h
theorem jx_call_up {th : Nat → Nat} : ∀ (d d' n n' j : Nat) (as : List Value) (σ : jx_S) (y : Option Value × jx_S), d ≤ d' → n ≤ n' → jx_call th d n j as σ = some y → jx_call th d' n' j as σ = some y := by
  intro d
  induction d with
  | zero => intro d' n n' j as σ y _ _ h; cases h
  | succ d ih =>
    intro d' n n' j as σ y hd hn h
    obtain ⟨k, rfl⟩ : ∃ k, d' = k + 1 := ⟨d' - 1, by omega⟩
    unfold jx_call at h ⊢
    split at h
    · rename_i hl
      rw [if_pos hl]
      exact jx_loop_up (fun j as σ y h => ih k n n' j as σ y (by omega) hn h) _ _ _ _ _ _ _ hn h
    · cases h
/-- an activation comes to its end, and Q holds there -/
def jw (th : Nat → Nat) (d i pc : Nat) (l : jx_L) (st : List Value) (σ : jx_S) (Q : Option Value → jx_S → Prop) : Prop := ∃ (n : Nat) (r : Option Value) (σ' : jx_S), jx_loop th (jx_call th d n) n i pc l st σ = some (r, σ') ∧ Q r σ'
/-- a call comes to its end, and Q holds there -/
def jc (th : Nat → Nat) (d j : Nat) (as : List Value) (σ : jx_S) (Q : Option Value → jx_S → Prop) : Prop := ∃ (n : Nat) (r : Option Value) (σ' : jx_S), jx_call th d n j as σ = some (r, σ') ∧ Q r σ'
section JxRules
variable {th : Nat → Nat} {d d' i pc len j : Nat} {l l' : jx_L} {st st' as rest : List Value} {σ σ' : jx_S} {Q Q' : Option Value → jx_S → Prop} {ins : Instr}
theorem jc.up (h : jc th d j as σ Q) (hd : d ≤ d') : jc th d' j as σ Q := by
  obtain ⟨n, r, σ', h1, h2⟩ := h
  exact ⟨n, r, σ', jx_call_up d d' n n j as σ _ hd (Nat.le_refl _) h1, h2⟩
theorem jc.mp (h : jc th d j as σ Q) (hq : ∀ r σ', Q r σ' → Q' r σ') : jc th d j as σ Q' := by
  obtain ⟨n, r, σ', h1, h2⟩ := h
  exact ⟨n, r, σ', h1, hq r σ' h2⟩
theorem jw.mp (h : jw th d i pc l st σ Q) (hq : ∀ r σ', Q r σ' → Q' r σ') : jw th d i pc l st σ Q' := by
  obtain ⟨n, r, σ', h1, h2⟩ := h
  exact ⟨n, r, σ', h1, hq r σ' h2⟩
theorem jc.of (hl : (lg_sl as).length ≤ tb_nl j) (h : jw th d j 0 (lv_args 0 as) [] σ Q) : jc th (d + 1) j as σ Q := by
  obtain ⟨n, r, σ', h1, h2⟩ := h
  refine ⟨n, r, σ', ?_, h2⟩
  unfold jx_call
  rw [if_pos hl]
  exact h1
theorem jx_pure_ret {rt : Option FieldType} {nl : Nat} {q : jx_L × List Value} (h : jx_pure nl ins l st = some q) : jx_ret rt ins len st = none := by
  unfold jx_pure at h
  split at h <;> first | rfl | cases h
theorem jx_br_no {rt : Option FieldType} {nl : Nat} {q : Nat × List Value} (h : jx_br ins len pc st = some q) : jx_ret rt ins len st = none ∧ jx_pure nl ins l st = none := by
  unfold jx_br at h
  split at h <;> first | exact ⟨rfl, rfl⟩ | cases h
theorem jx_hp_no {rt : Option FieldType} {nl : Nat} {q : List Value × jx_S} (h : jx_hp th i ins len st σ = some q) : jx_ret rt ins len st = none ∧ jx_pure nl ins l st = none ∧ jx_br ins len pc st = none := by
  unfold jx_hp at h
  split at h <;> first | exact ⟨rfl, rfl, rfl⟩ | cases h
theorem jw_ret {r : Option Value} (hd : decode (tb_code i) pc = .ok (ins, len)) (h : jx_ret (tb_ret i) ins len st = some r) (q : Q r σ) : jw th d i pc l st σ Q := by
  refine ⟨1, r, σ, ?_, q⟩
  unfold jx_loop
  rw [hd]
  simp only [h]
theorem jw_pure (hd : decode (tb_code i) pc = .ok (ins, len)) (hl : len = jx_len ins) (h : jx_pure (tb_nl i) ins l st = some (l', st')) (k : jw th d i (pc + len) l' st' σ Q) : jw th d i pc l st σ Q := by
  obtain ⟨n, r, σ', h1, h2⟩ := k
  refine ⟨n + 1, r, σ', ?_, h2⟩
  unfold jx_loop
  rw [hd]
  simp only [jx_pure_ret (len := len) (rt := tb_ret i) h, if_pos hl, h]
  exact jx_loop_up (fun j as σ y h => jx_call_up d d n (n + 1) j as σ y (Nat.le_refl _) (Nat.le_succ _) h) _ _ _ _ _ _ _ (Nat.le_refl _) h1
theorem jw_br (hd : decode (tb_code i) pc = .ok (ins, len)) {t : Nat} (h : jx_br ins len pc st = some (t, st')) (k : jw th d i t l st' σ Q) : jw th d i pc l st σ Q := by
  obtain ⟨n, r, σ', h1, h2⟩ := k
  refine ⟨n + 1, r, σ', ?_, h2⟩
  obtain ⟨e1, e2⟩ := jx_br_no (l := l) (rt := tb_ret i) (nl := tb_nl i) h
  unfold jx_loop
  rw [hd]
  simp only [e1, e2, ite_self, h]
  exact jx_loop_up (fun j as σ y h => jx_call_up d d n (n + 1) j as σ y (Nat.le_refl _) (Nat.le_succ _) h) _ _ _ _ _ _ _ (Nat.le_refl _) h1
theorem jw_hp (hd : decode (tb_code i) pc = .ok (ins, len)) (h : jx_hp th i ins len st σ = some (st', σ')) (k : jw th d i (pc + len) l st' σ' Q) : jw th d i pc l st σ Q := by
  obtain ⟨n, r, σ2, h1, h2⟩ := k
  refine ⟨n + 1, r, σ2, ?_, h2⟩
  obtain ⟨e1, e2, e3⟩ := jx_hp_no (l := l) (pc := pc) (rt := tb_ret i) (nl := tb_nl i) h
  unfold jx_loop
  rw [hd]
  simp only [e1, e2, e3, ite_self, h]
  exact jx_loop_up (fun j as σ y h => jx_call_up d d n (n + 1) j as σ y (Nat.le_refl _) (Nat.le_succ _) h) _ _ _ _ _ _ _ (Nat.le_refl _) h1
theorem jw_cl (hd : decode (tb_code i) pc = .ok (ins, len)) (hno : jx_hp th i ins len st σ = none) (h : jx_cl i ins len st σ = some (j, as, rest)) (k : jc th d j as σ (fun r σ' => jw th d i (pc + len) l (r.toList ++ rest) σ' Q)) : jw th d i pc l st σ Q := by
  obtain ⟨n1, r1, σ1, h1, n2, r, σ2, h2, h3⟩ := k
  refine ⟨max n1 n2 + 1, r, σ2, ?_, h3⟩
  have e : jx_ret (tb_ret i) ins len st = none ∧ jx_pure (tb_nl i) ins l st = none ∧ jx_br ins len pc st = none := by
    unfold jx_cl at h
    simp only at h
    split at h <;> first | exact ⟨rfl, rfl, rfl⟩ | cases h
  obtain ⟨e1, e2, e3⟩ := e
  unfold jx_loop
  rw [hd]
  simp only [e1, e2, e3, ite_self, hno, h, jx_call_up d d n1 (max n1 n2 + 1) j as σ _ (Nat.le_refl _) (by omega) h1]
  exact jx_loop_up (fun j as σ y h => jx_call_up d d n2 (max n1 n2 + 1) j as σ y (Nat.le_refl _) (by omega) h) _ _ _ _ _ _ _ (by omega) h2
end JxRules
