/-! THE CODE OVER THE HEAP AS IT IS: what an instruction needs -/
def jx_hc (th : Nat → Nat) (q : jx_D) (st : List Value) (σ : jx_S) (K : List Value → jx_S → Prop) : Prop := match q with
  | (_, _, _, kd, a, b, c, sw, w) => match kd, st with
    | 11, .ref o :: r => ∃ v, jx_getF σ o a b = some v ∧ K (v :: r) σ
    | 12, v :: .ref o :: r => ∃ σ', jx_putF σ o a b v = some σ' ∧ K r σ'
    | 13, st => K (.ref (th a) :: st) σ
    | 14, st => K (.ref σ.2.1 :: st) (jx_mk σ (.inr (a, tb_df a)) b)
    | 15, .int n :: r => ¬ (n < 0 ∨ 67108864 < n.toNatClampNeg) ∧ K (.ref σ.2.1 :: r) (jx_mk σ (.inl (a, n.toNatClampNeg, jx_emp a)) n.toNatClampNeg)
    | 16, .int n :: r => ¬ (n < 0 ∨ 67108864 < n.toNatClampNeg) ∧ K (.ref σ.2.1 :: r) (jx_mk σ (.inl (a, n.toNatClampNeg, jx_emp a)) n.toNatClampNeg)
    | 17, .ref o :: r => ∃ n, jx_al σ o = some n ∧ K (.int n :: r) σ
    | 18, .int j :: .ref o :: r => ∃ x, jx_ild σ [1, 101] o j = some (.int x) ∧ K (.int x :: r) σ
    | 19, .int j :: .ref o :: r => ∃ x, jx_ild σ [0, 3, 100] o j = some (.int x) ∧ K (.int x :: r) σ
    | 20, .int j :: .ref o :: r => ∃ x, jx_lld1 σ o j = some (.long x) ∧ K (.long x :: r) σ
    | 21, .int j :: .ref o :: r => ∃ v, jx_ald σ o j = some v ∧ K (v :: r) σ
    | 22, .int x :: .int j :: .ref o :: r => ∃ σ', jx_ist σ o j x = some σ' ∧ K r σ'
    | 23, .int x :: .int j :: .ref o :: r => ∃ σ', jx_bst σ o j x = some σ' ∧ K r σ'
    | 24, .long x :: .int j :: .ref o :: r => ∃ σ', jx_lst σ o j x = some σ' ∧ K r σ'
    | 25, v :: .int j :: .ref o :: r => ∃ σ', jx_ast σ o j v = some σ' ∧ K r σ'
    | 26, v :: r => jx_cast σ c a v = true ∧ K (v :: r) σ
    | 27, st => (match sw with
      | [(x, _)] => K (.int x :: st) σ
      | _ => False)
    | 28, st => K (.long w :: st) σ
    | 29, .ref _ :: r => (match Nat.ble (jx_sm r) 8 with
      | true => K r σ
      | false => False)
    | 30, st => (match a, st with
      | 1, .int y :: .int x :: r => (match Nat.ble (jx_sm r) 8 with
        | true => K (.int (if x < y then y else x) :: r) σ
        | false => False)
      | 2, .int y :: .int x :: r => (match Nat.ble (jx_sm r) 8 with
        | true => K (.int (if y < x then y else x) :: r) σ
        | false => False)
      | 3, .long y :: .long x :: r => (match Nat.ble (jx_sm r) 8 with
        | true => K (.long (if y < x then x else y) :: r) σ
        | false => False)
      | 4, .long y :: .long x :: r => (match Nat.ble (jx_sm r) 8 with
        | true => K (.long (if y < x then y else x) :: r) σ
        | false => False)
      | 5, .int n :: .int dp :: .ref a1 :: .int sp :: .ref a0 :: r => (match Nat.ble (jx_sm r) 8 with
        | true => ∃ σ', jx_copy σ a0 sp a1 dp n = some σ' ∧ K r σ'
        | false => False)
      | _, _ => False)
    | 31, st => (match a, st with
      | 6, .ref o :: r => (match Nat.ble (jx_sm r) 8 with
        | true => ∃ q, jx_clone σ o 1 = some q ∧ K (q.1 :: r) q.2
        | false => False)
      | 7, .ref o :: r => (match Nat.ble (jx_sm r) 8 with
        | true => ∃ q, jx_clone σ o 0 = some q ∧ K (q.1 :: r) q.2
        | false => False)
      | 8, .ref o :: r => (match Nat.ble (jx_sm r) 8 with
        | true => ∃ y, σ.1 o = some (.inl (4, y)) ∧ K (.ref (th 100) :: r) σ
        | false => False)
      | _, _ => False)
    | 32, st => K (.ref (th 100) :: st) σ
    | _, _ => False
def jx_rcc (σ : jx_S) (o c : Nat) (P : Prop) : Prop := jx_isC σ o c = true ∧ P
theorem jx_rn_id : jx_rn (fun a => a) = (fun v => v) := by
  funext v
  cases v <;> rfl
theorem jx_map_id (st : List Value) : st.map (jx_rn (fun a => a)) = st := by
  rw [jx_rn_id]
  exact List.map_id' st
section JxClass
variable {th : Nat → Nat} {d j nl n : Nat} {cut : List (Nat × List Nat)} {as : List Value} {σ : jx_S} {Q : Option Value → jx_S → Prop}
theorem jx_rccOK : jx_rcOK (fun a => a) (fun σ => σ) jx_rcc := fun _ _ _ _ h => h
set_option maxHeartbeats 4000000 in
theorem jx_hcOK : jx_hpOK th (fun a => a) (fun σ => σ) (jx_hc th) := by
  intro i q st σ K hck hk h
  obtain ⟨pc, ins, len, kd, a, b, c, sw, w⟩ := q
  unfold jx_ck at hck
  simp only [Bool.and_eq_true, decide_eq_true_eq] at hck
  obtain ⟨-, hck⟩ := hck
  simp only [jx_map_id]
  unfold jx_hc at h
  simp only at h
  split at h
  · rename_i o r
    obtain ⟨v, hv, h⟩ := h
    simp only at hck
    split at hck
    · simp only [Bool.and_eq_true, decide_eq_true_eq] at hck
      obtain ⟨rfl, hf⟩ := hck
      exact ⟨_, _, by simp only [jx_hp, if_true, hf, Option.bind_some, hv, Option.map_some], h⟩
    · cases hck
  · rename_i v o r
    obtain ⟨σ', hv, h⟩ := h
    simp only at hck
    split at hck
    · simp only [Bool.and_eq_true, decide_eq_true_eq] at hck
      obtain ⟨⟨rfl, hf⟩, hw⟩ := hck
      exact ⟨_, _, by simp only [jx_hp, if_true, hf, Option.bind_some, hw, hv, Option.map_some], h⟩
    · cases hck
  · simp only at hck
    split at hck
    · simp only [Bool.and_eq_true, decide_eq_true_eq] at hck
      obtain ⟨rfl, hf⟩ := hck
      exact ⟨_, _, by simp only [jx_hp, if_true, hf, Option.map_some], h⟩
    · cases hck
  · simp only at hck
    split at hck
    · simp only [Bool.and_eq_true, decide_eq_true_eq] at hck
      obtain ⟨⟨rfl, hf⟩, hN⟩ := hck
      split at hN
      · rename_i r e
        simp only [decide_eq_true_eq] at hN
        exact ⟨_, _, by simp only [jx_hp, if_true, hf, Option.bind_some, jx_newo, e, Option.map_some, hN], h⟩
      · cases hN
    · cases hck
  · simp only at hck
    split at hck
    · simp only [Bool.and_eq_true, decide_eq_true_eq] at hck
      obtain ⟨rfl, hf⟩ := hck
      exact ⟨_, _, by simp only [jx_hp, if_true, hf, Option.bind_some, jx_newa, if_neg h.1, Option.map_some], h.2⟩
    · cases hck
  · simp only at hck
    split at hck
    · simp only [Bool.and_eq_true, decide_eq_true_eq] at hck
      obtain ⟨rfl, hf⟩ := hck
      exact ⟨_, _, by simp only [jx_hp, if_true, hf, Option.bind_some, jx_newa, if_neg h.1, Option.map_some], h.2⟩
    · cases hck
  · simp only [Bool.and_eq_true, decide_eq_true_eq] at hck
    obtain ⟨rfl, rfl⟩ := hck
    obtain ⟨n, hv, h⟩ := h
    exact ⟨_, _, by simp only [jx_hp, if_true, hv, Option.map_some], h⟩
  · simp only [Bool.and_eq_true, decide_eq_true_eq] at hck
    obtain ⟨rfl, rfl⟩ := hck
    obtain ⟨n, hv, h⟩ := h
    exact ⟨_, _, by simp only [jx_hp, if_true, hv, Option.map_some], h⟩
  · simp only [Bool.and_eq_true, decide_eq_true_eq] at hck
    obtain ⟨rfl, rfl⟩ := hck
    obtain ⟨n, hv, h⟩ := h
    exact ⟨_, _, by simp only [jx_hp, if_true, hv, Option.map_some], h⟩
  · simp only [Bool.and_eq_true, decide_eq_true_eq] at hck
    obtain ⟨rfl, rfl⟩ := hck
    obtain ⟨n, hv, h⟩ := h
    exact ⟨_, _, by simp only [jx_hp, if_true, hv, Option.map_some], h⟩
  · simp only [Bool.and_eq_true, decide_eq_true_eq] at hck
    obtain ⟨rfl, rfl⟩ := hck
    obtain ⟨n, hv, h⟩ := h
    exact ⟨_, _, by simp only [jx_hp, if_true, hv, Option.map_some], h⟩
  · simp only [Bool.and_eq_true, decide_eq_true_eq] at hck
    obtain ⟨rfl, rfl⟩ := hck
    obtain ⟨n, hv, h⟩ := h
    exact ⟨_, _, by simp only [jx_hp, if_true, hv, Option.map_some], h⟩
  · simp only [Bool.and_eq_true, decide_eq_true_eq] at hck
    obtain ⟨rfl, rfl⟩ := hck
    obtain ⟨n, hv, h⟩ := h
    exact ⟨_, _, by simp only [jx_hp, if_true, hv, Option.map_some], h⟩
  · simp only [Bool.and_eq_true, decide_eq_true_eq] at hck
    obtain ⟨rfl, rfl⟩ := hck
    obtain ⟨n, hv, h⟩ := h
    exact ⟨_, _, by simp only [jx_hp, if_true, hv, Option.map_some], h⟩
  · simp only [Bool.and_eq_true, decide_eq_true_eq] at hck
    obtain ⟨rfl, rfl⟩ := hck
    obtain ⟨n, hv, h⟩ := h
    exact ⟨_, _, by simp only [jx_hp, if_true, hv, Option.map_some], h⟩
  · simp only at hck
    split at hck
    · simp only [Bool.and_eq_true, decide_eq_true_eq] at hck
      obtain ⟨⟨rfl, rfl⟩, rfl⟩ := hck
      exact ⟨_, _, by simp only [jx_hp, h.1, and_self, if_true], h.2⟩
    · cases hck
  · split at h
    · rename_i x y
      simp only at hck
      split at hck
      · rename_i e
        cases e
        simp only [Bool.and_eq_true, decide_eq_true_eq] at hck
        obtain ⟨rfl, hl⟩ := hck
        exact ⟨_, _, by simp only [jx_hp, if_true, hl], h⟩
      · rename_i e
        cases e
        simp only [Bool.and_eq_true, decide_eq_true_eq] at hck
        obtain ⟨rfl, hl⟩ := hck
        exact ⟨_, _, by simp only [jx_hp, if_true, hl, Option.map_some], h⟩
      · cases hck
    · exact h.elim
  · simp only at hck
    split at hck
    · simp only [Bool.and_eq_true, decide_eq_true_eq] at hck
      obtain ⟨rfl, hl⟩ := hck
      exact ⟨_, _, by simp only [jx_hp, if_true, hl, Option.map_some], h⟩
    · cases hck
  · split at h
    · rename_i e
      have e := Nat.le_of_ble_eq_true e
      simp only at hck
      split at hck
      · simp only [Bool.and_eq_true, decide_eq_true_eq] at hck
        obtain ⟨rfl, hl⟩ := hck
        exact ⟨_, _, by simp only [jx_hp, hl, e, and_self, if_true], h⟩
      · cases hck
    · exact h.elim
  · simp only at hck
    split at hck
    · simp only [Bool.and_eq_true, decide_eq_true_eq] at hck
      obtain ⟨rfl, hl⟩ := hck
      split at h
      · split at h
        · rename_i e
          have e := Nat.le_of_ble_eq_true e
          exact ⟨_, _, by simp only [jx_hp, if_true, hl, Option.bind_some, jx_bs, e], h⟩
        · exact h.elim
      · split at h
        · rename_i e
          have e := Nat.le_of_ble_eq_true e
          exact ⟨_, _, by simp only [jx_hp, if_true, hl, Option.bind_some, jx_bs, e], h⟩
        · exact h.elim
      · split at h
        · rename_i e
          have e := Nat.le_of_ble_eq_true e
          exact ⟨_, _, by simp only [jx_hp, if_true, hl, Option.bind_some, jx_bs, e], h⟩
        · exact h.elim
      · split at h
        · rename_i e
          have e := Nat.le_of_ble_eq_true e
          exact ⟨_, _, by simp only [jx_hp, if_true, hl, Option.bind_some, jx_bs, e], h⟩
        · exact h.elim
      · split at h
        · rename_i e
          have e := Nat.le_of_ble_eq_true e
          obtain ⟨σ', hv, h⟩ := h
          exact ⟨_, _, by simp only [jx_hp, if_true, hl, Option.bind_some, jx_bs, e, hv, Option.map_some], h⟩
        · exact h.elim
      · exact h.elim
    · cases hck
  · simp only at hck
    split at hck
    · simp only [Bool.and_eq_true, decide_eq_true_eq] at hck
      obtain ⟨rfl, hl⟩ := hck
      split at h
      · split at h
        · rename_i e
          have e := Nat.le_of_ble_eq_true e
          obtain ⟨q, hv, h⟩ := h
          exact ⟨_, _, by simp only [jx_hp, if_true, hl, Option.bind_some, jx_bv, e, hv, Option.map_some], h⟩
        · exact h.elim
      · split at h
        · rename_i e
          have e := Nat.le_of_ble_eq_true e
          obtain ⟨q, hv, h⟩ := h
          exact ⟨_, _, by simp only [jx_hp, if_true, hl, Option.bind_some, jx_bv, e, hv, Option.map_some], h⟩
        · exact h.elim
      · split at h
        · rename_i e
          have e := Nat.le_of_ble_eq_true e
          obtain ⟨q, hv, h⟩ := h
          exact ⟨_, _, by simp only [jx_hp, if_true, hl, Option.bind_some, jx_bv, e, hv], h⟩
        · exact h.elim
      · exact h.elim
    · cases hck
  · simp only at hck
    split at hck
    · simp only [Bool.and_eq_true, decide_eq_true_eq] at hck
      obtain ⟨⟨⟨rfl, hl⟩, rfl⟩, hn⟩ := hck
      exact ⟨_, _, by simp only [jx_hp, if_true, hl, hn, and_self], h⟩
    · cases hck
  · exact h.elim
/-- an activation over the heap as it is -/
abbrev cl_fj (th : Nat → Nat) (d i pc : Nat) (l : jx_L) (st : List Value) (σ : jx_S) (Q : Option Value → jx_S → Prop) : Prop := jx_fj th (fun a => a) (fun σ => σ) d i pc l st σ Q
theorem cl_fc_of (h : jx_fc th (fun a => a) (fun σ => σ) d j as σ Q) : jc th d j as σ Q := by
  unfold jx_fc at h
  rw [jx_map_id] at h
  refine jc.mp h (fun r σ' ⟨r', s', e1, e2, q⟩ => ?_)
  subst e1 e2
  cases r' with
  | none => exact q
  | some v => rw [show (some v).map (jx_rn (fun a => a)) = some v from by rw [jx_rn_id]; rfl]; exact q
theorem cl_fc_to (h : jc th d j as σ Q) : jx_fc th (fun a => a) (fun σ => σ) d j as σ Q := by
  unfold jx_fc
  rw [jx_map_id]
  refine jc.mp h (fun r σ' q => ⟨r, σ', ?_, rfl, q⟩)
  cases r with
  | none => rfl
  | some v => rw [jx_rn_id]; rfl
theorem cl_go (dt : List jx_D) (n : Nat) (cut : List (Nat × List Nat)) (hdt : dt.all (jx_ck j) = true) (hl : Nat.ble (lg_sl as).length (tb_nl j) = true)
    (h : ∀ (C : Nat → List Value → jx_S → (Option Value → jx_S → Prop) → Prop) (J : Nat → jx_L → List Value → jx_S → Prop), (∀ j as σ Q, jc th d j as σ Q → C j as σ Q) → (∀ pc l st σ, cl_fj th d j pc l st σ Q → J pc l st σ) → jx_wx (jx_hc th) jx_rcc C J dt (tb_nl j) cut Q n 0 (lv_args 0 as) [] σ) : jc th (d + 1) j as σ Q := by
  refine cl_fc_of (jx_fc_of (Nat.le_of_ble_eq_true hl) ?_)
  exact jx_wx_ok (C := fun j as σ Q => jc th d j as σ Q) (List.all_eq_true.mp hdt) rfl jx_hcOK jx_rccOK (fun j as s Q h => cl_fc_to h) (Or.inr (fun x y h => h)) (fun pc l st s h => h) n 0 _ _ σ (h (fun j as σ Q => jc th d j as σ Q) (fun pc l st σ => cl_fj th d j pc l st σ Q) (fun j as σ Q h => h) (fun pc l st σ h => h))
theorem cl_at (dt : List jx_D) (n : Nat) (cut : List (Nat × List Nat)) {pc : Nat} {l : jx_L} {st : List Value} (hdt : dt.all (jx_ck j) = true)
    (h : ∀ (C : Nat → List Value → jx_S → (Option Value → jx_S → Prop) → Prop) (J : Nat → jx_L → List Value → jx_S → Prop), (∀ j as σ Q, jc th d j as σ Q → C j as σ Q) → (∀ pc l st σ, cl_fj th d j pc l st σ Q → J pc l st σ) → jx_wx (jx_hc th) jx_rcc C J dt (tb_nl j) cut Q n pc l st σ) : cl_fj th d j pc l st σ Q :=
  jx_wx_ok (C := fun j as σ Q => jc th d j as σ Q) (List.all_eq_true.mp hdt) rfl jx_hcOK jx_rccOK (fun j as s Q h => cl_fc_to h) (Or.inr (fun x y h => h)) (fun pc l st s h => h) n pc _ _ σ (h (fun j as σ Q => jc th d j as σ Q) (fun pc l st σ => cl_fj th d j pc l st σ Q) (fun j as σ Q h => h) (fun pc l st σ h => h))
end JxClass
