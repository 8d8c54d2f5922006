/-! THE INTERPRETER is right: the loop, and every method -/
theorem jx_newo_mono {σ σ' : jx_S} {ci : Nat} {v : Value} (h : jx_newo σ ci = some (v, σ')) : σ.2.1 ≤ σ'.2.1 ∧ σ.2.2 ≤ σ'.2.2 := by
  unfold jx_newo at h
  split at h
  · cases h
    exact ⟨Nat.le_succ _, Nat.le_add_right _ _⟩
  · cases h
theorem jx_newa_mono {σ σ' : jx_S} {t : Nat} {n : Int32} {v : Value} (h : jx_newa σ t n = some (v, σ')) : σ.2.1 ≤ σ'.2.1 ∧ σ.2.2 ≤ σ'.2.2 := by
  obtain ⟨-, -, -, rfl⟩ := jx_newa_some h
  exact ⟨Nat.le_succ _, Nat.le_add_right _ _⟩
theorem jx_clone_mono {σ σ' : jx_S} {a t : Nat} {v : Value} (h : jx_clone σ a t = some (v, σ')) : σ.2.1 ≤ σ'.2.1 ∧ σ.2.2 ≤ σ'.2.2 := by
  unfold jx_clone at h
  split at h
  · split at h
    · cases h
      exact ⟨Nat.le_succ _, Nat.le_add_right _ _⟩
    · cases h
  · cases h
theorem jx_eqm {σ σ' : jx_S} (h : σ'.2 = σ.2) : σ.2.1 ≤ σ'.2.1 ∧ σ.2.2 ≤ σ'.2.2 := by rw [h]; exact ⟨Nat.le_refl _, Nat.le_refl _⟩
theorem jx_bs_mono {b : Nat} {st st' : List Value} {σ σ' : jx_S} (h : jx_bs b st σ = some (st', σ')) : σ.2.1 ≤ σ'.2.1 ∧ σ.2.2 ≤ σ'.2.2 := by
  unfold jx_bs at h
  split at h <;> (try (cases h; done)) <;> split at h <;> (try (cases h; done)) <;> split at h <;> (try (cases h; done))
  all_goals first | (cases h; exact ⟨Nat.le_refl _, Nat.le_refl _⟩) | (obtain ⟨x, eg, h⟩ := Option.map_eq_some_iff.mp h; cases h; exact jx_eqm (jx_copy_sz eg))
theorem jx_bv_mono {th : Nat → Nat} {b : Nat} {st st' : List Value} {σ σ' : jx_S} (h : jx_bv th b st σ = some (st', σ')) : σ.2.1 ≤ σ'.2.1 ∧ σ.2.2 ≤ σ'.2.2 := by
  unfold jx_bv at h
  split at h
  · split at h
    · split at h
      · obtain ⟨x, eg, h⟩ := Option.map_eq_some_iff.mp h; cases h; exact jx_clone_mono eg
      · cases h
    · cases h
  · split at h
    · split at h
      · obtain ⟨x, eg, h⟩ := Option.map_eq_some_iff.mp h; cases h; exact jx_clone_mono eg
      · cases h
    · cases h
  · split at h
    · split at h
      · split at h
        · split at h
          · cases h; exact ⟨Nat.le_refl _, Nat.le_refl _⟩
          · cases h
        · cases h
      · cases h
    · cases h
  · cases h
set_option maxHeartbeats 4000000 in
theorem jx_hp_mono {th : Nat → Nat} {i len : Nat} {ins : Instr} {st st' : List Value} {σ σ' : jx_S} (h : jx_hp th i ins len st σ = some (st', σ')) : σ.2.1 ≤ σ'.2.1 ∧ σ.2.2 ≤ σ'.2.2 := by
  have rf : σ.2.1 ≤ σ.2.1 ∧ σ.2.2 ≤ σ.2.2 := ⟨Nat.le_refl _, Nat.le_refl _⟩
  unfold jx_hp at h
  split at h
  · split at h
    · split at h
      · obtain ⟨q, ef, h⟩ := Option.bind_eq_some_iff.mp h
        obtain ⟨v, eg, h⟩ := Option.map_eq_some_iff.mp h
        cases h; exact rf
      · cases h
    · cases h
  · split at h
    · split at h
      · obtain ⟨q, ef, h⟩ := Option.bind_eq_some_iff.mp h
        split at h
        · obtain ⟨v, eg, h⟩ := Option.map_eq_some_iff.mp h
          cases h; exact jx_eqm (jx_putF_sz eg)
        · cases h
      · cases h
    · cases h
  · split at h
    · obtain ⟨v, eg, h⟩ := Option.map_eq_some_iff.mp h
      cases h; exact rf
    · cases h
  · split at h
    · obtain ⟨q, ef, h⟩ := Option.bind_eq_some_iff.mp h
      obtain ⟨v, eg, h⟩ := Option.map_eq_some_iff.mp h
      cases h; exact jx_newo_mono eg
    · cases h
  · split at h
    · split at h
      · obtain ⟨q, ef, h⟩ := Option.bind_eq_some_iff.mp h
        obtain ⟨v, eg, h⟩ := Option.map_eq_some_iff.mp h
        cases h; exact jx_newa_mono eg
      · cases h
    · cases h
  · split at h
    · split at h
      · obtain ⟨q, ef, h⟩ := Option.bind_eq_some_iff.mp h
        obtain ⟨v, eg, h⟩ := Option.map_eq_some_iff.mp h
        cases h; exact jx_newa_mono eg
      · cases h
    · cases h
  · split at h
    · split at h
      · obtain ⟨v, eg, h⟩ := Option.map_eq_some_iff.mp h
        cases h; exact rf
      · cases h
    · cases h
  · split at h
    · split at h
      · obtain ⟨v, eg, h⟩ := Option.map_eq_some_iff.mp h
        cases h; exact rf
      · cases h
    · cases h
  · split at h
    · split at h
      · obtain ⟨v, eg, h⟩ := Option.map_eq_some_iff.mp h
        cases h; exact rf
      · cases h
    · cases h
  · split at h
    · split at h
      · obtain ⟨v, eg, h⟩ := Option.map_eq_some_iff.mp h
        cases h; exact rf
      · cases h
    · cases h
  · split at h
    · split at h
      · obtain ⟨v, eg, h⟩ := Option.map_eq_some_iff.mp h
        cases h; exact rf
      · cases h
    · cases h
  · split at h
    · split at h
      · obtain ⟨v, eg, h⟩ := Option.map_eq_some_iff.mp h
        cases h; exact jx_eqm (jx_ist_sz eg)
      · cases h
    · cases h
  · split at h
    · split at h
      · obtain ⟨v, eg, h⟩ := Option.map_eq_some_iff.mp h
        cases h; exact jx_eqm (jx_bst_sz eg)
      · cases h
    · cases h
  · split at h
    · split at h
      · obtain ⟨v, eg, h⟩ := Option.map_eq_some_iff.mp h
        cases h; exact jx_eqm (jx_lst_sz eg)
      · cases h
    · cases h
  · split at h
    · split at h
      · obtain ⟨v, eg, h⟩ := Option.map_eq_some_iff.mp h
        cases h; exact jx_eqm (jx_ast_sz eg)
      · cases h
    · cases h
  · split at h
    · split at h
      · cases h; exact rf
      · cases h
    · cases h
  · split at h
    · split at h
      · cases h; exact rf
      · split at h
        · cases h; exact rf
        · cases h
    · cases h
  · split at h
    · obtain ⟨v, eg, h⟩ := Option.map_eq_some_iff.mp h
      cases h; exact rf
    · cases h
  · split at h
    · obtain ⟨v, eg, h⟩ := Option.map_eq_some_iff.mp h
      cases h; exact rf
    · cases h
  · split at h
    · obtain ⟨q, ef, h⟩ := Option.bind_eq_some_iff.mp h
      exact jx_bs_mono h
    · cases h
  · split at h
    · split at h
      · cases h; exact rf
      · cases h
    · cases h
  · split at h
    · obtain ⟨q, ef, h⟩ := Option.bind_eq_some_iff.mp h
      exact jx_bv_mono h
    · cases h
  · cases h
theorem jx_cl_lt {i len j : Nat} {ins : Instr} {st as rest : List Value} {σ : jx_S} (h : jx_cl i ins len st σ = some (j, as, rest)) : j < 282 ∧ plainName (tb_y j).cls = true := by
  have go : ∀ (idx : Nat) (kds : List Nat), ((tb_inv (tb_ow i) idx).bind (fun q => match q with
    | (kd, j, n, ci) => if kd ∈ kds ∧ n ≤ st.length then
        (if kd = 2 then (if jx_sm (st.drop n) ≤ 8 then some (j, (st.take n).reverse, st.drop n) else none) else
          (match st.drop n with
          | .ref b :: r => if jx_sm r ≤ 8 ∧ (((kd = 1 ∨ kd = 5) ∧ tb_ret j = none) ∨ ((kd = 0 ∨ kd = 3 ∨ kd = 4) ∧ jx_isC σ b ci = true)) then some (j, .ref b :: (st.take n).reverse, r) else none
          | _ => none)) else none)) = some (j, as, rest) → j < 282 ∧ plainName (tb_y j).cls = true := by
    intro idx kds h
    obtain ⟨q, hf, h⟩ := Option.bind_eq_some_iff.mp h
    obtain ⟨kd, j', n, ci⟩ := q
    obtain ⟨hj, hpl, -⟩ := jx_IF_of hf
    simp only at h
    split at h
    · split at h
      · split at h
        · cases h; exact ⟨hj, hpl⟩
        · cases h
      · split at h
        · split at h
          · cases h; exact ⟨hj, hpl⟩
          · cases h
        · cases h
    · cases h
  unfold jx_cl at h
  simp only at h
  split at h
  · split at h
    · exact go _ _ h
    · cases h
  · split at h
    · exact go _ _ h
    · cases h
  · split at h
    · exact go _ _ h
    · cases h
  · split at h
    · exact go _ _ h
    · cases h
  · cases h
