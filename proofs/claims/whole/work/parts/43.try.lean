theorem to_162 : tb_ow 162 = 0 := by rfl
theorem t_fld : tb_fld 0 166 = some (0, 3) := by decide +kernel
theorem t_clock {th : Nat → Nat} {σ : jx_S} {a : Nat} {fs : List Value} {now : Int32} (h : σ.1 a = some (.inr (0, fs))) (hn : fs[3]? = some (.int now)) : jc th 1 162 [.ref a] σ (fun r σ' => r = some (.int now) ∧ σ' = σ) := by
  refine jc.of (Nat.le_of_ble_eq_true rfl) ?_
  refine jw_pure (l' := [(0, .ref a)]) (st' := [.ref a]) dd_162_0 rfl rfl ?_
  refine jw_getf dd_162_1 to_162 t_fld (jx_getF_of h hn) ?_
  exact jw_iret dd_162_4 (by rfl) ⟨rfl, rfl⟩
