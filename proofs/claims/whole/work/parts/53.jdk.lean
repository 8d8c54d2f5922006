/-! THE JDK'S METHODS: lists and rows -/
theorem jx_putB {σ : jx_S} {a ci k : Nat} {fs : List Value} {v : Value} (h : σ.1 a = some (.inr (ci, fs))) (hk : Nat.blt k fs.length = true) (hf : jx_fit (tb_tt ci k) v = true) : jx_putF σ a ci k v = some (jx_up σ a (.inr (ci, fs.set k v))) := jx_putF_of h (Nat.le_of_ble_eq_true hk) hf
section JxJdk
variable {th : Nat → Nat} {d : Nat} {σ : jx_S} {Q : Option Value → jx_S → Prop} {a : Nat}
theorem k_absC : jc th (d + 1) 4 [.ref a] σ (fun r σ' => r = none ∧ σ' = σ) := by
  refine cl_go dt_4 10 [] dt_4_k rfl ?_
  intro C J hC hJ
  conv => whnf
  exact ⟨rfl, rfl⟩
theorem k_absL {v0 v1 v2 : Value} (h : σ.1 a = some (.inr (1, [v0, v1, v2]))) : jc th (d + 2) 3 [.ref a] σ (fun r σ' => r = none ∧ σ' = jx_up σ a (.inr (1, [v0, v1, .int 0]))) := by
  refine cl_go dt_3 10 [] dt_3_k rfl ?_
  intro C J hC hJ
  conv => whnf
  refine hC _ _ _ _ (k_absC.mp ?_)
  rintro r σ' ⟨rfl, rfl⟩
  conv => whnf
  exact ⟨_, jx_putB h rfl rfl, rfl, rfl⟩
end JxJdk
