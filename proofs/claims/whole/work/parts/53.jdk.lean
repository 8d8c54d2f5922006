/-! THE JDK'S METHODS: lists and rows -/
section JxJdk
variable {th : Nat → Nat} {d : Nat} {σ : jx_S} {Q : Option Value → jx_S → Prop} {a : Nat}
theorem k_absC : jc th (d + 1) 4 [.ref a] σ (fun r σ' => r = none ∧ σ' = σ) := by
  refine cl_go dt_4 10 [] dt_4_k (by decide +kernel) ?_
  intro C J hC hJ
  conv => whnf
  exact ⟨rfl, rfl⟩
theorem k_absL {v0 v1 v2 : Value} (h : σ.1 a = some (.inr (1, [v0, v1, v2]))) : jc th (d + 2) 3 [.ref a] σ (fun r σ' => r = none ∧ σ' = jx_up σ a (.inr (1, [v0, v1, .int 0]))) := by
  refine cl_go dt_3 10 [] dt_3_k (by decide +kernel) ?_
  intro C J hC hJ
  conv => whnf
  refine hC _ _ _ _ (k_absC.mp ?_)
  rintro r σ' ⟨rfl, rfl⟩
  conv => whnf
  exact ⟨_, jx_putF_of h (by decide) rfl, rfl, rfl⟩
end JxJdk
