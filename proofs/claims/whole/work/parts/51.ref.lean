/-! THE REFERENCE'S METHODS, by their tables -/
section JxRef
variable {th : Nat → Nat} {σ0 : jx_S} {m d j nl n : Nat} {dt : List jx_D} {cut : List (Nat × List Nat)} {as : List Value} {f : jx_F} {Q : Option Value → jx_F → Prop}
theorem rf_go (dt : List jx_D) (n : Nat) (cut : List (Nat × List Nat)) (hdt : dt.all (jx_ck j) = true) (h4 : dt.all (fun q => Nat.beq q.2.2.2.1 4 == false) = true) (hl : Nat.ble (lg_sl as).length (tb_nl j) = true)
    (h : ∀ (C : Nat → List Value → jx_F → (Option Value → jx_F → Prop) → Prop) (J : Nat → jx_L → List Value → jx_F → Prop), (∀ j as f Q, jx_fc th (rf_g m) (rf σ0 m) d j as f Q → C j as f Q) → (∀ pc l st f, jx_fj th (rf_g m) (rf σ0 m) d j pc l st f Q → J pc l st f) → jx_wx rf_hp rf_rc C J dt (tb_nl j) cut Q n 0 (lv_args 0 as) [] f) : jx_fc th (rf_g m) (rf σ0 m) (d + 1) j as f Q := by
  refine jx_fc_of (Nat.le_of_ble_eq_true hl) ?_
  refine jx_wx_ok (List.all_eq_true.mp hdt) rfl rf_hpOK rf_rcOK (fun j as s Q h => h) (Or.inl (fun q hq e => ?_)) (fun pc l st s h => h) n 0 _ _ f (h (fun j as f Q => jx_fc th (rf_g m) (rf σ0 m) d j as f Q) (fun pc l st f => jx_fj th (rf_g m) (rf σ0 m) d j pc l st f Q) (fun j as f Q h => h) (fun pc l st f h => h))
  have := List.all_eq_true.mp h4 q hq
  rw [e] at this
  exact absurd this (by decide)
theorem rf_at (dt : List jx_D) (n : Nat) (cut : List (Nat × List Nat)) {pc : Nat} {l : jx_L} {st : List Value} (hdt : dt.all (jx_ck j) = true) (h4 : dt.all (fun q => Nat.beq q.2.2.2.1 4 == false) = true)
    (h : ∀ (C : Nat → List Value → jx_F → (Option Value → jx_F → Prop) → Prop) (J : Nat → jx_L → List Value → jx_F → Prop), (∀ j as f Q, jx_fc th (rf_g m) (rf σ0 m) d j as f Q → C j as f Q) → (∀ pc l st f, jx_fj th (rf_g m) (rf σ0 m) d j pc l st f Q → J pc l st f) → jx_wx rf_hp rf_rc C J dt (tb_nl j) cut Q n pc l st f) : jx_fj th (rf_g m) (rf σ0 m) d j pc l st f Q := by
  refine jx_wx_ok (List.all_eq_true.mp hdt) rfl rf_hpOK rf_rcOK (fun j as s Q h => h) (Or.inl (fun q hq e => ?_)) (fun pc l st s h => h) n pc _ _ f (h (fun j as f Q => jx_fc th (rf_g m) (rf σ0 m) d j as f Q) (fun pc l st f => jx_fj th (rf_g m) (rf σ0 m) d j pc l st f Q) (fun j as f Q h => h) (fun pc l st f h => h))
  have := List.all_eq_true.mp h4 q hq
  rw [e] at this
  exact absurd this (by decide)
theorem r_clock : jx_fc th (rf_g m) (rf σ0 m) (d + 1) 268 [.ref 0] f (fun r f' => r = some (.int (f.1 1 0)) ∧ f' = rf_ui f 0 0 0) := by
  refine rf_go dt_268 10 [] dt_268_k (by decide +kernel) (by decide +kernel) ?_
  intro C J hC hJ
  conv => whnf
  exact ⟨rfl, rfl⟩
end JxRef
