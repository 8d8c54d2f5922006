/-! THE REFERENCE: a GRANT -/
def R_uok (f : jx_F) (k : Nat) : Prop := ¬ f.1 k 0 = 0 → ∃ b x : Nat, (f.1 67 0).toInt = (b : Int) ∧ (f.1 k 0).toInt = (x : Int) ∧ b + x + 7 < 5400
def R_gw (f : jx_F) (i : Nat) : Int64 := if (R_un f 83 1000).toInt < (R_fre f i).toInt then R_un f 83 1000 else R_fre f i
section JxRefgrant
variable {th : Nat → Nat} {σ0 : jx_S} {m d n s i k : Nat} {f : jx_F} {iv sv pv : Int32} {v : Int64} {Q : Option Value → jx_F → Prop}
theorem r_units (h : R_uok f k) : rfc th σ0 m (d + 4) 247 [.ref 0, .int (f.1 k 0), .long v] f (fun r f' => r = some (.long (R_un f k v)) ∧ f' = f) := by
  refine rf_go dt_247 20 [] dt_247_k (by decide +kernel) rfl ?_
  intro C J hC hJ
  conv => whnf
  unfold R_un
  refine ⟨fun (h1 : ¬ f.1 k 0 = 0) => ?_, fun (h1 : ¬ ¬ f.1 k 0 = 0) => ?_⟩
  · obtain ⟨b, x, y1, y2, y3⟩ := h h1
    rw [if_neg h1, i32_nat y1, i32_nat y2]
    conv => whnf
    refine hC _ _ _ _ ((r_number8 (d := d) y1 y2 y3).mp ?_)
    rintro r f1 ⟨rfl, hf1⟩
    conv => whnf
    exact ⟨rfl, hf1⟩
  · rw [if_pos (Decidable.not_not.mp h1)]
    conv => whnf
    exact ⟨rfl, rfl⟩
end JxRefgrant
