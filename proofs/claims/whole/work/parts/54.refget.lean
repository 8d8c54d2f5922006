/-! THE REFERENCE'S METHODS: what only looks -/
abbrev rfc (th : Nat → Nat) (σ0 : jx_S) (m d j : Nat) (as : List Value) (f : jx_F) (Q : Option Value → jx_F → Prop) : Prop := jx_fc th (rf_g m) (rf σ0 m) d j as f Q
theorem jx_no {c A B : Prop} (h : ¬ c) (b : B) : (c → A) ∧ (¬ c → B) := ⟨fun h' => absurd h' h, fun _ => b⟩
theorem jx_yes {c A B : Prop} (h : c) (a : A) : (c → A) ∧ (¬ c → B) := ⟨fun _ => a, fun h' => absurd h h'⟩
theorem jx_nat_le {c k : Int32} (h2 : c ≤ k) : c.toNatClampNeg ≤ k.toNatClampNeg := Int.toNat_le_toNat (Int32.le_iff_toInt_le.mp h2)
theorem jx_in_le {c k : Int32} {n : Nat} (h1 : 0 ≤ c) (h2 : c ≤ k) (h3 : k.toNatClampNeg < n) : jx_in c n := by
  intro h
  rcases h with h | h
  · exact absurd h (Int32.not_lt.mpr h1)
  · exact absurd (Nat.lt_of_le_of_lt (jx_nat_le h2) h3) (Nat.not_lt.mpr h)
section JxRefget
variable {th : Nat → Nat} {σ0 : jx_S} {m d : Nat} {f : jx_F}
theorem r_in {v lo hi : Int32} : rfc th σ0 m (d + 1) 207 [.int v, .int lo, .int hi] f (fun r f' => ((r = some (.int 1) ∧ lo ≤ v ∧ v ≤ hi) ∨ (r = some (.int 0) ∧ ¬ (lo ≤ v ∧ v ≤ hi))) ∧ f' = f) := by
  refine rf_go dt_207 20 [] dt_207_k (by decide +kernel) rfl ?_
  intro C J hC hJ
  conv => whnf
  refine ⟨fun (h1 : v < lo) => ?_, fun (h1 : ¬ v < lo) => ?_⟩
  · conv => whnf
    exact ⟨Or.inl rfl, Or.inr ⟨rfl, fun h => absurd h1 (Int32.not_lt.mpr h.1)⟩, rfl⟩
  · conv => whnf
    refine ⟨fun (h2 : hi < v) => ?_, fun (h2 : ¬ hi < v) => ?_⟩
    · conv => whnf
      exact ⟨Or.inl rfl, Or.inr ⟨rfl, fun h => absurd h2 (Int32.not_lt.mpr h.2)⟩, rfl⟩
    · conv => whnf
      exact ⟨Or.inr rfl, Or.inl ⟨rfl, Int32.not_lt.mp h1, Int32.not_lt.mp h2⟩, rfl⟩
theorem jx_in_of {j : Int32} {n : Nat} (h1 : 0 ≤ j) (h2 : j.toNatClampNeg < n) : jx_in j n := by
  unfold jx_in
  intro h
  rcases h with h | h
  · exact absurd h (Int32.not_lt.mpr h1)
  · omega
theorem r_waiting {c : Int32} : rfc th σ0 m (d + 2) 270 [.ref 0, .int c] f (fun r f' => ((r = some (.int (f.1 32 c.toNatClampNeg)) ∧ 1 ≤ c ∧ c ≤ 8) ∨ (r = some (.int (-1)) ∧ ¬ (1 ≤ c ∧ c ≤ 8))) ∧ f' = rf_ui f 0 0 0) := by
  refine rf_go dt_270 30 [] dt_270_k (by decide +kernel) rfl ?_
  intro C J hC hJ
  conv => whnf
  refine hC _ _ _ _ (r_in.mp ?_)
  rintro r f' ⟨⟨rfl, h1, h2⟩ | ⟨rfl, h1⟩, rfl⟩
  · conv => whnf
    refine jx_no (show ¬ (1 : Int32) = 0 by decide) ?_
    conv => whnf
    refine ⟨?_, ?_⟩
    · exact jx_in_le (Int32.le_trans (by decide) h1) h2 (by decide)
    conv => whnf
    exact ⟨Or.inl ⟨rfl, h1, h2⟩, rfl⟩
  · conv => whnf
    refine jx_yes (show (0 : Int32) = 0 from rfl) ?_
    conv => whnf
    exact ⟨Or.inr ⟨rfl, h1⟩, rfl⟩
end JxRefget
