/-! THE REFERENCE: account -/
def acBad (n b : Int64) : Prop := lg_cmp n 1 < 0 ∨ 0 < lg_cmp n 99999999999999999 ∨ lg_cmp b 0 < 0 ∨ 0 < lg_cmp b 1152921504606846976
def R_acc (f : jx_F) (x : Nat) (n b : Int64) : jx_F := rf_ui (rf_ul (rf_ul (rf_ui f 0 0 0) 36 x n) 37 x b) 35 0 (f.1 35 0 + 1)
section JxAccount
variable {th : Nat → Nat} {σ0 : jx_S} {m d : Nat} {f : jx_F} {n b : Int64} {x : Nat}
theorem r_account (hx : (f.1 35 0).toInt = (x : Int)) (hx16 : x ≤ 16) : rfc th σ0 m (d + 2) 273 [.ref 0, .long n, .long b] f (fun r f' => (acBad n b ∧ r = some (.int (-2)) ∧ f' = rf_ui f 0 0 0) ∨ (¬ acBad n b ∧ ((R_ac f n x 0 ≠ 16 ∧ r = some (.int (-3)) ∧ f' = rf_ui f 0 0 0) ∨ (R_ac f n x 0 = 16 ∧ ((x = 16 ∧ r = some (.int (-4)) ∧ f' = rf_ui f 0 0 0) ∨ (x < 16 ∧ r = some (.int (f.1 35 0 + 1)) ∧ f' = R_acc f x n b)))))) := by
  have hxn := i32_nat hx
  refine rf_go dt_273 80 [] dt_273_k (by decide +kernel) rfl ?_
  intro C J hC hJ
  conv => whnf
  refine ⟨fun (h1 : lg_cmp n 1 < 0) => ?_, fun (h1 : ¬ lg_cmp n 1 < 0) => ?_⟩
  · conv => whnf
    exact Or.inl ⟨Or.inl h1, rfl, rfl⟩
  · conv => whnf
    refine ⟨fun (h2 : 0 < lg_cmp n 99999999999999999) => ?_, fun (h2 : ¬ 0 < lg_cmp n 99999999999999999) => ?_⟩
    · conv => whnf
      exact Or.inl ⟨Or.inr (Or.inl h2), rfl, rfl⟩
    · conv => whnf
      refine ⟨fun (h3 : lg_cmp b 0 < 0) => ?_, fun (h3 : ¬ lg_cmp b 0 < 0) => ?_⟩
      · conv => whnf
        exact Or.inl ⟨Or.inr (Or.inr (Or.inl h3)), rfl, rfl⟩
      · conv => whnf
        refine ⟨fun (h4 : lg_cmp b 1152921504606846976 ≤ 0) => ?_, fun (h4 : ¬ lg_cmp b 1152921504606846976 ≤ 0) => ?_⟩
        · have hb : ¬ acBad n b := fun z => by
            rcases z with z | z | z | z
            · exact h1 z
            · exact h2 z
            · exact h3 z
            · exact absurd z (Int32.not_lt.mpr h4)
          conv => whnf
          refine hC _ _ _ _ ((r_accountOf (n := x) (by rw [rf_ui_ne (by simp)]; exact hx) hx16).mp ?_)
          rintro r f1 ⟨hcs, hf1⟩
          rw [R_ac_0] at hcs
          rw [hf1]
          rcases hcs with ⟨h5, rfl⟩ | ⟨h5, rfl⟩
          · have hr := R_ac_r x 0 h5
            conv => whnf
            refine jx_no (show ¬ Int32.ofNat (R_ac f n x 0) < 0 by rw [Int32.lt_iff_toInt_lt, i32_ofNat (by omega)]; simp) ?_
            conv => whnf
            exact Or.inr ⟨hb, Or.inl ⟨h5, rfl, rfl⟩⟩
          · conv => whnf
            refine jx_yes (show (-1 : Int32) < 0 by decide) ?_
            conv => whnf
            refine ⟨fun (h6 : ¬ f.1 35 0 = 16) => ?_, fun (h6 : ¬ ¬ f.1 35 0 = 16) => ?_⟩
            · have hlt : x < 16 := by
                rcases Nat.lt_or_ge x 16 with h7 | h7
                · exact h7
                · exact absurd (Int32.toInt_inj.mp (by rw [hx, show x = 16 by omega]; decide)) h6
              have hin : jx_in (f.1 35 0) 16 := jx_in_nat hx hlt
              conv => whnf
              refine ⟨hin, ?_⟩
              conv => whnf
              refine ⟨hin, ?_⟩
              conv => whnf
              refine Or.inr ⟨hb, Or.inr ⟨h5, Or.inr ⟨hlt, ?_, ?_⟩⟩⟩
              · rfl
              · unfold R_acc
                rw [← hxn]
                rfl
            · conv => whnf
              refine Or.inr ⟨hb, Or.inr ⟨h5, Or.inl ⟨?_, rfl, rfl⟩⟩⟩
              have h7 := congrArg Int32.toInt (Decidable.not_not.mp h6)
              rw [hx] at h7
              have e16 : (16 : Int32).toInt = 16 := by decide
              omega
        · conv => whnf
          exact Or.inl ⟨Or.inr (Or.inr (Or.inr (Int32.not_le.mp h4))), rfl, rfl⟩
end JxAccount
