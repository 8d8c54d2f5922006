/-! THE PAIR account -/
section JxAccount3
variable {th : Nat → Nat} {B b d : Nat} {xl : List Int32} {σ : jx_S} {f : jx_F} {A : Nat → Nat → Nat} {G : Nat → Nat → Int32} {T : Nat → Nat} {n v : Int64} {x k : Nat}
theorem k_account_bad (hbad : acBad n v) : jc th (d + 1) 168 [.ref B, .long n, .long v] σ (fun r σ' => r = some (.int (-2)) ∧ σ' = σ) := by
  refine cl_go dt_168 80 [] dt_168_k rfl ?_
  intro C J hC hJ
  conv => whnf
  refine ⟨fun _ => ?_, fun h1 => ?_⟩
  · conv => whnf
    exact ⟨rfl, rfl⟩
  · conv => whnf
    refine ⟨fun _ => ?_, fun h2 => ?_⟩
    · conv => whnf
      exact ⟨rfl, rfl⟩
    · conv => whnf
      refine ⟨fun _ => ?_, fun h3 => ?_⟩
      · conv => whnf
        exact ⟨rfl, rfl⟩
      · conv => whnf
        refine ⟨fun h4 => ?_, fun _ => ?_⟩
        · exfalso
          rcases hbad with z | z | z | z
          · exact h1 z
          · exact h2 z
          · exact h3 z
          · exact absurd z (Int32.not_lt.mpr h4)
        · conv => whnf
          exact ⟨rfl, rfl⟩
theorem k_account_no (hX : σ.1 B = some (cx_e B f (A 0 0) (G 0 0))) (hL : σ.1 (B + 6) = some (.inr (2, [.ref (B + 7), .ref (B + 8)]))) (hx16 : x ≤ 16) (hal : al_at th B σ T (B + 7) (A 70 3) 73 ((List.range x).map (A 10))) (ha : ∀ i, i < x → σ.1 (A 10 i) = some (ca_e f i)) (hbad : ¬ acBad n v) (hno : R_ac f n x 0 ≠ 16 ∨ x = 16) : jc th (d + 5) 168 [.ref B, .long n, .long v] σ (fun r σ' => ((R_ac f n x 0 ≠ 16 ∧ r = some (.int (-3))) ∨ (R_ac f n x 0 = 16 ∧ r = some (.int (-4)))) ∧ σ' = σ) := by
  have hk := k_accountNumbered (th := th) (d := d) (v := n) hL hx16 hal ha
  obtain ⟨⟨mc, h1⟩, -⟩ := hal
  rw [List.length_map, List.length_range] at h1
  refine cl_go dt_168 80 [] dt_168_k rfl ?_
  intro C J hC hJ
  conv => whnf
  refine jx_no (fun z => hbad (Or.inl z)) ?_
  conv => whnf
  refine jx_no (fun z => hbad (Or.inr (Or.inl z))) ?_
  conv => whnf
  refine jx_no (fun z => hbad (Or.inr (Or.inr (Or.inl z)))) ?_
  conv => whnf
  refine jx_yes (Int32.not_lt.mp (fun z => hbad (Or.inr (Or.inr (Or.inr z))))) ?_
  conv => whnf
  refine ⟨_, jx_getF_of hX rfl, ?_⟩
  conv => whnf
  refine ⟨jx_isC_of hL, hC _ _ _ _ (hk.mp ?_)⟩
  rintro r σ3 ⟨hcs, hs3⟩
  rw [hs3]
  rcases hcs with ⟨h5, rfl⟩ | ⟨h5, rfl⟩
  · conv => whnf
    exact ⟨Or.inl ⟨h5, rfl⟩, rfl⟩
  · have ex : x = 16 := hno.elim (fun z => absurd h5 z) (fun z => z)
    conv => whnf
    refine ⟨_, jx_getF_of hX rfl, ?_⟩
    conv => whnf
    refine ⟨_, jx_getF_of hL rfl, ?_⟩
    conv => whnf
    refine ⟨jx_isC_of h1, hC _ _ _ _ (((k_size (d := d) h1).up (by omega)).mp ?_)⟩
    rintro r σ4 ⟨rfl, hs4⟩
    rw [hs4]
    conv => whnf
    refine jx_no (show ¬ Int32.ofNat x < 16 by rw [ex]; decide) ?_
    conv => whnf
    exact ⟨Or.inr ⟨h5, rfl⟩, rfl⟩
end JxAccount3
