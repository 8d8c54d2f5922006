/-! THE CLASS: an ACCOUNT is made -/
section JxAccount2
variable {th : Nat → Nat} {B b d : Nat} {xl : List Int32} {σ : jx_S} {f : jx_F} {A : Nat → Nat → Nat} {G : Nat → Nat → Int32} {T : Nat → Nat} {n v : Int64} {x X : Nat}
theorem k_accInit {v0 v1 v2 v3 : Value} (h : σ.1 X = some (.inr (10, [v0, v1, v2, v3]))) : jc th (d + 1) 169 [.ref X, .long n, .long v] σ (fun r σ' => r = none ∧ σ' = jx_up (jx_up σ X (.inr (10, [.long n, v1, v2, v3]))) X (.inr (10, [.long n, .long v, v2, v3]))) := by
  refine cl_go dt_169 20 [] dt_169_k rfl ?_
  intro C J hC hJ
  conv => whnf
  refine ⟨_, jx_putB h rfl (fit_l _), ?_⟩
  conv => whnf
  refine ⟨_, jx_putB jx_up_eq rfl (fit_l _), ?_⟩
  conv => whnf
  exact ⟨rfl, rfl⟩
/-- the path that makes one -/
theorem k_account (hX : σ.1 B = some (cx_e B f (A 0 0) (G 0 0))) (hL : σ.1 (B + 6) = some (.inr (2, [.ref (B + 7), .ref (B + 8)]))) (hB : B + 102 ≤ σ.2.1) (hth : th 1 < B) (hS : σ.1 (th 1) = some jx_co) (hx16 : x < 16) (hal : al_at th B σ T (B + 7) (A 70 3) 73 ((List.range x).map (A 10))) (ha : ∀ i, i < x → dy B σ T (A 10 i) (3000 + i) ∧ σ.1 (A 10 i) = some (ca_e f i)) (hbad : ¬ acBad n v) (hno : R_ac f n x 0 = 16) : jc th (d + 8) 168 [.ref B, .long n, .long v] σ (fun r σ' => r = some (.int (Int32.ofNat (x + 1))) ∧ ∃ (E' : Nat) (T' : Nat → Nat), al_at th B σ' T' (B + 7) E' 73 ((List.range x).map (A 10) ++ [σ.2.1]) ∧ σ'.1 σ.2.1 = some (.inr (10, [.long n, .long v, .long 0, .long 0])) ∧ T' σ.2.1 = 3000 + x ∧ chg (fun a => a = B + 7 ∨ (a = A 70 3 ∧ B + 102 ≤ a)) σ σ' T T' ∧ σ.2.1 + 1 ≤ σ'.2.1 ∧ σ'.2.1 ≤ σ.2.1 + 2 ∧ σ'.2.2 ≤ σ.2.2 + 204) := by
  have hal0 := hal
  obtain ⟨⟨mc, h1⟩, hE⟩ := hal
  rw [List.length_map, List.length_range] at h1
  obtain ⟨σ1, hs1⟩ : ∃ σ1, σ1 = jx_mk σ (.inr (10, tb_df 10)) 4 := ⟨_, rfl⟩
  obtain ⟨σ2, hs2⟩ : ∃ σ2, σ2 = jx_up (jx_up σ1 σ.2.1 (.inr (10, [.long n, .long 0, .long 0, .long 0]))) σ.2.1 (.inr (10, [.long n, .long v, .long 0, .long 0])) := ⟨_, rfl⟩
  have hold : ∀ a, a ≠ σ.2.1 → σ2.1 a = σ.1 a := fun a h => by rw [hs2, jx_up_ne h, jx_up_ne h, hs1, jx_mk_ne h]
  have hnew : σ2.1 σ.2.1 = some (.inr (10, [.long n, .long v, .long 0, .long 0])) := by rw [hs2]; exact jx_up_eq
  have hn2 : σ2.2.1 = σ.2.1 + 1 ∧ σ2.2.2 = σ.2.2 + 4 := by rw [hs2, hs1]; exact ⟨rfl, rfl⟩
  obtain ⟨T2, hT2⟩ : ∃ T2 : Nat → Nat, T2 = fun a => if a = σ.2.1 then 3000 + x else T a := ⟨_, rfl⟩
  have hT2o : ∀ a, a ≠ σ.2.1 → T2 a = T a := fun a h => by rw [hT2]; exact if_neg h
  have hch : chg (fun _ => False) σ σ2 T T2 := ⟨fun a h _ => hold a (by omega), by omega, fun a h => hT2o a (by omega)⟩
  have hal2 : al_at th B σ2 T2 (B + 7) (A 70 3) 73 ((List.range x).map (A 10)) := hch.al (by omega) (fun z => z) (fun _ _ z => z) hal0
  have hk := k_accountNumbered (th := th) (d := d) (v := n) hL (by omega) hal0 (fun i hi => (ha i hi).2)
  have hadd := k_add (th := th) (d := d) (x := σ.2.1) hal2 (by omega) (by omega) (by omega) hth (by rw [hold _ (by omega)]; exact hS) hnew (by omega) (by decide) (by omega) (by rw [List.length_map, List.length_range]; omega) (fun i y hy => by
    obtain ⟨hi, e⟩ := List.getElem?_eq_some_iff.mp hy
    rw [List.length_map, List.length_range] at hi
    have e2 : A 10 i = y := by simpa using e
    obtain ⟨e3, e4⟩ := ha i hi
    rw [e2] at e3 e4
    have h5 := e3.1
    have h6 := e3.2.1
    exact ⟨by omega, by omega, _, _, by rw [hold y (by omega)]; exact e4, by decide⟩)
  refine cl_go dt_168 80 [] dt_168_k rfl ?_
  intro C J hC hJ
  conv => whnf
  refine jx_no (fun z => hbad (Or.inl z)) ?_
  conv => whnf
  refine jx_no (fun z => hbad (Or.inr (Or.inl z))) ?_
  conv => whnf
  refine jx_no (fun z => hbad (Or.inr (Or.inr (Or.inl z)))) ?_
  conv => whnf
  refine jx_yes (Int32.not_lt.mp (fun z => hbad (Or.inr (Or.inr (Or.inr z))))) ?_
  conv => whnf
  refine ⟨_, jx_getF_of hX rfl, ?_⟩
  conv => whnf
  refine ⟨jx_isC_of hL, hC _ _ _ _ ((hk.up (by omega)).mp ?_)⟩
  rintro r σ3 ⟨hcs, hs3⟩
  rw [hs3]
  rcases hcs with ⟨h5, -⟩ | ⟨-, rfl⟩
  · exact absurd hno h5
  conv => whnf
  refine ⟨_, jx_getF_of hX rfl, ?_⟩
  conv => whnf
  refine ⟨_, jx_getF_of hL rfl, ?_⟩
  conv => whnf
  refine ⟨jx_isC_of h1, hC _ _ _ _ (((k_size (d := d) h1).up (by omega)).mp ?_)⟩
  rintro r σ4 ⟨rfl, hs4⟩
  rw [hs4]
  conv => whnf
  refine jx_yes (show Int32.ofNat x < 16 by rw [Int32.lt_iff_toInt_lt, i32_ofNat (by omega)]; simp; omega) ?_
  conv => whnf
  refine ⟨_, jx_getF_of hX rfl, ?_⟩
  conv => whnf
  refine ⟨_, jx_getF_of hL rfl, ?_⟩
  conv => whnf
  rw [← hs1]
  have h10 : σ1.1 σ.2.1 = some (.inr (10, [.long 0, .long 0, .long 0, .long 0])) := by rw [hs1]; exact jx_mk_eq
  refine hC _ _ _ _ (((k_accInit (d := d) h10).up (by omega)).mp ?_)
  rintro r σ5 ⟨rfl, hs5⟩
  rw [← hs2] at hs5
  rw [hs5]
  conv => whnf
  have h1' : σ2.1 (B + 7) = some (.inr (1, [.ref (A 70 3), .int (Int32.ofNat x), .int mc])) := by rw [hold _ (by omega)]; exact h1
  refine ⟨jx_isC_of h1', hC _ _ _ _ ((hadd.up (by omega)).mp ?_)⟩
  rintro r σ6 ⟨rfl, E', T', a1, a2, a3, a4, a5, a6⟩
  have c1 : ∀ a, a ≠ B + 7 → a < σ.2.1 + 1 → ¬ (a = A 70 3 ∧ B + 102 ≤ a) → σ6.1 a = σ2.1 a := fun a e1 e2 e3 => a2.1 a (by omega) (fun z => z.elim e1 e3)
  have hX6 : σ6.1 B = some (cx_e B f (A 0 0) (G 0 0)) := by rw [c1 B (by omega) (by omega) (by omega), hold _ (by omega)]; exact hX
  have hL6 : σ6.1 (B + 6) = some (.inr (2, [.ref (B + 7), .ref (B + 8)])) := by rw [c1 _ (by omega) (by omega) (by omega), hold _ (by omega)]; exact hL
  have a1' := a1
  obtain ⟨⟨mc6, h16⟩, -⟩ := a1
  conv => whnf
  refine ⟨_, jx_getF_of hX6 rfl, ?_⟩
  conv => whnf
  refine ⟨_, jx_getF_of hL6 rfl, ?_⟩
  conv => whnf
  refine ⟨jx_isC_of h16, hC _ _ _ _ (((k_size (d := d) h16).up (by omega)).mp ?_)⟩
  rintro r σ7 ⟨rfl, hs7⟩
  rw [hs7]
  conv => whnf
  have hEx : ¬ (σ.2.1 = A 70 3 ∧ B + 102 ≤ σ.2.1) := fun z => by
    rcases hE with ⟨e, -⟩ | ⟨e, -⟩
    · omega
    · have := e.2.1; omega
  refine ⟨?_, E', T', a1', by rw [c1 _ (by omega) (by omega) hEx]; exact hnew, ?_, ⟨fun a e1 e2 => ?_, by have := a2.2.1; omega, fun a e1 => ?_⟩, by have := a2.2.1; omega, by omega, by omega⟩
  · rw [List.length_append, List.length_map, List.length_range]
    rfl
  · rw [a2.2.2 _ (by omega), hT2]
    exact if_pos rfl
  · rw [c1 a (fun z => e2 (Or.inl z)) (by omega) (fun z => e2 (Or.inr z)), hold a (by omega)]
  · rw [a2.2.2 a (by omega), hT2o a (by omega)]
end JxAccount2
