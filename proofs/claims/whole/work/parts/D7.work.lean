/-! A PAIR OF CALLS that changes the states of PEERS -/
section JxWork
variable {th : Nat → Nat} {B b jx jm m d k c : Nat} {xl : List Int32} {σ σ0 : jx_S} {f f' : jx_F} {A : Nat → Nat → Nat} {G : Nat → Nat → Int32} {T : Nat → Nat} {as : List Value}
theorem scr_lt {q : Nat} (h1 : q < 65) (h0 : q ≠ 0) : rf_scr q = false := by
  unfold rf_scr
  have e1 : Nat.beq q 0 = false := by
    cases q with
    | zero => exact absurd rfl h0
    | succ q => rfl
  have e2 : Nat.ble 65 q = false := Bool.eq_false_iff.mpr (fun z => by have := Nat.le_of_ble_eq_true z; omega)
  rw [e1, e2]
  rfl
theorem RelC.un (hR : RelC th B b xl σ (fN f) A G T) : RelC th B b xl σ (rf_ui f 0 0 0) A G T :=
  hR.eqf (fun q j h1 h2 _ => by rw [fN_i (scr_lt h1 h2), rf_ui_ne (fun e => h2 e.1)]) (fun q j h1 h2 => by rw [fN_l (scr_lt (by omega) (by omega))]; rfl)
theorem RelC.nrm (hR : RelC th B b xl σ f A G T) : RelC th B b xl σ (fN f) A G T :=
  hR.eqf (fun q j h1 h2 _ => fN_i (scr_lt h1 h2)) (fun q j h1 h2 => fN_l (scr_lt (by omega) (by omega)))
theorem PI.un (hI : PI (fN f) G k) : PI (rf_ui f 0 0 0) G k := by
  have e : ∀ q j, q < 65 → q ≠ 0 → (rf_ui f 0 0 0).1 q j = (fN f).1 q j := fun q j h1 h2 => by rw [fN_i (scr_lt h1 h2), rf_ui_ne (fun e => h2 e.1)]
  obtain ⟨n, a, hg, -⟩ := id hI
  refine hI.of (hg.1.of (e 6 0 (by omega) (by omega)) (fun c => e 33 c (by omega) (by omega)) (fun c => e 32 c (by omega) (by omega))) (fun q j hq => e q j ?_ ?_) (fun q j hq => ?_)
  · simp only [List.mem_cons, List.not_mem_nil, or_false] at hq; omega
  · simp only [List.mem_cons, List.not_mem_nil, or_false] at hq; omega
  · rw [fN_l (scr_lt (by omega) (by omega))]; rfl
theorem PI.nrm (hI : PI f G k) : PI (fN f) G k := by
  have e : ∀ q j, q < 65 → q ≠ 0 → (fN f).1 q j = f.1 q j := fun q j h1 h2 => fN_i (scr_lt h1 h2)
  obtain ⟨n, a, hg, -⟩ := id hI
  refine hI.of (hg.1.of (e 6 0 (by omega) (by omega)) (fun c => e 33 c (by omega) (by omega)) (fun c => e 32 c (by omega) (by omega))) (fun q j hq => e q j ?_ ?_) (fun q j hq => ?_)
  · simp only [List.mem_cons, List.not_mem_nil, or_false] at hq; omega
  · simp only [List.mem_cons, List.not_mem_nil, or_false] at hq; omega
  · exact fN_l (scr_lt (by omega) (by omega))
/-- the reference's place stays; what a call may take of the room -/
def kpr (B : Nat) (A A' : Nat → Nat → Nat) (σ σ' : jx_S) : Prop := (∀ a, B + 39 ≤ a → a < B + 102 → σ'.1 a = σ.1 a) ∧ σ.2.1 ≤ σ'.2.1 ∧ σ'.2.1 + 2 * ngr A' B 8 ≤ σ.2.1 + 2 * ngr A B 8 + 100 ∧ σ'.2.2 + 2600 * ngr A' B 8 ≤ σ.2.2 + 2600 * ngr A B 8 + 13000
theorem kpa.kr {A' : Nat → Nat → Nat} {σ' : jx_S} (h : kpa B A A' σ σ') : kpr B A A' σ σ' := ⟨h.1, h.2.2.1, by have := h.2.2.2.1; omega, by have := h.2.2.2.2; omega⟩
theorem kp.kr {σ' : jx_S} (h : kp B σ σ') : kpr B A A σ σ' := (kpa.kp h).kr
/-- the class does to its part what the reference does to its state -/
theorem pair_work {w : Int32} (has : as.map (jx_rn (rf_g (B + 39))) = as) (hR : Rel th B b xl σ f A G T) (hI : PI (fN f) G k) (h1 : σ.2.1 + 2 * ngr A B 8 ≤ B + 118 + 100 * k) (h2 : σ.2.2 + 2600 * ngr A B 8 ≤ 81000 + 13000 * k) (hQ : KQ f)
    (hc : RW th B b xl σ (rf_ui f 0 0 0) A T → jc th 30 jx (.ref B :: as) σ (fun r σ1 => r = some (.int w) ∧ ∃ A' T', RW th B b xl σ1 f' A' T' ∧ kpr B A A' σ σ1))
    (hr : ∀ σ0, rfc th σ0 (B + 39) 30 jm (.ref 0 :: as) f (fun r f'' => r = some (.int w) ∧ f'' = f')) (hP : ∀ G', f'.1 2 0 = lsum G' 8 → PI f' G' (k + 1)) (hK : KQ (rf_ui f 0 0 0) → KQ f') : pcI th b B (B + 39) xl jx jm as σ (Inv th B b xl (k + 1)) := by
  have hl : (rf_ui f 0 0 0).1 2 0 = lsum G 8 := by
    obtain ⟨n, a, -, -, -, -, -, -, h7, -⟩ := hI
    rw [rf_ui_ne (by omega)]
    rw [fN_i rfl] at h7
    exact h7
  refine pair_i (w := w) (f := f) (f' := f') has ((hc ⟨G, hR.2.un, hl⟩).mp ?_) hr
  rintro r σ1 ⟨rfl, A', T', ⟨G', hR1, hl1⟩, q1, q3, q4, q5⟩
  refine ⟨rfl, rf_keep hR.1 (fun u u1 u2 => q1 u (by omega) (by omega)), q3, A', G', T', hR1.nrm, f', A', G', T', ⟨rf_rf.symm, hR1.nrm.rf⟩, (hP G' hl1).nrm, ?_, ?_, hK (hQ.of (fun q j hq => rf_ui_ne (by omega)))⟩
  · show σ1.2.1 + 2 * ngr A' B 8 ≤ _; omega
  · exact Nat.le_trans (show σ1.2.2 + 2600 * ngr A' B 8 ≤ _ from q5) (Nat.le_trans (Nat.add_le_add_right h2 13000) (by rw [Nat.mul_succ, Nat.add_assoc]; exact Nat.le_refl _))
theorem R_least_eq (h : ∀ c, f'.1 26 c = f.1 26 c) : ∀ r q, R_least f' r q = R_least f r q
  | 0, _ => rfl
  | r + 1, q => by
    unfold R_least
    rw [h, R_least_eq h r]
theorem r_accept : rfc th σ0 m (d + 2) 205 [.ref 0] f (fun r f' => (R_least (rf_ui f 0 0 0) 8 1 ≠ 0 ∧ r = some (.int (Int32.ofNat (R_least (rf_ui f 0 0 0) 8 1))) ∧ f' = R_fresh (rf_ui f 0 0 0) (R_least (rf_ui f 0 0 0) 8 1) 2) ∨ (R_least (rf_ui f 0 0 0) 8 1 = 0 ∧ r = some (.int (-4)) ∧ f' = rf_ui f 0 0 0)) := by
  refine rf_go dt_205 40 [] dt_205_k (by decide +kernel) rfl ?_
  intro C J hC hJ
  conv => whnf
  refine hC _ _ _ _ (r_fresh.mp ?_)
  rintro r f1 (⟨h1, rfl, hf1⟩ | ⟨h1, rfl, hf1⟩)
  · obtain ⟨h2, h3, -⟩ := R_least_r (f := rf_ui f 0 0 0) 8 1 h1
    conv => whnf
    refine jx_no (show ¬ Int32.ofNat (R_least (rf_ui f 0 0 0) 8 1) ≤ 0 by rw [Int32.le_iff_toInt_le, i32_ofNat (by omega), show (0 : Int32).toInt = 0 by decide]; omega) ?_
    conv => whnf
    exact Or.inl ⟨h1, rfl, hf1⟩
  · conv => whnf
    refine jx_yes (show (0 : Int32) ≤ 0 by decide) ?_
    conv => whnf
    exact Or.inr ⟨h1, rfl, hf1⟩
theorem pair_accept (hR : Rel th B b xl σ f A G T) (hI : PI (fN f) G k) (h1 : σ.2.1 + 2 * ngr A B 8 ≤ B + 118 + 100 * k) (h2 : σ.2.2 + 2600 * ngr A B 8 ≤ 81000 + 13000 * k) (hQ : KQ f) : lawp_4 th b B (B + 39) xl σ (Inv th B b xl (k + 1)) := by
  have hI0 := hI.un
  by_cases h0 : R_least (rf_ui f 0 0 0) 8 1 = 0
  · refine pair_work (w := -4) (f' := rf_ui f 0 0 0) rfl hR hI h1 h2 hQ (fun hW => ?_) (fun σ0 => ((r_accept (d := 28)).mp ?_)) (fun G' hl => ?_) (fun h => h)
    · obtain ⟨G1, hR1, hl1⟩ := id hW
      refine cl_go dt_45 40 [] dt_45_k rfl ?_
      intro C J hC hJ
      conv => whnf
      refine ⟨jx_isC_of hR1.X, hC _ _ _ _ (((k_leastClosed (d := 28) hR1).up (by omega)).mp ?_)⟩
      rintro r s1 ⟨hcs, hs1⟩
      rw [hs1]
      rcases hcs with ⟨h3, -⟩ | ⟨-, rfl⟩
      · exact absurd h0 h3
      · conv => whnf
        exact ⟨rfl, A, T, hW, kpa.rf.kr⟩
    · rintro r f1 (⟨h3, -⟩ | ⟨-, h3, h4⟩)
      · exact absurd h0 h3
      · exact ⟨h3, h4⟩
    · exact hI0.fin (G' := G') (fun n a h => h) (fun _ _ _ _ => rfl) (fun _ _ => ⟨rfl, rfl⟩) hl rfl ⟨Int.le_refl _, by omega⟩ (fun _ _ _ => rfl) (fun _ _ _ => rfl)
  · obtain ⟨g1, g2, g3⟩ := R_least_r (f := rf_ui f 0 0 0) 8 1 h0
    obtain ⟨c, hc⟩ : ∃ c, R_least (rf_ui f 0 0 0) 8 1 = c + 1 := ⟨R_least (rf_ui f 0 0 0) 8 1 - 1, by omega⟩
    rw [hc] at g1 g2 g3
    refine pair_work (w := Int32.ofNat (c + 1)) (f' := R_fresh (rf_ui f 0 0 0) (c + 1) 2) rfl hR hI h1 h2 hQ (fun hW => ?_) (fun σ0 => ((r_accept (d := 28)).mp ?_)) (fun G' hl => ?_) (fun h => h.of (fun q j hq => fresh_o q j (fun z => by have := z.1; simp only [List.mem_cons, List.not_mem_nil, or_false] at this; omega)))
    · obtain ⟨G1, hR1, hl1⟩ := id hW
      refine cl_go dt_45 40 [] dt_45_k rfl ?_
      intro C J hC hJ
      conv => whnf
      refine ⟨jx_isC_of hR1.X, hC _ _ _ _ (((k_leastClosed (d := 28) hR1).up (by omega)).mp ?_)⟩
      rintro r s1 ⟨hcs, hs1⟩
      rw [hs1]
      rcases hcs with ⟨-, rfl⟩ | ⟨h3, -⟩
      · rw [hc, show c + 1 - 1 = c by omega]
        conv => whnf
        refine ⟨jx_isC_of (hR1.2.2.1 c (by omega)).1, hC _ _ _ _ (((k_giveAnew (d := 28) (s := 2) hR1 (c := c) (by omega)).up (by omega)).mp ?_)⟩
        rintro r s2 ⟨rfl, A', T', hR2, hk2⟩
        conv => whnf
        refine ⟨_, jx_getF_of ((hR2.2.2.1 c (by omega)).1) rfl, ?_⟩
        conv => whnf
        refine ⟨rfl, A', T', ⟨G1, hR2, ?_⟩, hk2.kr⟩
        rw [fresh_o 2 0 (fun z => by have := z.1; revert this; decide)]
        exact hl1
      · exact absurd h3 h0
    · rintro r f1 (⟨-, h3, h4⟩ | ⟨h3, -⟩)
      · rw [hc] at h3 h4
        exact ⟨h3, h4⟩
      · exact absurd h3 h0
    · have o := fresh_o (f := rf_ui f 0 0 0) (c := c) (s := 2)
      have no : ∀ q : Nat, ¬ (26 ≤ q ∧ q ≤ 33) → ∀ j, (R_fresh (rf_ui f 0 0 0) (c + 1) 2).1 q j = (rf_ui f 0 0 0).1 q j := fun q hq j => o q j (fun e => by have := e.1; simp only [List.mem_cons, List.not_mem_nil, or_false] at this; omega)
      exact hI0.fin (G' := G') (fun n a h => h.fresh (by omega) g3 rfl) (fun q p _ hq => no q (by simp only [List.mem_cons, List.not_mem_nil, or_false] at hq; omega) p) (fun i _ => ⟨no 55 (by omega) i, rfl⟩) hl (no 1 (by omega) 0) (by rw [no 34 (by omega)]; exact ⟨Int.le_refl _, by omega⟩) (fun q j hq => no q (by simp only [List.mem_cons, List.not_mem_nil, or_false] at hq; omega) j) (fun _ _ _ => rfl)
end JxWork
