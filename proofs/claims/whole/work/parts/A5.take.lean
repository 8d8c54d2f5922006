/-! THE PAIR take -/
theorem fit_i (x : Int32) : jx_fit .int (.int x) = true := by simp [jx_fit, narrow, fits]
theorem fit_l (x : Int64) : jx_fit .long (.long x) = true := by simp [jx_fit, narrow, fits]
theorem fit_z {x : Int32} (h : x = 0 ∨ x = 1) : jx_fit .boolean (.int x) = true := by rcases h with rfl | rfl <;> rfl
theorem fit_o {C : String} (v : Value) (h : jx_isR v = true) : jx_fit (.object C) v = true := by
  cases v <;> first | (cases h; done) | simp [jx_fit, narrow, fits]
theorem fit_a {ty : FieldType} (v : Value) (h : jx_isR v = true) : jx_fit (.array ty) v = true := by
  cases v <;> first | (cases h; done) | simp [jx_fit, narrow, fits]
def R_take (f : jx_F) (c : Nat) : jx_F := rf_ui (rf_ui (rf_ui f 0 0 0) 33 c (f.1 33 c + 1 - (f.1 33 c + 1) / 2000 * 2000)) 32 c (f.1 32 c - 1)
section JxTake
variable {th : Nat → Nat} {B b d m : Nat} {xl : List Int32} {σ σ0 : jx_S} {f : jx_F} {A : Nat → Nat → Nat} {G : Nat → Nat → Int32} {T : Nat → Nat} {P : jx_S → Prop}
theorem r_take {c : Int32} {cN a z : Nat} (hc : c.toInt = (cN : Int)) (h1 : 1 ≤ cN) (h8 : cN ≤ 8) (ha : (f.1 33 cN).toInt = (a : Int)) (ha2 : a < 2000) (hz : (f.1 32 cN).toInt = (z : Int)) (hz2 : z ≤ 2000) : rfc th σ0 m (d + 2) 269 [.ref 0, .int c] f (fun r f' => (z = 0 ∧ r = some (.int (-2)) ∧ f' = rf_ui f 0 0 0) ∨ (z ≠ 0 ∧ r = some (.int (f.1 31 (2000 * cN + a) &&& 255)) ∧ f' = R_take f cN)) := by
  have hcn := i32_nat hc
  have hin : jx_in c 9 := jx_in_nat hc (show cN < 9 by omega)
  have hix : (2000 * c + f.1 33 cN).toInt = ((2000 * cN + a : Nat) : Int) := by
    have h3 : (2000 * c).toInt = ((2000 * cN : Nat) : Int) := by rw [i32_mul (a := 2000) (by decide) hc (by omega) (by omega)]; omega
    rw [i32_add h3 ha (by omega) (by omega)]; omega
  refine rf_go dt_269 60 [] dt_269_k (by decide +kernel) rfl ?_
  intro C J hC hJ
  conv => whnf
  refine hC _ _ _ _ (r_in.mp ?_)
  rintro r f1 ⟨hcs, hf1⟩
  rw [hf1]
  rcases hcs with ⟨rfl, -⟩ | ⟨rfl, hno⟩
  · conv => whnf
    refine jx_yes (show ¬ (1 : Int32) = 0 by decide) ?_
    conv => whnf
    refine ⟨hin, ?_⟩
    conv => whnf
    try rw [hcn]
    refine ⟨fun (h2 : ¬ f.1 32 cN = 0) => ?_, fun (h2 : ¬ ¬ f.1 32 cN = 0) => ?_⟩
    · conv => whnf
      refine ⟨hin, ?_⟩
      conv => whnf
      try rw [hcn]
      refine ⟨jx_in_nat hix (show 2000 * cN + a < 18000 by omega), ?_⟩
      conv => whnf
      refine ⟨hin, ?_⟩
      conv => whnf
      try rw [hcn]
      refine ⟨hin, ?_⟩
      conv => whnf
      try rw [hcn]
      refine ⟨hin, ?_⟩
      conv => whnf
      try rw [hcn]
      refine ⟨hin, ?_⟩
      conv => whnf
      try rw [hcn]
      refine Or.inr ⟨fun e => h2 ((i32_z hz).mpr e), ?_, rfl⟩
      rw [← i32_nat hix]
      rfl
    · conv => whnf
      exact Or.inl ⟨(i32_z hz).mp (Decidable.not_not.mp h2), rfl, rfl⟩
  · refine absurd ⟨?_, ?_⟩ hno
    · rw [Int32.le_iff_toInt_le, hc]; simp; omega
    · rw [Int32.le_iff_toInt_le, hc]; simp; omega
theorem jx_ild_of {a n t k : Nat} {h : Nat → Int32} {j : Int32} {ts : List Nat} (hs : σ.1 a = some (.inl (t, n, .inl h))) (ht : t ∈ ts) (hj : j.toInt = (k : Int)) (hk : k < n) : jx_ild σ ts a j = some (.int (h k)) := by
  unfold jx_ild
  rw [hs]
  have h0 : ¬ j < 0 := by rw [Int32.lt_iff_toInt_lt, hj]; simp
  simp only
  rw [if_pos ⟨ht, fun z => by rcases z with z | z; exact h0 z; rw [i32_nat hj] at z; omega⟩, i32_nat hj]
/-- nothing waits -/
theorem k_take0 {k : Nat} (hC1 : σ.1 (B + 14 + 3 * k) = some (cc_e f A G k)) (hz : f.1 32 (k + 1) = 0) : jc th (d + 1) 164 [.ref (B + 14 + 3 * k)] σ (fun r σ' => r = some (.int (-2)) ∧ σ' = σ) := by
  refine cl_go dt_164 60 [] dt_164_k rfl ?_
  intro C J hC hJ
  conv => whnf
  refine ⟨_, jx_getF_of hC1 rfl, ?_⟩
  conv => whnf
  refine jx_yes (show f.1 32 (k + 1) ≤ 0 by rw [hz]; decide) ?_
  conv => whnf
  exact ⟨rfl, rfl⟩
theorem k_take1 {k a z : Nat} {h : Nat → Int32} {g : jx_F} (hC1 : σ.1 (B + 14 + 3 * k) = some (cc_e f A G k)) (hO : σ.1 (A 52 k) = some (.inl (0, 2000, .inl h))) (ha : (f.1 33 (k + 1)).toInt = (a : Int)) (ha2 : a < 2000) (hz : (f.1 32 (k + 1)).toInt = (z : Int)) (hz0 : z ≠ 0) (hg : cc_e g A G k = .inr (5, [.int (Int32.ofNat (k + 1)), .int (f.1 26 (k + 1)), va_rf (cp_ref A (f.1 27 (k + 1))), .int (f.1 28 (k + 1)), .int (f.1 30 (k + 1)), .int (f.1 32 (k + 1) - 1), .int (G 1 k), .int (if a + 1 = 2000 then 0 else f.1 33 (k + 1) + 1), .ref (A 51 k), .ref (A 52 k)])) : jc th (d + 1) 164 [.ref (B + 14 + 3 * k)] σ (fun r σ' => r = some (.int (h a &&& 255)) ∧ σ'.1 (B + 14 + 3 * k) = some (cc_e g A G k) ∧ (∀ q, q ≠ B + 14 + 3 * k → σ'.1 q = σ.1 q) ∧ σ'.2 = σ.2) := by
  refine cl_go dt_164 80 [] dt_164_k rfl ?_
  intro C J hC hJ
  conv => whnf
  refine ⟨_, jx_getF_of hC1 rfl, ?_⟩
  conv => whnf
  refine jx_no (show ¬ f.1 32 (k + 1) ≤ 0 by rw [Int32.le_iff_toInt_le, hz]; simp; omega) ?_
  conv => whnf
  refine ⟨_, jx_getF_of hC1 rfl, ?_⟩
  conv => whnf
  refine jx_no (show ¬ f.1 33 (k + 1) < 0 by rw [Int32.lt_iff_toInt_lt, ha]; simp) ?_
  conv => whnf
  refine ⟨_, jx_getF_of hC1 rfl, ?_⟩
  conv => whnf
  refine ⟨_, jx_getF_of hC1 rfl, ?_⟩
  conv => whnf
  refine ⟨_, jx_al_of hO, ?_⟩
  conv => whnf
  refine jx_yes (show f.1 33 (k + 1) < Int32.ofNat 2000 by rw [Int32.lt_iff_toInt_lt, ha, i32_ofNat (by omega)]; omega) ?_
  conv => whnf
  refine ⟨_, jx_getF_of hC1 rfl, ?_⟩
  conv => whnf
  refine ⟨_, jx_getF_of hC1 rfl, ?_⟩
  conv => whnf
  refine ⟨_, jx_ild_of hO (by decide) ha ha2, ?_⟩
  conv => whnf
  refine ⟨_, jx_getF_of hC1 rfl, ?_⟩
  conv => whnf
  refine ⟨_, jx_getF_of hC1 rfl, ?_⟩
  conv => whnf
  refine ⟨_, jx_al_of hO, ?_⟩
  conv => whnf
  have ha1 : (f.1 33 (k + 1) + 1).toInt = ((a + 1 : Nat) : Int) := by rw [i32_add (c := 1) ha (by decide) (by omega) (by omega)]; omega
  have e2000 : (Int32.ofNat 2000).toInt = 2000 := i32_ofNat (by omega)
  refine ⟨fun (h1 : ¬ f.1 33 (k + 1) + 1 = Int32.ofNat 2000) => ?_, fun (h1 : ¬ ¬ f.1 33 (k + 1) + 1 = Int32.ofNat 2000) => ?_⟩
  · have hne : ¬ a + 1 = 2000 := fun e => h1 (Int32.toInt_inj.mp (by rw [ha1, e2000]; omega))
    rw [if_neg hne] at hg
    conv => whnf
    refine ⟨_, jx_getF_of hC1 rfl, ?_⟩
    conv => whnf
    refine ⟨_, jx_putB hC1 rfl (fit_i _), ?_⟩
    conv => whnf
    refine ⟨_, jx_getF_of jx_up_eq rfl, ?_⟩
    conv => whnf
    refine ⟨_, jx_putB jx_up_eq rfl (fit_i _), ?_⟩
    conv => whnf
    refine ⟨rfl, ?_, fun q hq => by rw [jx_up_ne hq, jx_up_ne hq], rfl⟩
    rw [hg]
    exact jx_up_eq
  · have he : a + 1 = 2000 := by
      have h2 := congrArg Int32.toInt (Decidable.not_not.mp h1)
      rw [ha1, e2000] at h2
      omega
    rw [if_pos he] at hg
    conv => whnf
    refine ⟨_, jx_putB hC1 rfl (fit_i _), ?_⟩
    conv => whnf
    refine ⟨_, jx_getF_of jx_up_eq rfl, ?_⟩
    conv => whnf
    refine ⟨_, jx_putB jx_up_eq rfl (fit_i _), ?_⟩
    conv => whnf
    refine ⟨rfl, ?_, fun q hq => by rw [jx_up_ne hq, jx_up_ne hq], rfl⟩
    rw [hg]
    exact jx_up_eq
end JxTake
