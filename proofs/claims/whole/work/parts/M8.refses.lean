/-! THE REFERENCE: which SESSION -/
section JxRefses
variable {th : Nat → Nat} {σ0 : jx_S} {m d S mm : Nat} {f : jx_F} {Q : Option Value → jx_F → Prop}
theorem r_so_l (h40 : (f.1 40 0).toInt = (mm : Int)) (hm : mm ≤ 16) (hS : (f.1 67 0 + f.1 77 0).toInt = (S : Int)) (hS5 : S + (f.1 78 0).toNatClampNeg ≤ 5400) (h41 : ∀ k, k < mm → ∃ N : Nat, (f.1 41 (41 * k)).toInt = (N : Int) ∧ N ≤ 40) : ∀ (r k : Nat), k + r = mm → (R_so f r k ≠ 16 → Q (some (.int (Int32.ofNat (R_so f r k)))) f) → (R_so f r k = 16 → Q (some (.int (-1))) f) → jx_fj th (rf_g m) (rf σ0 m) (d + 1) 252 2 [(0, .ref 0), (1, .int (Int32.ofNat k))] [] f Q
  | 0, k, hk, h1, h0 => by
    refine rf_at dt_252 40 [] dt_252_k (by decide +kernel) ?_
    intro C J hC hJ
    conv => whnf
    refine jx_yes (show f.1 40 0 ≤ Int32.ofNat k by rw [Int32.le_iff_toInt_le, h40, i32_ofNat (by omega)]; omega) ?_
    conv => whnf
    exact h0 rfl
  | r + 1, k, hk, h1, h0 => by
    have hki : (Int32.ofNat k).toInt = (k : Int) := i32_ofNat (by omega)
    have k1 : Int32.ofNat k + Int32.ofInt 1 = Int32.ofNat (k + 1) := nadd rfl (by omega)
    have k41 : (41 * Int32.ofNat k).toInt = ((41 * k : Nat) : Int) := by rw [i32_mul (a := 41) (by decide) hki (by omega) (by omega)]; omega
    have k42 : (41 * Int32.ofNat k + Int32.ofInt 1).toInt = ((41 * k + 1 : Nat) : Int) := i32_k1 (j := 1) k41 (by decide) (by omega)
    obtain ⟨N, hN, hN4⟩ := h41 k (by omega)
    have eS : (f.1 67 0 + f.1 77 0).toNatClampNeg = S := i32_nat hS
    have eW : R_wst f k ↔ R_isT f 0 S 41 (41 * k + 1) (f.1 41 (41 * k)) N := by unfold R_wst; rw [eS, i32_nat hN]
    refine rf_at dt_252 60 [(2, [0, 1])] dt_252_k (by decide +kernel) ?_
    intro C J hC hJ
    conv => whnf
    refine jx_no (show ¬ f.1 40 0 ≤ Int32.ofNat k by rw [Int32.le_iff_toInt_le, h40, hki]; omega) ?_
    conv => whnf
    refine ⟨jx_in_nat k41 (show 41 * k < 656 by omega), ?_⟩
    conv => whnf
    rw [show ((fun x y : Int32 => x * y) 41 (Int32.ofNat k)).toNatClampNeg = 41 * k from i32_nat k41]
    refine hC _ _ _ _ ((r_isText41 (d := d) (k := 0) (S := S) (F := 41 * k + 1) (N := N) (by decide) (by decide) hS (fun e => by have e2 := i32_nat hN; rw [← e] at e2; omega) k42 (by omega) hN).mp ?_)
    rintro r' f1 ⟨hr, hf1⟩
    rw [hf1]
    rcases hr with ⟨rfl, hr⟩ | ⟨rfl, hr⟩
    · have e : R_so f (r + 1) k = k := by
        show @ite _ (R_wst f k) (Classical.propDecidable _) k (R_so f r (k + 1)) = _
        exact if_pos (eW.mpr hr)
      rw [e] at h1
      conv => whnf
      refine jx_no (show ¬ (1 : Int32) = 0 by decide) ?_
      conv => whnf
      exact h1 (by omega)
    · have e : R_so f (r + 1) k = R_so f r (k + 1) := by
        show @ite _ (R_wst f k) (Classical.propDecidable _) k (R_so f r (k + 1)) = _
        exact if_neg (fun z => hr (eW.mp z))
      rw [e] at h1 h0
      have ih := r_so_l h40 hm hS hS5 h41 r (k + 1) (by omega) h1 h0
      rw [← k1] at ih
      conv => whnf
      refine jx_yes (show (0 : Int32) = 0 from rfl) ?_
      conv => whnf
      exact hJ _ _ _ _ ih
theorem r_sessionOf (h40 : (f.1 40 0).toInt = (mm : Int)) (hm : mm ≤ 16) (hS : (f.1 67 0 + f.1 77 0).toInt = (S : Int)) (hS5 : S + (f.1 78 0).toNatClampNeg ≤ 5400) (h41 : ∀ k, k < mm → ∃ N : Nat, (f.1 41 (41 * k)).toInt = (N : Int) ∧ N ≤ 40) : rfc th σ0 m (d + 2) 252 [.ref 0] f (fun r f' => ((R_so f mm 0 ≠ 16 ∧ r = some (.int (Int32.ofNat (R_so f mm 0)))) ∨ (R_so f mm 0 = 16 ∧ r = some (.int (-1)))) ∧ f' = f) := by
  refine rf_go dt_252 20 [(2, [0, 1])] dt_252_k (by decide +kernel) rfl ?_
  intro C J hC hJ
  conv => whnf
  exact hJ _ _ _ _ (r_so_l (d := d) h40 hm hS hS5 h41 mm 0 (by omega) (fun y => ⟨Or.inl ⟨y, rfl⟩, rfl⟩) (fun y => ⟨Or.inr ⟨y, rfl⟩, rfl⟩))
end JxRefses
