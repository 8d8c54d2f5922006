/-! THE REFERENCE: a message on a connection that belongs to no PEER -/
def R_hS (f : jx_F) : Nat := (f.1 67 0 + f.1 77 1).toNatClampNeg
def R_pmt (f : jx_F) (k : Nat) : Prop := R_isT f 1 (R_hS f) 8 (40 * k) (f.1 9 k) (f.1 9 k).toNatClampNeg
/-- the last PEER below k whose name the message bears -/
noncomputable def R_pm (f : jx_F) : Nat → Option Nat
  | 0 => none
  | k + 1 => @ite _ (R_pmt f k) (Classical.propDecidable _) (some k) (R_pm f k)
def pmv (x : Option Nat) : Int32 := match x with
  | none => -1
  | some p => Int32.ofNat p
def R_bad (f : jx_F) (x : Option Nat) : Int32 := match x with
  | none => 3010
  | some p => if f.1 80 0 = 0 then 5010 else if 2 < f.1 11 p then 3004 else 0
def R_acc1 (f : jx_F) (c : Nat) (cv : Int32) (p : Nat) : jx_F := rf_ui (rf_ui (rf_ui (rf_ui (rf_ui (rf_ui f 27 c (Int32.ofNat p + 1)) 28 c 2) 14 p cv) 23 p (f.1 69 0)) 24 p (f.1 72 0)) 25 p (f.1 73 0)
noncomputable def R_str2 (f : jx_F) (n a p : Nat) : jx_F := if f.1 11 p = 0 then R_become (R_answerCame f p) n a p 5 else if f.1 11 p = 1 then R_become f n a p 3 else R_choose f n a p
noncomputable def R_str1 (f : jx_F) (n a c : Nat) (cv : Int32) (x : Option Nat) : jx_F := match x with
  | none => R_shut (R_ansW f cv 3010) c
  | some p => if 0 < R_bad f (some p) then R_shut (R_ansW f cv (R_bad f (some p))) c else R_str2 (R_acc1 f c cv p) n a p
noncomputable def R_strange (f : jx_F) (n a c : Nat) (cv : Int32) : jx_F := if f.1 69 0 &&& 128 = 0 ∨ (f.1 74 0 = 0 ∧ ¬ f.1 70 0 = 257) then R_shut (rf_ui f 2 0 (f.1 2 0 + 1)) c else if 0 < f.1 74 0 then R_shut (R_refuse f cv) c else R_str1 f n a c cv (R_pm f n)
section JxRefstr
variable {th : Nat → Nat} {σ0 : jx_S} {m d n a c : Nat} {f : jx_F} {cv kv hv : Int32} {Q : Option Value → jx_F → Prop}
theorem R_pm_s : ∀ (k p : Nat), R_pm f k = some p → p < k ∧ R_pmt f p
  | 0, _, h => by cases h
  | k + 1, p, h => by
    unfold R_pm at h
    split at h
    · rename_i z
      cases h
      exact ⟨by omega, z⟩
    · have := R_pm_s k p h
      exact ⟨by omega, this.2⟩
theorem R_pm_n : ∀ k : Nat, R_pm f k = none → ∀ p, p < k → ¬ R_pmt f p
  | 0, _, p, hp => by omega
  | k + 1, h, p, hp => by
    unfold R_pm at h
    split at h
    · cases h
    · rename_i z
      by_cases e : p = k
      · rw [e]; exact z
      · exact R_pm_n k h p (by omega)
theorem r_isOurs : rfc th σ0 m (d + 2) 237 [.ref 0, .int kv, .int hv] f (fun r f' => ((r = some (.int 1) ∧ f.1 69 0 &&& 128 = 0 ∧ f.1 70 0 = kv ∧ f.1 72 0 = hv) ∨ (r = some (.int 0) ∧ ¬ (f.1 69 0 &&& 128 = 0 ∧ f.1 70 0 = kv ∧ f.1 72 0 = hv))) ∧ f' = f) := by
  refine rf_go dt_237 40 [] dt_237_k (by decide +kernel) rfl ?_
  intro C J hC hJ
  conv => whnf
  refine hC _ _ _ _ ((r_isRequest (d := d)).mp ?_)
  rintro r f1 ⟨hr, hf1⟩
  rw [hf1]
  rcases hr with ⟨rfl, h1⟩ | ⟨rfl, h1⟩
  · conv => whnf
    refine jx_no (show ¬ ¬ (0 : Int32) = 0 by decide) ?_
    conv => whnf
    refine ⟨fun (h2 : ¬ f.1 70 0 = kv) => ?_, fun (h2 : ¬ ¬ f.1 70 0 = kv) => ?_⟩
    · conv => whnf
      exact ⟨by decide, Or.inr ⟨rfl, fun z => h2 z.2.1⟩, rfl⟩
    conv => whnf
    refine ⟨fun (h3 : ¬ f.1 72 0 = hv) => ?_, fun (h3 : ¬ ¬ f.1 72 0 = hv) => ?_⟩
    · conv => whnf
      exact ⟨by decide, Or.inr ⟨rfl, fun z => h3 z.2.2⟩, rfl⟩
    · conv => whnf
      exact ⟨by decide, Or.inl ⟨rfl, h1, Decidable.not_not.mp h2, Decidable.not_not.mp h3⟩, rfl⟩
  · conv => whnf
    refine jx_yes (show ¬ (1 : Int32) = 0 by decide) ?_
    conv => whnf
    exact ⟨by decide, Or.inr ⟨rfl, fun z => h1 z.1⟩, rfl⟩
theorem r_str_l (hS : (f.1 67 0 + f.1 77 1).toInt = (R_hS f : Int)) (hS5 : R_hS f + (f.1 78 1).toNatClampNeg ≤ 5400) (h7 : (f.1 7 0).toInt = (n : Int)) (hn : n ≤ 4) (h9 : ∀ p, p < n → ∃ N : Nat, (f.1 9 p).toInt = (N : Int) ∧ N ≤ 40) : ∀ (r k : Nat), k + r = n → jx_fj th (rf_g m) (rf σ0 m) (d + 1) 231 104 [(0, .ref 0), (1, .int cv), (2, .int (pmv (R_pm f n)))] [] f Q → jx_fj th (rf_g m) (rf σ0 m) (d + 1) 231 62 [(0, .ref 0), (1, .int cv), (2, .int (pmv (R_pm f k))), (3, .int (Int32.ofNat k))] [] f Q
  | 0, k, hk, h => by
    have ek : k = n := by omega
    rw [ek]
    refine rf_at dt_231 40 [(104, [0, 1, 2])] dt_231_k (by decide +kernel) ?_
    intro C J hC hJ
    conv => whnf
    refine jx_yes (show f.1 7 0 ≤ Int32.ofNat n by rw [Int32.le_iff_toInt_le, h7, i32_ofNat (by omega)]; omega) ?_
    conv => whnf
    exact hJ _ _ _ _ h
  | r + 1, k, hk, h => by
    have hki : (Int32.ofNat k).toInt = (k : Int) := i32_ofNat (by omega)
    have k1 : Int32.ofNat k + Int32.ofInt 1 = Int32.ofNat (k + 1) := nadd rfl (by omega)
    have k40 : (40 * Int32.ofNat k).toInt = ((40 * k : Nat) : Int) := by rw [i32_mul (a := 40) (by decide) hki (by omega) (by omega)]; omega
    obtain ⟨N, hN, hN4⟩ := h9 k (by omega)
    have ih := r_str_l hS hS5 h7 hn h9 r (k + 1) (by omega) h
    rw [← k1] at ih
    refine rf_at dt_231 60 [(62, [0, 1, 2, 3])] dt_231_k (by decide +kernel) ?_
    intro C J hC hJ
    conv => whnf
    refine jx_no (show ¬ f.1 7 0 ≤ Int32.ofNat k by rw [Int32.le_iff_toInt_le, h7, hki]; omega) ?_
    conv => whnf
    refine ⟨jx_in_nat hki (show k < 4 by omega), ?_⟩
    conv => whnf
    rw [i32_nat hki]
    refine hC _ _ _ _ ((r_isText8 (d := d) (k := 1) (S := R_hS f) (F := 40 * k) (N := N) (by decide) (by decide) hS (fun e => by have e2 := i32_nat hN; rw [← e] at e2; omega) k40 (by omega) hN).mp ?_)
    rintro r' f1 ⟨hr, hf1⟩
    rw [hf1]
    have eN : R_pmt f k ↔ R_isT f 1 (R_hS f) 8 (40 * k) (f.1 9 k) N := by unfold R_pmt; rw [i32_nat hN]
    rcases hr with ⟨rfl, hr⟩ | ⟨rfl, hr⟩
    · have e : R_pm f (k + 1) = some k := by unfold R_pm; exact if_pos (eN.mpr hr)
      rw [e] at ih
      conv => whnf
      refine jx_no (show ¬ (1 : Int32) = 0 by decide) ?_
      conv => whnf
      exact hJ _ _ _ _ ih
    · have e : R_pm f (k + 1) = R_pm f k := by
        show @ite _ (R_pmt f k) (Classical.propDecidable _) (some k) (R_pm f k) = _
        exact if_neg (fun z => hr (eN.mp z))
      rw [e] at ih
      conv => whnf
      refine jx_yes (show (0 : Int32) = 0 from rfl) ?_
      conv => whnf
      exact hJ _ _ _ _ ih
end JxRefstr
