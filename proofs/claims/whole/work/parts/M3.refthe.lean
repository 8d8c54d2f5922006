/-! THE REFERENCE: an answer to an ASK -/
def R_tmt (f : jx_F) (cv : Int32) (p i : Nat) : Bool := decide (f.2 53 i = 0 ∧ f.1 58 i = cv ∧ f.1 54 i = Int32.ofNat p ∧ (f.1 69 0 &&& 128 = 0 ∧ f.1 70 0 = 258 ∧ f.1 72 0 = f.1 56 i))
def R_tset (f : jx_F) (i : Nat) : jx_F := rf_ul f 53 i (if (R_n4 f 7).toInt64 &&& 4294967295 = 0 then 1 else (R_n4 f 7).toInt64 &&& 4294967295)
def R_ta (f : jx_F) (cv : Int32) (p : Nat) : Nat → Nat → jx_F
  | 0, _ => rf_ui f 2 0 (f.1 2 0 + 1)
  | r + 1, i => if f.1 74 0 = 0 then (if R_tmt f cv p i = true then R_tset f i else R_ta f cv p r (i + 1)) else rf_ui f 2 0 (f.1 2 0 + 1)
section JxRefthe
variable {th : Nat → Nat} {σ0 : jx_S} {m d n a c p : Nat} {f : jx_F} {cv pv : Int32} {Q : Option Value → jx_F → Prop}
theorem r_the_x (h : Q none (rf_ui f 2 0 (f.1 2 0 + 1))) : jx_fj th (rf_g m) (rf σ0 m) d 261 108 [(0, .ref 0)] [] f Q := by
  refine rf_at dt_261 40 [] dt_261_k (by decide +kernel) ?_
  intro C J hC hJ
  conv => whnf
  exact h
set_option maxHeartbeats 4000000 in
theorem r_the_l (h49 : (f.1 49 0).toInt = (a : Int)) (ha : a ≤ 64) (hpv : pv = Int32.ofNat p) (hx : f.1 74 0 = 0 → R_nok f 7) : ∀ (r i : Nat), i + r = a → Q none (R_ta f cv p r i) → jx_fj th (rf_g m) (rf σ0 m) (d + 2) 261 2 [(0, .ref 0), (1, .int cv), (2, .int pv), (3, .int (Int32.ofNat i))] [] f Q
  | 0, i, hi, h => by
    refine rf_at dt_261 40 [(108, [0])] dt_261_k (by decide +kernel) ?_
    intro C J hC hJ
    conv => whnf
    refine jx_yes (show f.1 49 0 ≤ Int32.ofNat i by rw [Int32.le_iff_toInt_le, h49, i32_ofNat (by omega)]; omega) ?_
    conv => whnf
    exact hJ _ _ _ _ (r_the_x h)
  | r + 1, i, hi, h => by
    have hii : (Int32.ofNat i).toInt = (i : Int) := i32_ofNat (by omega)
    have i1 : Int32.ofNat i + Int32.ofInt 1 = Int32.ofNat (i + 1) := nadd rfl (by omega)
    have eT : R_ta f cv p (r + 1) i = if f.1 74 0 = 0 then (if R_tmt f cv p i = true then R_tset f i else R_ta f cv p r (i + 1)) else rf_ui f 2 0 (f.1 2 0 + 1) := rfl
    rw [eT] at h
    have t102 : f.1 74 0 = 0 → R_tmt f cv p i = false → jx_fj th (rf_g m) (rf σ0 m) (d + 2) 261 102 [(0, .ref 0), (1, .int cv), (2, .int pv), (3, .int (Int32.ofNat i))] [] f Q := by
      intro w0 hm
      rw [if_pos w0, hm, if_neg (by simp)] at h
      have ih := r_the_l h49 ha hpv hx r (i + 1) (by omega) h
      rw [← i1] at ih
      refine rf_at dt_261 40 [(2, [0, 1, 2, 3])] dt_261_k (by decide +kernel) ?_
      intro C J hC hJ
      conv => whnf
      exact hJ _ _ _ _ ih
    have mf : ¬ (f.2 53 i = 0 ∧ f.1 58 i = cv ∧ f.1 54 i = Int32.ofNat p ∧ (f.1 69 0 &&& 128 = 0 ∧ f.1 70 0 = 258 ∧ f.1 72 0 = f.1 56 i)) → R_tmt f cv p i = false := fun y => decide_eq_false y
    refine rf_at dt_261 80 [(108, [0]), (102, [0, 1, 2, 3])] dt_261_k (by decide +kernel) ?_
    intro C J hC hJ
    conv => whnf
    refine jx_no (show ¬ f.1 49 0 ≤ Int32.ofNat i by rw [Int32.le_iff_toInt_le, h49, hii]; omega) ?_
    conv => whnf
    refine ⟨fun (h1 : ¬ f.1 74 0 = 0) => ?_, fun (h1 : ¬ ¬ f.1 74 0 = 0) => ?_⟩
    · rw [if_neg h1] at h
      conv => whnf
      exact hJ _ _ _ _ (r_the_x h)
    have w0 := Decidable.not_not.mp h1
    conv => whnf
    refine ⟨jx_in_nat hii (show i < 64 by omega), ?_⟩
    conv => whnf
    rw [i32_nat hii]
    refine ⟨fun (h2 : ¬ lg_cmp (f.2 53 i) 0 = 0) => ?_, fun (h2 : ¬ ¬ lg_cmp (f.2 53 i) 0 = 0) => ?_⟩
    · rw [lg_cmp_z] at h2
      conv => whnf
      exact hJ _ _ _ _ (t102 w0 (mf (fun y => h2 y.1)))
    have h2 : f.2 53 i = 0 := lg_cmp_z.mp (Decidable.not_not.mp h2)
    conv => whnf
    refine ⟨jx_in_nat hii (show i < 64 by omega), ?_⟩
    conv => whnf
    rw [i32_nat hii]
    refine ⟨fun (h3 : ¬ f.1 58 i = cv) => ?_, fun (h3 : ¬ ¬ f.1 58 i = cv) => ?_⟩
    · conv => whnf
      exact hJ _ _ _ _ (t102 w0 (mf (fun y => h3 y.2.1)))
    have h3 := Decidable.not_not.mp h3
    conv => whnf
    refine ⟨jx_in_nat hii (show i < 64 by omega), ?_⟩
    conv => whnf
    rw [i32_nat hii]
    refine ⟨fun (h4 : ¬ f.1 54 i = pv) => ?_, fun (h4 : ¬ ¬ f.1 54 i = pv) => ?_⟩
    · conv => whnf
      exact hJ _ _ _ _ (t102 w0 (mf (fun y => h4 (by rw [hpv]; exact y.2.2.1))))
    have h4 := Decidable.not_not.mp h4
    conv => whnf
    refine ⟨jx_in_nat hii (show i < 64 by omega), ?_⟩
    conv => whnf
    rw [i32_nat hii]
    refine hC _ _ _ _ ((r_isOurs (d := d)).mp ?_)
    rintro r' f1 ⟨hr, hf1⟩
    rw [hf1]
    rcases hr with ⟨rfl, hr⟩ | ⟨rfl, hr⟩
    · have hm : R_tmt f cv p i = true := decide_eq_true ⟨h2, h3, by rw [← hpv]; exact h4, hr⟩
      rw [if_pos w0, if_pos hm] at h
      conv => whnf
      refine jx_no (show ¬ (1 : Int32) = 0 by decide) ?_
      conv => whnf
      refine ⟨jx_in_nat (k := 7) (by decide) (by decide), ?_⟩
      conv => whnf
      refine hC _ _ _ _ ((r_n4 (d := d) (hx w0)).mp ?_)
      rintro r' f2 ⟨rfl, hf2⟩
      rw [hf2]
      unfold R_tset at h
      conv => whnf
      refine ⟨fun (h5 : ¬ lg_cmp ((R_n4 f 7).toInt64 &&& 4294967295) 0 = 0) => ?_, fun (h5 : ¬ ¬ lg_cmp ((R_n4 f 7).toInt64 &&& 4294967295) 0 = 0) => ?_⟩
      · rw [lg_cmp_z] at h5
        rw [if_neg h5] at h
        conv => whnf
        refine ⟨jx_in_nat hii (show i < 64 by omega), ?_⟩
        conv => whnf
        rw [i32_nat hii]
        exact h
      · have h5 := lg_cmp_z.mp (Decidable.not_not.mp h5)
        rw [if_pos h5] at h
        conv => whnf
        refine ⟨jx_in_nat hii (show i < 64 by omega), ?_⟩
        conv => whnf
        rw [i32_nat hii]
        exact h
    · conv => whnf
      refine jx_yes (show (0 : Int32) = 0 from rfl) ?_
      conv => whnf
      exact hJ _ _ _ _ (t102 w0 (mf (fun y => hr y.2.2.2)))
theorem r_theirAnswer (h49 : (f.1 49 0).toInt = (a : Int)) (ha : a ≤ 64) (hpv : pv = Int32.ofNat p) (hx : f.1 74 0 = 0 → R_nok f 7) : rfc th σ0 m (d + 3) 261 [.ref 0, .int cv, .int pv] f (fun r f' => r = none ∧ f' = R_ta f cv p a 0) := by
  refine rf_go dt_261 20 [(2, [0, 1, 2, 3])] dt_261_k (by decide +kernel) rfl ?_
  intro C J hC hJ
  conv => whnf
  exact hJ _ _ _ _ (r_the_l h49 ha hpv hx a 0 (by omega) ⟨rfl, rfl⟩)
end JxRefthe
