/-! THE REFERENCE: connections are shut and given anew -/
def R_shut0 (f : jx_F) (c : Nat) : jx_F := rf_ui (rf_ui (rf_ui (rf_ui f 26 c 0) 27 c 0) 28 c 0) 30 c 0
def R_shutp (f : jx_F) (c p : Nat) : jx_F := rf_ui (rf_ui f 13 p (if f.1 28 c = 1 then 0 else f.1 13 p)) 14 p (if f.1 28 c = 2 then 0 else f.1 14 p)
def R_shut (f : jx_F) (c : Nat) : jx_F := R_shut0 (if f.1 27 c = 0 then f else R_shutp f c ((f.1 27 c).toNatClampNeg - 1)) c
theorem i32_9 : (9 : Int32).toInt = 9 := by decide
section JxRefshut
variable {th : Nat → Nat} {σ0 : jx_S} {m d : Nat} {f : jx_F} {Q : Option Value → jx_F → Prop}
theorem r_shut {c : Int32} {cN pn : Nat} (hc : c.toInt = (cN : Int)) (hc8 : cN ≤ 8) (hp : (f.1 27 cN).toInt = (pn : Int)) (hp4 : pn ≤ 4) : rfc th σ0 m (d + 1) 209 [.ref 0, .int c] f (fun r f' => r = none ∧ f' = R_shut f cN) := by
  have hcn := i32_nat hc
  have hpn := i32_nat hp
  have hin : jx_in c 9 := jx_in_nat hc (show cN < 9 by omega)
  have hp1 : (f.1 27 cN - 1).toInt = (pn : Int) - 1 := i32_sub hp (by decide) (by omega) (by omega)
  refine rf_go dt_209 80 [] dt_209_k (by decide +kernel) rfl ?_
  intro C J hC hJ
  conv => whnf
  refine ⟨hin, ?_⟩
  conv => whnf
  rw [hcn]
  refine ⟨fun (h : f.1 27 cN - 1 < 0) => ?_, fun (h : ¬ f.1 27 cN - 1 < 0) => ?_⟩
  · have h0 : f.1 27 cN = 0 := by
      rw [Int32.lt_iff_toInt_lt, hp1] at h
      have : (0 : Int32).toInt = 0 := by decide
      exact (i32_z hp).mpr (by omega)
    conv => whnf
    refine ⟨hin, ?_⟩
    conv => whnf
    refine ⟨hin, ?_⟩
    conv => whnf
    refine ⟨hin, ?_⟩
    conv => whnf
    refine ⟨hin, ?_⟩
    conv => whnf
    refine ⟨rfl, ?_⟩
    unfold R_shut
    rw [if_pos h0, hcn]
    rfl
  · have h0 : ¬ f.1 27 cN = 0 := by
      intro e
      rw [Int32.lt_iff_toInt_lt, hp1] at h
      have h2 := (i32_z hp).mp e
      have : (0 : Int32).toInt = 0 := by decide
      omega
    have hpn0 : pn ≠ 0 := fun e => h0 ((i32_z hp).mpr e)
    have hq : (f.1 27 cN - 1).toInt = ((pn - 1 : Nat) : Int) := by rw [hp1]; omega
    have hqn := i32_nat hq
    have hqi : jx_in (f.1 27 cN - 1) 4 := jx_in_nat hq (by omega)
    conv => whnf
    refine ⟨hin, ?_⟩
    conv => whnf
    rw [hcn]
    refine ⟨fun (h1 : ¬ f.1 28 cN = 1) => ?_, fun (h1 : ¬ ¬ f.1 28 cN = 1) => ?_⟩
    · conv => whnf
      refine ⟨hqi, ?_⟩
      conv => whnf
      refine ⟨hqi, ?_⟩
      conv => whnf
      refine ⟨hin, ?_⟩
      conv => whnf
      rw [hcn, hqn]
      refine ⟨fun (h2 : ¬ f.1 28 cN = 2) => ?_, fun (h2 : ¬ ¬ f.1 28 cN = 2) => ?_⟩
      · conv => whnf
        refine ⟨hqi, ?_⟩
        conv => whnf
        refine ⟨hqi, ?_⟩
        conv => whnf
        refine ⟨hin, ?_⟩
        conv => whnf
        refine ⟨hin, ?_⟩
        conv => whnf
        refine ⟨hin, ?_⟩
        conv => whnf
        refine ⟨hin, ?_⟩
        conv => whnf
        refine ⟨rfl, ?_⟩
        unfold R_shut R_shutp
        rw [if_neg h0, if_neg h1, if_neg h2, hcn, hpn, hqn]
        rfl
      · conv => whnf
        refine ⟨hqi, ?_⟩
        conv => whnf
        refine ⟨hin, ?_⟩
        conv => whnf
        refine ⟨hin, ?_⟩
        conv => whnf
        refine ⟨hin, ?_⟩
        conv => whnf
        refine ⟨hin, ?_⟩
        conv => whnf
        refine ⟨rfl, ?_⟩
        unfold R_shut R_shutp
        rw [if_neg h0, if_neg h1, if_pos (Decidable.not_not.mp h2), hcn, hpn, hqn]
        rfl
    · conv => whnf
      refine ⟨hqi, ?_⟩
      conv => whnf
      refine ⟨hin, ?_⟩
      conv => whnf
      rw [hcn, hqn]
      have e1 : f.1 28 cN = 1 := Decidable.not_not.mp h1
      have h2 : ¬ f.1 28 cN = 2 := by rw [e1]; decide
      refine jx_yes (show ¬ f.1 28 cN = 2 from h2) ?_
      conv => whnf
      refine ⟨hqi, ?_⟩
      conv => whnf
      refine ⟨hqi, ?_⟩
      conv => whnf
      refine ⟨hin, ?_⟩
      conv => whnf
      refine ⟨hin, ?_⟩
      conv => whnf
      refine ⟨hin, ?_⟩
      conv => whnf
      refine ⟨hin, ?_⟩
      conv => whnf
      refine ⟨rfl, ?_⟩
      unfold R_shut R_shutp
      rw [if_neg h0, if_pos e1, if_neg h2, hcn, hpn, hqn]
      rfl
/-- the least connection that is closed, from k on: r are left -/
def R_least (f : jx_F) : Nat → Nat → Nat
  | 0, _ => 0
  | r + 1, k => if f.1 26 k = 0 then k else R_least f r (k + 1)
def R_fresh (f : jx_F) (c : Nat) (how : Int32) : jx_F := rf_ui (rf_ui (rf_ui (rf_ui (rf_ui (rf_ui f 26 c how) 27 c 0) 28 c 0) 30 c 0) 32 c 0) 33 c 0
theorem r_fresh_l {how : Int32} : ∀ (r k : Nat) (i : Int32), i.toInt = (k : Int) → k + r = 9 → (R_least f r k ≠ 0 → Q (some (.int (Int32.ofNat (R_least f r k)))) (R_fresh f (R_least f r k) how)) → (R_least f r k = 0 → Q (some (.int 0)) f) → 1 ≤ k → jx_fj th (rf_g m) (rf σ0 m) d 188 2 [(0, .ref 0), (1, .int how), (2, .int i)] [] f Q
  | 0, k, i, hi, hk, h1, h2, h3 => by
    refine rf_at dt_188 60 [] dt_188_k (by decide +kernel) ?_
    intro C J hC hJ
    conv => whnf
    refine jx_yes (show 9 ≤ i by rw [Int32.le_iff_toInt_le, i32_9]; omega) ?_
    conv => whnf
    exact h2 rfl
  | r + 1, k, i, hi, hk, h1, h2, h3 => by
    have hin : jx_in i 9 := jx_in_nat hi (show k < 9 by omega)
    have hin' := i32_nat hi
    refine rf_at dt_188 60 [(2, [0, 1, 2])] dt_188_k (by decide +kernel) ?_
    intro C J hC hJ
    conv => whnf
    refine jx_no (show ¬ 9 ≤ i by rw [Int32.le_iff_toInt_le, i32_9]; omega) ?_
    conv => whnf
    refine ⟨hin, ?_⟩
    conv => whnf
    rw [hin']
    refine ⟨fun (h : ¬ f.1 26 k = 0) => ?_, fun (h : ¬ ¬ f.1 26 k = 0) => ?_⟩
    · conv => whnf
      have e : R_least f (r + 1) k = R_least f r (k + 1) := if_neg h
      refine hJ _ _ _ _ (r_fresh_l r (k + 1) _ ?_ (by omega) (by rw [← e]; exact h1) (by rw [← e]; exact h2) (by omega))
      rw [i32_add (c := 1) hi (by decide) (by omega) (by omega)]; omega
    · have h := Decidable.not_not.mp h
      have e : R_least f (r + 1) k = k := if_pos h
      conv => whnf
      refine ⟨hin, ?_⟩
      conv => whnf
      refine ⟨hin, ?_⟩
      conv => whnf
      refine ⟨hin, ?_⟩
      conv => whnf
      refine ⟨hin, ?_⟩
      conv => whnf
      refine ⟨hin, ?_⟩
      conv => whnf
      refine ⟨hin, ?_⟩
      conv => whnf
      rw [e] at h1
      have e2 : Int32.ofNat k = i := Int32.toInt_inj.mp (by rw [i32_ofNat (by omega), hi])
      rw [e2] at h1
      rw [hin']
      exact h1 (by omega)
theorem r_fresh {how : Int32} : rfc th σ0 m (d + 1) 188 [.ref 0, .int how] f (fun r f' => (R_least f 8 1 ≠ 0 ∧ r = some (.int (Int32.ofNat (R_least f 8 1))) ∧ f' = R_fresh f (R_least f 8 1) how) ∨ (R_least f 8 1 = 0 ∧ r = some (.int 0) ∧ f' = f)) := by
  refine rf_go dt_188 20 [(2, [0, 1, 2])] dt_188_k (by decide +kernel) rfl ?_
  intro C J hC hJ
  conv => whnf
  exact hJ _ _ _ _ (r_fresh_l 8 1 1 (by decide) rfl (fun h => Or.inl ⟨h, rfl, rfl⟩) (fun h => Or.inr ⟨h, rfl, rfl⟩) (by omega))
end JxRefshut
