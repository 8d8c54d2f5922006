/-! THE REFERENCE: whose ACCOUNT, which SESSION -/
def R_wst (f : jx_F) (k : Nat) : Prop := R_isT f 0 (f.1 67 0 + f.1 77 0).toNatClampNeg 41 (41 * k + 1) (f.1 41 (41 * k)) (f.1 41 (41 * k)).toNatClampNeg
/-- the first SESSION from k on with the message's name, 16: none -/
noncomputable def R_so (f : jx_F) : Nat → Nat → Nat
  | 0, _ => 16
  | r + 1, k => @ite _ (R_wst f k) (Classical.propDecidable _) k (R_so f r (k + 1))
/-- the number that a WHO tells -/
def R_who (f : jx_F) : Option Int64 := if f.1 81 0 = 0 ∨ 17 < f.1 82 0 then none else dig (oct f (f.1 67 0).toNatClampNeg) (f.1 81 0).toNatClampNeg (f.1 82 0).toNatClampNeg 0 0
section JxRefsub
variable {th : Nat → Nat} {σ0 : jx_S} {m d n b x N S : Nat} {f : jx_F} {Q : Option Value → jx_F → Prop}
theorem r_sub_l (hb : (f.1 67 0).toInt = (b : Int)) (hx : (f.1 81 0).toInt = (x : Int)) (hN : (f.1 82 0).toInt = (N : Int)) (hl : b + x + N ≤ 5400) : ∀ (r i : Nat) (v : Int64), i + r = N → (∀ y, dig (oct f b) x r i v = some y → jx_fj th (rf_g m) (rf σ0 m) (d + 1) 250 74 [(0, .ref 0), (1, .long y)] [] f Q) → (dig (oct f b) x r i v = none → Q (some (.int (-1))) f) → jx_fj th (rf_g m) (rf σ0 m) (d + 1) 250 22 [(0, .ref 0), (1, .long v), (3, .int (Int32.ofNat i))] [] f Q
  | 0, i, v, hi, h1, h0 => by
    refine rf_at dt_250 40 [(74, [0, 1])] dt_250_k (by decide +kernel) ?_
    intro C J hC hJ
    conv => whnf
    refine jx_yes (show f.1 82 0 ≤ Int32.ofNat i by rw [Int32.le_iff_toInt_le, hN, i32_ofNat (by omega)]; omega) ?_
    conv => whnf
    exact hJ _ _ _ _ (h1 v rfl)
  | r + 1, i, v, hi, h1, h0 => by
    have hii : (Int32.ofNat i).toInt = (i : Int) := i32_ofNat (by omega)
    have i1 : Int32.ofNat i + Int32.ofInt 1 = Int32.ofNat (i + 1) := nadd rfl (by omega)
    have ed : dig (oct f b) x (r + 1) i v = if ¬ ob (oct f b) (x + i) - 48 < 0 ∧ ob (oct f b) (x + i) - 48 ≤ 9 then dig (oct f b) x r (i + 1) (v * 10 + (ob (oct f b) (x + i) - 48).toInt64) else none := rfl
    rw [ed] at h1 h0
    refine rf_at dt_250 60 [(22, [0, 1, 3])] dt_250_k (by decide +kernel) ?_
    intro C J hC hJ
    conv => whnf
    refine jx_no (show ¬ f.1 82 0 ≤ Int32.ofNat i by rw [Int32.le_iff_toInt_le, hN, hii]; omega) ?_
    conv => whnf
    refine hC _ _ _ _ ((r_octet (d := d) (k := x + i) hb (i32_k1 hx hii (by omega)) (by omega)).mp ?_)
    rintro r' f1 ⟨rfl, hf1⟩
    rw [hf1]
    conv => whnf
    refine hC _ _ _ _ ((r_in (d := d)).mp ?_)
    rintro r' f2 ⟨hr, hf2⟩
    rw [hf2]
    rcases hr with ⟨rfl, hr⟩ | ⟨rfl, hr⟩
    · have hr : 0 ≤ ob (oct f b) (x + i) - 48 ∧ ob (oct f b) (x + i) - 48 ≤ 9 := hr
      rw [if_pos ⟨Int32.not_lt.mpr hr.1, hr.2⟩, Int64.mul_comm v 10] at h1 h0
      conv => whnf
      refine jx_yes (show ¬ (1 : Int32) = 0 by decide) ?_
      conv => whnf
      have ih := r_sub_l hb hx hN hl r (i + 1) _ (by omega) h1 h0
      rw [← i1] at ih
      exact hJ _ _ _ _ ih
    · have hr : ¬ (0 ≤ ob (oct f b) (x + i) - 48 ∧ ob (oct f b) (x + i) - 48 ≤ 9) := hr
      rw [if_neg (fun y => hr ⟨Int32.not_lt.mp y.1, y.2⟩)] at h0
      conv => whnf
      refine jx_no (show ¬ ¬ (0 : Int32) = 0 by decide) ?_
      conv => whnf
      exact h0 rfl
theorem r_subscriber (hb : (f.1 67 0).toInt = (b : Int)) (hw : ¬ f.1 81 0 = 0 → (f.1 81 0).toInt = (x : Int) ∧ (f.1 82 0).toInt = (N : Int) ∧ b + x + N ≤ 5400) (hn : (f.1 35 0).toInt = (n : Int)) (hn16 : n ≤ 16) : rfc th σ0 m (d + 2) 250 [.ref 0] f (fun r f' => ((∃ v, R_who f = some v ∧ R_ac f v n 0 ≠ 16 ∧ r = some (.int (Int32.ofNat (R_ac f v n 0)))) ∨ ((R_who f = none ∨ ∃ v, R_who f = some v ∧ R_ac f v n 0 = 16) ∧ r = some (.int (-1)))) ∧ f' = f) := by
  refine rf_go dt_250 40 [(22, [0, 1, 3])] dt_250_k (by decide +kernel) rfl ?_
  intro C J hC hJ
  conv => whnf
  refine ⟨fun (h1 : f.1 81 0 = 0) => ?_, fun (h1 : ¬ f.1 81 0 = 0) => ?_⟩
  · conv => whnf
    exact ⟨Or.inr ⟨Or.inl (by unfold R_who; rw [if_pos (Or.inl h1)]), rfl⟩, rfl⟩
  obtain ⟨hx, hN, hl⟩ := hw h1
  conv => whnf
  refine ⟨fun (h2 : f.1 82 0 ≤ 17) => ?_, fun (h2 : ¬ f.1 82 0 ≤ 17) => ?_⟩
  · have eW : R_who f = dig (oct f b) x N 0 0 := by
      unfold R_who
      rw [if_neg (fun y => by rcases y with y | y; exact h1 y; exact absurd y (Int32.not_lt.mpr h2)), i32_nat hb, i32_nat hx, i32_nat hN]
    conv => whnf
    refine hJ _ _ _ _ (r_sub_l (d := d) hb hx hN hl N 0 0 (by omega) (fun y hy => ?_) (fun hy => ⟨Or.inr ⟨Or.inl (by rw [eW, hy]), rfl⟩, rfl⟩))
    refine rf_at dt_250 40 [] dt_250_k (by decide +kernel) ?_
    intro C J hC hJ
    conv => whnf
    refine hC _ _ _ _ ((r_accountOf (d := d) (v := y) hn hn16).mp ?_)
    rintro r f1 ⟨hr, hf1⟩
    rcases hr with ⟨hr, rfl⟩ | ⟨hr, rfl⟩
    · conv => whnf
      exact ⟨Or.inl ⟨y, by rw [eW, hy], hr, rfl⟩, hf1⟩
    · conv => whnf
      exact ⟨Or.inr ⟨Or.inr ⟨y, by rw [eW, hy], hr⟩, rfl⟩, hf1⟩
  · conv => whnf
    exact ⟨Or.inr ⟨Or.inl (by unfold R_who; rw [if_pos (Or.inr (Int32.not_le.mp h2))]), rfl⟩, rfl⟩
end JxRefsub
