/-! THE REFERENCE answers -/
def R_sF (f : jx_F) : Nat := (f.1 67 0 + f.1 77 0).toNatClampNeg
def R_sN (f : jx_F) : Nat := (f.1 78 0).toNatClampNeg
/-- the SESSION of an answer -/
def R_asT (f : jx_F) : List Int32 := if f.1 70 0 = 272 ∧ 0 < f.1 79 0 then R_tx f 263 (f.1 78 0) 29 (R_sF f) (R_sN f) 20 else []
def R_afl (f : jx_F) (res : Int32) : Int32 := (f.1 69 0 &&& 64) ||| (if 3000 ≤ res ∧ res ≤ 3999 then 32 else 0)
def R_ans (f : jx_F) (res : Int32) : List Int32 := R_hd (R_afl f res) (f.1 70 0) (f.1 71 0) (f.1 72 0) (f.1 73 0) ++ (R_asT f ++ (R_nm 268 res ++ R_me f (R_hs f) 20))
/-- the SESSION is at a place that can be read -/
def R_sok (f : jx_F) : Prop := 0 < f.1 79 0 → ∃ F N : Nat, (f.1 67 0 + f.1 77 0).toInt = (F : Int) ∧ (f.1 78 0).toInt = (N : Int) ∧ N ≤ 40 ∧ F + N ≤ 5400
section JxRefans
variable {th : Nat → Nat} {σ0 : jx_S} {m d : Nat} {f g : jx_F} {res cv : Int32} {Q : Option Value → jx_F → Prop} {cN : Nat}
theorem R_asT_l (hs : R_sok f) : (R_asT f).length ≤ 51 ∧ (R_asT f).length % 4 = 0 := by
  unfold R_asT
  split
  · rename_i h
    obtain ⟨F, N, h1, h2, h3, h4⟩ := hs h.2
    rw [R_tx_len]
    have : R_sN f = N := i32_nat h2
    rw [this]
    unfold R_tl
    omega
  · exact ⟨by simp, rfl⟩
theorem R_me_l : (R_me f (R_hs f) 20).length = R_ml (R_hs f) 20 := R_me_len
theorem R_ans_l (ho : R_ok f) (hs : R_sok f) : (R_ans f res).length ≤ 146 ∧ (R_ans f res).length % 4 = 0 := by
  obtain ⟨⟨N, hN, hN4⟩, -⟩ := ho
  have hNs : R_hs f = N := i32_nat hN
  obtain ⟨l1, l2⟩ := R_asT_l hs
  have hml := R_ml_le (N := N) (s := 20)
  have hm4 := R_ml_4 (N := N) (s := 20) rfl
  unfold R_ans
  rw [List.length_append, List.length_append, List.length_append, R_me_l, hNs]
  show 20 + ((R_asT f).length + (12 + R_ml N 20)) ≤ 146 ∧ (20 + ((R_asT f).length + (12 + R_ml N 20))) % 4 = 0
  omega
theorem r_answer (ho : R_ok f) (hs : R_sok f) : rfc th σ0 m (d + 5) 233 [.ref 0, .int res] f (fun r f' => r = none ∧ f' = R_bs (rf_ui f 66 0 0) (R_ans f res)) := by
  obtain ⟨⟨N, hN, hN4⟩, hok⟩ := ho
  have hNs : R_hs f = N := i32_nat hN
  obtain ⟨al, al4⟩ := R_asT_l hs
  have t95 : ∀ (g : jx_F) (s : Nat), (g.1 66 0).toInt = (s : Int) → s ≤ 71 → s % 4 = 0 → (∀ k j, k ≠ 65 → k ≠ 66 → g.1 k j = f.1 k j) → (R_bs (R_bs g (R_nm 268 res)) (R_me f N 20)) = R_bs (rf_ui f 66 0 0) (R_ans f res) → jx_fj th (rf_g m) (rf σ0 m) (d + 4) 233 95 [(0, .ref 0), (1, .int res)] [] g (fun r f' => r = none ∧ f' = R_bs (rf_ui f 66 0 0) (R_ans f res)) := by
    intro g s hg hs7 hs4 go eF
    refine rf_at dt_233 40 [] dt_233_k (by decide +kernel) ?_
    intro C J hC hJ
    conv => whnf
    refine hC _ _ _ _ (((r_putNumber (d := d) hg (by omega)).up (by omega)).mp ?_)
    rintro r g1 ⟨rfl, hg1⟩
    have ht1 : (g1.1 66 0).toInt = ((s + 12 : Nat) : Int) := by rw [hg1]; exact R_sz hg rfl (by omega)
    have eo1 : ∀ k j, k ≠ 65 → k ≠ 66 → g1.1 k j = f.1 k j := fun k j h3 h4 => by rw [hg1, R_bs_o h3 h4, go k j h3 h4]
    conv => whnf
    refine hC _ _ _ _ ((r_me (d := d) (N := N) (by rw [eo1 6 0 (by decide) (by decide)]; exact hN) hN4 ht1 (by omega)).mp ?_)
    rintro r g2 ⟨rfl, hg2⟩
    rw [R_me_eq (f := f) (fun q => eo1 5 q (by decide) (by decide)) (eo1 6 0 (by decide) (by decide)), R_me_s (by omega), hg1, eF] at hg2
    conv => whnf
    exact ⟨rfl, hg2⟩
  have t28 : ∀ x : Int32, x = (if 3000 ≤ res ∧ res ≤ 3999 then 32 else 0) → jx_fj th (rf_g m) (rf σ0 m) (d + 4) 233 28 [(0, .ref 0), (1, .int res)] [.int x, .int (f.1 69 0 &&& 64), .ref 0] f (fun r f' => r = none ∧ f' = R_bs (rf_ui f 66 0 0) (R_ans f res)) := by
    intro x hx
    refine rf_at dt_233 80 [(95, [0, 1])] dt_233_k (by decide +kernel) ?_
    intro C J hC hJ
    conv => whnf
    refine hC _ _ _ _ (((r_head (d := d)).up (by omega)).mp ?_)
    rintro r g0 ⟨rfl, hg0⟩
    have efl : (fun x y : Int32 => x ||| y) (f.1 69 0 &&& 64) x = R_afl f res := by rw [hx]; rfl
    rw [efl] at hg0
    have hs0 : ((rf_ui f 66 0 0).1 66 0).toInt = ((0 : Nat) : Int) := by rw [rf_ui_eq]; decide
    have ht0 : (g0.1 66 0).toInt = ((20 : Nat) : Int) := by rw [hg0]; exact R_sz (bs := R_hd (R_afl f res) (f.1 70 0) (f.1 71 0) (f.1 72 0) (f.1 73 0)) hs0 rfl (by omega)
    have eo0 : ∀ k j, k ≠ 65 → k ≠ 66 → g0.1 k j = f.1 k j := fun k j h3 h4 => by rw [hg0, R_bs_o h3 h4, rf_ui_ne (fun e => h4 e.1)]
    conv => whnf
    rw [eo0 70 0 (by decide) (by decide)]
    refine ⟨fun (h1 : ¬ f.1 70 0 = 272) => ?_, fun (h1 : ¬ ¬ f.1 70 0 = 272) => ?_⟩
    · conv => whnf
      have e0 : R_asT f = [] := by unfold R_asT; rw [if_neg (fun z => h1 z.1)]
      refine hJ _ _ _ _ (t95 g0 20 ht0 (by omega) (by omega) eo0 ?_)
      unfold R_ans
      rw [e0, hg0, hNs, R_bs_app, List.nil_append, R_bs_app]
    · have h1 := Decidable.not_not.mp h1
      conv => whnf
      refine ⟨jx_in_nat (k := 0) (by decide) (by decide), ?_⟩
      conv => whnf
      rw [show g0.1 79 (0 : Int32).toNatClampNeg = f.1 79 0 from eo0 79 0 (by decide) (by decide)]
      refine ⟨fun (h2 : f.1 79 0 ≤ 0) => ?_, fun (h2 : ¬ f.1 79 0 ≤ 0) => ?_⟩
      · conv => whnf
        have e0 : R_asT f = [] := by unfold R_asT; rw [if_neg (fun z => absurd z.2 (Int32.not_lt.mpr h2))]
        refine hJ _ _ _ _ (t95 g0 20 ht0 (by omega) (by omega) eo0 ?_)
        unfold R_ans
        rw [e0, hg0, hNs, R_bs_app, List.nil_append, R_bs_app]
      · have h2 := Int32.not_le.mp h2
        obtain ⟨F, M, q1, q2, q3, q4⟩ := hs h2
        have e0 : R_asT f = R_tx f 263 (f.1 78 0) 29 F M 20 := by unfold R_asT; rw [if_pos ⟨h1, h2⟩, show R_sF f = F from i32_nat q1, show R_sN f = M from i32_nat q2]
        conv => whnf
        refine ⟨jx_in_nat (k := 0) (by decide) (by decide), ?_⟩
        conv => whnf
        refine ⟨jx_in_nat (k := 0) (by decide) (by decide), ?_⟩
        conv => whnf
        rw [show g0.1 77 (0 : Int32).toNatClampNeg = f.1 77 0 from eo0 77 0 (by decide) (by decide), show g0.1 78 (0 : Int32).toNatClampNeg = f.1 78 0 from eo0 78 0 (by decide) (by decide), eo0 67 0 (by decide) (by decide)]
        refine hC _ _ _ _ (((r_text29 (d := d) (F := F) (N := M) q1 q2 q4 ht0 (by omega)).up (by omega)).mp ?_)
        rintro r g1 ⟨rfl, hg1⟩
        have etx : R_tx g0 263 (f.1 78 0) 29 F M 20 = R_asT f := by
          rw [e0]
          exact tx_same rfl (fun j _ => eo0 29 _ (by decide) (by decide)) rfl
        rw [etx] at hg1
        have ht1 : (g1.1 66 0).toInt = ((20 + (R_asT f).length : Nat) : Int) := by rw [hg1]; exact R_sz ht0 rfl (by omega)
        conv => whnf
        refine hJ _ _ _ _ (t95 g1 (20 + (R_asT f).length) ht1 (by omega) (by omega) (fun k j h3 h4 => by rw [hg1, R_bs_o h3 h4, eo0 k j h3 h4]) ?_)
        unfold R_ans
        rw [hg1, hg0, hNs, R_bs_app, R_bs_app, R_bs_app]
  refine rf_go dt_233 40 [(28, [0, 1])] dt_233_k (by decide +kernel) rfl ?_
  intro C J hC hJ
  conv => whnf
  refine ⟨fun (h1 : res < 3000) => ?_, fun (h1 : ¬ res < 3000) => ?_⟩
  · conv => whnf
    exact hJ _ _ _ _ (t28 0 (by rw [if_neg (fun z => absurd h1 (Int32.not_lt.mpr z.1))]))
  · conv => whnf
    refine ⟨fun (h2 : 3999 < res) => ?_, fun (h2 : ¬ 3999 < res) => ?_⟩
    · conv => whnf
      exact hJ _ _ _ _ (t28 0 (by rw [if_neg (fun z => absurd h2 (Int32.not_lt.mpr z.2))]))
    · conv => whnf
      exact hJ _ _ _ _ (t28 32 (by rw [if_pos ⟨Int32.not_lt.mp h1, Int32.not_lt.mp h2⟩]))
end JxRefans
