/-! THE REFERENCE: a REQUEST in an open state -/
noncomputable def R_req (f : jx_F) (n a p : Nat) (cv : Int32) (Y : jx_F) : jx_F := if 0 < f.1 74 0 then R_refuse f cv else if f.1 70 0 = 257 then R_ansW f cv 5012 else if f.1 70 0 = 280 then R_ansW f cv 2001 else if f.1 70 0 = 272 then Y else R_become (rf_ui (R_ansW f cv 2001) 22 p 0) n a p 7
section JxRefreq
variable {th : Nat → Nat} {σ0 : jx_S} {m d n a c p : Nat} {f Y : jx_F} {cv pv : Int32} {Q : Option Value → jx_F → Prop}
theorem r_request (hg : R_gok f n a) (hs : R_sok f) (hp4 : p < 4) (hpv : pv = Int32.ofNat p) (hc : cv.toInt = (c : Int)) (hc8 : c ≤ 8) (hW : R_gok (R_ansW f cv 2001) n a) (kcr : ¬ 0 < f.1 74 0 → f.1 70 0 = 272 → rfc th σ0 m (d + 10) 241 [.ref 0, .int cv, .int pv] f (fun r f' => r = none ∧ f' = Y)) : rfc th σ0 m (d + 11) 240 [.ref 0, .int cv, .int pv] f (fun r f' => r = none ∧ f' = R_req f n a p cv Y) := by
  have hpi : pv.toInt = (p : Int) := by rw [hpv]; exact i32_ofNat (by omega)
  have hpn := i32_nat hpi
  obtain ⟨F, hF⟩ : ∃ F, F = R_req f n a p cv Y := ⟨_, rfl⟩
  rw [← hF]
  unfold R_req at hF
  refine rf_go dt_240 60 [] dt_240_k (by decide +kernel) rfl ?_
  intro C J hC hJ
  conv => whnf
  refine ⟨fun (h1 : f.1 74 0 ≤ 0) => ?_, fun (h1 : ¬ f.1 74 0 ≤ 0) => ?_⟩
  rotate_left
  · rw [if_pos (Int32.not_le.mp h1)] at hF
    conv => whnf
    refine hC _ _ _ _ (((r_refuse (d := d) hg.1 hs hc hc8).up (by omega)).mp ?_)
    rintro r g1 ⟨rfl, hg1⟩
    conv => whnf
    exact ⟨rfl, by rw [hg1, hF]⟩
  have h1 := Int32.not_lt.mpr h1
  rw [if_neg h1] at hF
  conv => whnf
  refine ⟨fun (h2 : ¬ f.1 70 0 = 257) => ?_, fun (h2 : ¬ ¬ f.1 70 0 = 257) => ?_⟩
  rotate_left
  · rw [if_pos (Decidable.not_not.mp h2)] at hF
    conv => whnf
    refine hC _ _ _ _ (((r_answerWith (d := d) (res := 5012) hg.1 hs hc hc8 (fun y => absurd y.1 (by decide))).up (by omega)).mp ?_)
    rintro r g1 ⟨rfl, hg1⟩
    conv => whnf
    exact ⟨rfl, by rw [hg1, hF]⟩
  rw [if_neg h2] at hF
  conv => whnf
  refine ⟨fun (h3 : ¬ f.1 70 0 = 280) => ?_, fun (h3 : ¬ ¬ f.1 70 0 = 280) => ?_⟩
  rotate_left
  · rw [if_pos (Decidable.not_not.mp h3)] at hF
    conv => whnf
    refine hC _ _ _ _ (((r_answerWith (d := d) (res := 2001) hg.1 hs hc hc8 (fun y => h2 y.2)).up (by omega)).mp ?_)
    rintro r g1 ⟨rfl, hg1⟩
    conv => whnf
    exact ⟨rfl, by rw [hg1, hF]⟩
  rw [if_neg h3] at hF
  conv => whnf
  refine ⟨fun (h4 : ¬ f.1 70 0 = 272) => ?_, fun (h4 : ¬ ¬ f.1 70 0 = 272) => ?_⟩
  rotate_left
  · rw [if_pos (Decidable.not_not.mp h4)] at hF
    conv => whnf
    refine hC _ _ _ _ ((kcr h1 (Decidable.not_not.mp h4)).mp ?_)
    rintro r g1 ⟨rfl, hg1⟩
    conv => whnf
    exact ⟨rfl, by rw [hg1, hF]⟩
  rw [if_neg h4] at hF
  conv => whnf
  refine hC _ _ _ _ (((r_answerWith (d := d) (res := 2001) hg.1 hs hc hc8 (fun y => h2 y.2)).up (by omega)).mp ?_)
  rintro r g1 ⟨rfl, hg1⟩
  rw [hg1]
  conv => whnf
  refine ⟨jx_in_nat hpi (show p < 4 by omega), ?_⟩
  conv => whnf
  rw [hpn]
  refine hC _ _ _ _ (((r_becomes (d := d) hpi (by omega) (hW.u (k := 22) (j := p) (x := 0) (by decide))).up (by omega)).mp ?_)
  rintro r g2 ⟨rfl, hg2⟩
  conv => whnf
  exact ⟨rfl, by rw [hg2, hF]⟩
theorem ansW_gok {res : Int32} (hg : R_gok f n a) (hs : R_sok f) (hc : cv.toInt = (c : Int)) (hc8 : c ≤ 8) : R_gok (R_ansW f cv res) n a := by
  unfold R_ansW
  refine hg.of (R_msg_ok hg.1 ?_ hc hc8) (fun k j hk => ?_)
  · have l1 := R_ans_l (res := res) hg.1 hs
    have l2 := R_stT_l (g := f) (res := res)
    rw [List.length_append]
    omega
  · simp only [List.mem_cons, List.not_mem_nil, or_false] at hk
    exact R_msg_o (by omega) (by omega) (by omega) (by omega) (by omega)
end JxRefreq
