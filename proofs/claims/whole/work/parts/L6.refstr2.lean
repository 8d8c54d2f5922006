/-! THE REFERENCE: a message on a connection that belongs to no PEER, all of it -/
section JxRefstr2
variable {th : Nat → Nat} {σ0 : jx_S} {m d n a c : Nat} {f : jx_F} {cv kv hv : Int32} {Q : Option Value → jx_F → Prop}
theorem acc1_o {q j p : Nat} (h1 : ¬ ((q = 27 ∨ q = 28) ∧ j = c)) (h2 : ¬ ((q = 14 ∨ q = 23 ∨ q = 24 ∨ q = 25) ∧ j = p)) : (R_acc1 f c cv p).1 q j = f.1 q j := by
  unfold R_acc1
  rw [rf_ui_ne (by omega), rf_ui_ne (by omega), rf_ui_ne (by omega), rf_ui_ne (by omega), rf_ui_ne (by omega), rf_ui_ne (by omega)]
theorem acc1_gok {p : Nat} (hg : R_gok f n a) (hc : cv.toInt = (c : Int)) (hc8 : c ≤ 8) : R_gok (R_acc1 f c cv p) n a := by
  obtain ⟨⟨⟨N, hN, hN4⟩, g2⟩, g3, g4, g5, g6, g7, g8⟩ := hg
  refine ⟨⟨⟨N, by rw [acc1_o (by omega) (by omega)]; exact hN, hN4⟩, fun x hx => ?_⟩, by rw [acc1_o (by omega) (by omega)]; exact g3, g4, by rw [acc1_o (by omega) (by omega)]; exact g5, g6, fun i hi q hq => ?_, fun q hq => ⟨?_, ?_⟩⟩
  · rw [acc1_o (by omega) (by omega), acc1_o (by omega) (by omega)]
    exact g2 x hx
  · rw [acc1_o (by omega) (by omega)]
    exact g7 i hi q hq
  · rw [acc1_o (by omega) (by omega)]
    exact (g8 q hq).1
  · by_cases e : q = p
    · rw [e]
      refine ⟨c, ?_, hc8⟩
      unfold R_acc1
      rw [rf_ui_ne (by omega), rf_ui_ne (by omega), rf_ui_ne (by omega), rf_ui_eq]
      exact hc
    · rw [acc1_o (by omega) (by omega)]
      exact (g8 q hq).2
set_option maxHeartbeats 4000000 in
theorem r_strange (hg : R_gok f n a) (hs : R_sok f) (hc : cv.toInt = (c : Int)) (hc1 : 1 ≤ c) (hc8 : c ≤ 8) (h27 : ∀ x, 1 ≤ x → x ≤ 8 → ∃ pn : Nat, (f.1 27 x).toInt = (pn : Int) ∧ pn ≤ 4) (hown : ∀ p, p < n → ¬ 2 < f.1 11 p → ¬ f.1 11 p = 0 → ¬ f.1 11 p = 1 → ¬ f.1 13 p = 0) (hS : f.1 74 0 = 0 → (f.1 67 0 + f.1 77 1).toInt = (R_hS f : Int) ∧ R_hS f + (f.1 78 1).toNatClampNeg ≤ 5400) (h9 : ∀ p, p < n → ∃ N : Nat, (f.1 9 p).toInt = (N : Int) ∧ N ≤ 40) (h74 : ¬ f.1 69 0 &&& 128 = 0 → f.1 74 0 = 0 ∨ 0 < f.1 74 0) : rfc th σ0 m (d + 10) 231 [.ref 0, .int cv] f (fun r f' => r = none ∧ f' = R_strange f n a c cv) := by
  obtain ⟨pc, hpc, hpc4⟩ := h27 c hc1 hc8
  have hcn := i32_nat hc
  have hok := hg.1
  have hn7 := hg.2.1
  have hn4 := hg.2.2.1
  obtain ⟨F, hF⟩ : ∃ F, F = R_strange f n a c cv := ⟨_, rfl⟩
  rw [← hF]
  have t161 : ∀ p, p < n → ¬ 2 < f.1 11 p → F = R_str2 (R_acc1 f c cv p) n a p → jx_fj th (rf_g m) (rf σ0 m) (d + 9) 231 161 [(0, .ref 0), (1, .int cv), (2, .int (Int32.ofNat p))] [] f (fun r f' => r = none ∧ f' = F) := by
    intro p hp h2p eF
    have hpi : (Int32.ofNat p).toInt = (p : Int) := i32_ofNat (by omega)
    have hg1 := acc1_gok (p := p) hg hc hc8
    refine rf_at dt_231 80 [] dt_231_k (by decide +kernel) ?_
    intro C J hC hJ
    conv => whnf
    refine ⟨jx_in_nat hc (show c < 9 by omega), ?_⟩
    conv => whnf
    refine ⟨jx_in_nat hc (show c < 9 by omega), ?_⟩
    conv => whnf
    refine ⟨jx_in_nat hpi (show p < 4 by omega), ?_⟩
    conv => whnf
    refine ⟨jx_in_nat hpi (show p < 4 by omega), ?_⟩
    conv => whnf
    refine ⟨jx_in_nat hpi (show p < 4 by omega), ?_⟩
    conv => whnf
    refine ⟨jx_in_nat hpi (show p < 4 by omega), ?_⟩
    conv => whnf
    refine ⟨jx_in_nat hpi (show p < 4 by omega), ?_⟩
    conv => whnf
    rw [hcn, i32_nat hpi]
    rw [show rf_ui (rf_ui (rf_ui (rf_ui (rf_ui (rf_ui f 27 c ((fun x y : Int32 => x + y) (Int32.ofNat p) 1)) 28 c 2) 14 p cv) 23 p ((rf_ui (rf_ui (rf_ui f 27 c ((fun x y : Int32 => x + y) (Int32.ofNat p) 1)) 28 c 2) 14 p cv).1 69 0)) 24 p ((rf_ui (rf_ui (rf_ui (rf_ui f 27 c ((fun x y : Int32 => x + y) (Int32.ofNat p) 1)) 28 c 2) 14 p cv) 23 p ((rf_ui (rf_ui (rf_ui f 27 c ((fun x y : Int32 => x + y) (Int32.ofNat p) 1)) 28 c 2) 14 p cv).1 69 0)).1 72 0)) 25 p ((rf_ui (rf_ui (rf_ui (rf_ui (rf_ui f 27 c ((fun x y : Int32 => x + y) (Int32.ofNat p) 1)) 28 c 2) 14 p cv) 23 p ((rf_ui (rf_ui (rf_ui f 27 c ((fun x y : Int32 => x + y) (Int32.ofNat p) 1)) 28 c 2) 14 p cv).1 69 0)) 24 p ((rf_ui (rf_ui (rf_ui (rf_ui f 27 c ((fun x y : Int32 => x + y) (Int32.ofNat p) 1)) 28 c 2) 14 p cv) 23 p ((rf_ui (rf_ui (rf_ui f 27 c ((fun x y : Int32 => x + y) (Int32.ofNat p) 1)) 28 c 2) 14 p cv).1 69 0)).1 72 0)).1 73 0) = R_acc1 f c cv p by
      unfold R_acc1
      simp only [rf_ui_ne (k := 27) (a := 69) (show ¬ (69 = 27 ∧ _) by omega)]
      rfl]
    obtain ⟨g, hgg⟩ : ∃ g, g = R_acc1 f c cv p := ⟨_, rfl⟩
    rw [← hgg]
    rw [← hgg] at hg1 eF
    unfold R_str2 at eF
    refine ⟨fun (h0 : ¬ g.1 11 p = 0) => ?_, fun (h0 : ¬ ¬ g.1 11 p = 0) => ?_⟩
    · rw [if_neg h0] at eF
      conv => whnf
      refine ⟨jx_in_nat hpi (show p < 4 by omega), ?_⟩
      conv => whnf
      rw [i32_nat hpi]
      refine ⟨fun (h1 : ¬ g.1 11 p = 1) => ?_, fun (h1 : ¬ ¬ g.1 11 p = 1) => ?_⟩
      · rw [if_neg h1] at eF
        conv => whnf
        obtain ⟨hN, h6, h64⟩ := hg1.1.1
        obtain ⟨pN, h9p, h94⟩ := h9 p hp
        obtain ⟨co, h13, hco⟩ := (hg1.2.2.2.2.2.2 p (by omega)).1
        have h27' : ∃ pn : Nat, (g.1 27 co).toInt = (pn : Int) ∧ pn ≤ 4 := by
          by_cases e : co = c
          · refine ⟨p + 1, ?_, by omega⟩
            rw [hgg, e]
            unfold R_acc1
            rw [rf_ui_ne (by omega), rf_ui_ne (by omega), rf_ui_ne (by omega), rf_ui_ne (by omega), rf_ui_ne (by omega), rf_ui_eq]
            exact i32_k1 (j := 1) hpi (by decide) (by omega)
          · rw [hgg, acc1_o (by omega) (by omega)]
            refine h27 co (Nat.pos_of_ne_zero (fun z0 => hown p hp h2p ?_ ?_ ?_)) hco
            · rw [← acc1_o (f := f) (c := c) (cv := cv) (p := p) (q := 11) (j := p) (by omega) (by omega), ← hgg]; exact h0
            · rw [← acc1_o (f := f) (c := c) (cv := cv) (p := p) (q := 11) (j := p) (by omega) (by omega), ← hgg]; exact h1
            · rw [← acc1_o (f := f) (c := c) (cv := cv) (p := p) (q := 13) (j := p) (by omega) (by omega), ← hgg]
              exact (i32_z h13).mpr z0
        obtain ⟨pn, e27, hpn⟩ := h27'
        refine hC _ _ _ _ ((r_choose (d := d) hpi (by omega) hg1 h6 h64 (by rw [hgg, acc1_o (by omega) (by omega)]; exact h9p) h94 h13 hco e27 hpn).mp ?_)
        rintro r g1 ⟨rfl, hg1'⟩
        conv => whnf
        exact ⟨rfl, by rw [hg1', eF]⟩
      · rw [if_pos (Decidable.not_not.mp h1)] at eF
        conv => whnf
        refine hC _ _ _ _ (((r_becomes (d := d) hpi (by omega) hg1).up (by omega)).mp ?_)
        rintro r g1 ⟨rfl, hg1'⟩
        conv => whnf
        exact ⟨rfl, by rw [hg1', eF]⟩
    · rw [if_pos (Decidable.not_not.mp h0)] at eF
      conv => whnf
      refine hC _ _ _ _ (((r_accepts (d := d) hpi (by omega) hg1 (R_answerCame_gok hg1 (by omega))).up (by omega)).mp ?_)
      rintro r g1 ⟨rfl, hg1'⟩
      conv => whnf
      exact ⟨rfl, by rw [hg1', eF]⟩
  have tbad : ∀ bv : Int32, 0 < bv → ¬ bv = 2001 → F = R_shut (R_ansW f cv bv) c → ∀ pv : Int32, jx_fj th (rf_g m) (rf σ0 m) (d + 9) 231 145 [(0, .ref 0), (1, .int cv), (2, .int pv), (3, .int bv)] [] f (fun r f' => r = none ∧ f' = F) := by
    intro bv hb h2 eF pv
    refine rf_at dt_231 40 [] dt_231_k (by decide +kernel) ?_
    intro C J hC hJ
    conv => whnf
    refine jx_no (show ¬ bv ≤ 0 from Int32.not_le.mpr hb) ?_
    conv => whnf
    refine hC _ _ _ _ (((r_answerWith (d := d) hok hs hc hc8 (fun z => h2 z.1)).up (by omega)).mp ?_)
    rintro r g1 ⟨rfl, hg1⟩
    conv => whnf
    refine hC _ _ _ _ (((r_shut (d := d) hc hc8 (by rw [hg1]; unfold R_ansW; rw [R_msg_o (by decide) (by decide) (by decide) (by decide) (by decide)]; exact hpc) hpc4).up (by omega)).mp ?_)
    rintro r g2 ⟨rfl, hg2⟩
    conv => whnf
    exact ⟨rfl, by rw [hg2, hg1, eF]⟩
  have t104 : f.1 74 0 = 0 → F = R_str1 f n a c cv (R_pm f n) → jx_fj th (rf_g m) (rf σ0 m) (d + 9) 231 104 [(0, .ref 0), (1, .int cv), (2, .int (pmv (R_pm f n)))] [] f (fun r f' => r = none ∧ f' = F) := by
    intro hw eF
    cases hx : R_pm f n with
    | none =>
      rw [hx] at eF
      refine rf_at dt_231 40 [(145, [0, 1, 2, 3])] dt_231_k (by decide +kernel) ?_
      intro C J hC hJ
      conv => whnf
      refine jx_no (show ¬ (0 : Int32) ≤ -1 by decide) ?_
      conv => whnf
      exact hJ _ _ _ _ (tbad 3010 (by decide) (by decide) eF _)
    | some p =>
      rw [hx] at eF
      obtain ⟨hp, -⟩ := R_pm_s n p hx
      rw [show pmv (some p) = Int32.ofNat p from rfl]
      have hpi : (Int32.ofNat p).toInt = (p : Int) := i32_ofNat (by omega)
      have eF : F = if 0 < R_bad f (some p) then R_shut (R_ansW f cv (R_bad f (some p))) c else R_str2 (R_acc1 f c cv p) n a p := eF
      have eb : R_bad f (some p) = if f.1 80 0 = 0 then 5010 else if 2 < f.1 11 p then 3004 else 0 := rfl
      refine rf_at dt_231 60 [(145, [0, 1, 2, 3])] dt_231_k (by decide +kernel) ?_
      intro C J hC hJ
      conv => whnf
      refine jx_yes (show (0 : Int32) ≤ Int32.ofNat p by rw [Int32.le_iff_toInt_le, hpi]; simp) ?_
      conv => whnf
      refine ⟨fun (h1 : ¬ f.1 80 0 = 0) => ?_, fun (h1 : ¬ ¬ f.1 80 0 = 0) => ?_⟩
      · rw [if_neg h1] at eb
        conv => whnf
        refine ⟨jx_in_nat hpi (show p < 4 by omega), ?_⟩
        conv => whnf
        rw [i32_nat hpi]
        refine ⟨fun (h2 : f.1 11 p ≤ 2) => ?_, fun (h2 : ¬ f.1 11 p ≤ 2) => ?_⟩
        · rw [if_neg (Int32.not_lt.mpr h2)] at eb
          rw [eb, if_neg (by decide)] at eF
          conv => whnf
          refine hJ _ _ _ _ ?_
          refine rf_at dt_231 40 [(161, [0, 1, 2])] dt_231_k (by decide +kernel) ?_
          intro C J hC hJ
          conv => whnf
          refine jx_yes (show (0 : Int32) ≤ 0 by decide) ?_
          conv => whnf
          exact hJ _ _ _ _ (t161 p hp (Int32.not_lt.mpr h2) eF)
        · rw [if_pos (Int32.not_le.mp h2)] at eb
          rw [eb, if_pos (by decide)] at eF
          conv => whnf
          exact hJ _ _ _ _ (tbad 3004 (by decide) (by decide) eF _)
      · rw [if_pos (Decidable.not_not.mp h1)] at eb
        rw [eb, if_pos (by decide)] at eF
        conv => whnf
        exact hJ _ _ _ _ (tbad 5010 (by decide) (by decide) eF _)
  have t24 : F = R_shut (rf_ui f 2 0 (f.1 2 0 + 1)) c → jx_fj th (rf_g m) (rf σ0 m) (d + 9) 231 24 [(0, .ref 0), (1, .int cv)] [] f (fun r f' => r = none ∧ f' = F) := by
    intro eF
    refine rf_at dt_231 40 [] dt_231_k (by decide +kernel) ?_
    intro C J hC hJ
    conv => whnf
    refine hC _ _ _ _ (((r_shut (d := d) (f := rf_ui f 2 0 (f.1 2 0 + 1)) hc hc8 (by rw [rf_ui_ne (by omega)]; exact hpc) hpc4).up (by omega)).mp ?_)
    rintro r g1 ⟨rfl, hg1⟩
    conv => whnf
    exact ⟨rfl, by rw [hg1, eF]⟩
  unfold R_strange at hF
  have t40 : ¬ (f.1 69 0 &&& 128 = 0 ∨ (f.1 74 0 = 0 ∧ ¬ f.1 70 0 = 257)) → jx_fj th (rf_g m) (rf σ0 m) (d + 9) 231 40 [(0, .ref 0), (1, .int cv)] [] f (fun r f' => r = none ∧ f' = F) := by
    intro hno
    rw [if_neg hno] at hF
    refine rf_at dt_231 40 [(62, [0, 1, 2, 3])] dt_231_k (by decide +kernel) ?_
    intro C J hC hJ
    conv => whnf
    refine ⟨fun (h1 : f.1 74 0 ≤ 0) => ?_, fun (h1 : ¬ f.1 74 0 ≤ 0) => ?_⟩
    · rw [if_neg (Int32.not_lt.mpr h1)] at hF
      have w0 : f.1 74 0 = 0 := by
        rcases h74 (fun y => hno (Or.inl y)) with z | z
        · exact z
        · exact absurd z (Int32.not_lt.mpr h1)
      conv => whnf
      exact hJ _ _ _ _ (r_str_l (d := d + 8) (hS w0).1 (hS w0).2 hn7 hn4 h9 n 0 (by omega) (t104 w0 hF))
    · rw [if_pos (Int32.not_le.mp h1)] at hF
      conv => whnf
      refine hC _ _ _ _ (((r_refuse (d := d) hok hs hc hc8).up (by omega)).mp ?_)
      rintro r g1 ⟨rfl, hg1⟩
      conv => whnf
      refine hC _ _ _ _ (((r_shut (d := d) hc hc8 (by rw [hg1]; unfold R_refuse; rw [R_msg_o (by decide) (by decide) (by decide) (by decide) (by decide)]; exact hpc) hpc4).up (by omega)).mp ?_)
      rintro r g2 ⟨rfl, hg2⟩
      conv => whnf
      exact ⟨rfl, by rw [hg2, hg1, hF]⟩
  refine rf_go dt_231 40 [(24, [0, 1]), (40, [0, 1])] dt_231_k (by decide +kernel) rfl ?_
  intro C J hC hJ
  conv => whnf
  refine hC _ _ _ _ (((r_isRequest (d := d)).up (by omega)).mp ?_)
  rintro r f1 ⟨hr, hf1⟩
  rw [hf1]
  rcases hr with ⟨rfl, h1⟩ | ⟨rfl, h1⟩
  · conv => whnf
    refine jx_yes (show (0 : Int32) = 0 from rfl) ?_
    conv => whnf
    exact hJ _ _ _ _ (t24 (by rw [hF, if_pos (Or.inl h1)]))
  · conv => whnf
    refine jx_no (show ¬ (1 : Int32) = 0 by decide) ?_
    conv => whnf
    refine ⟨fun (h2 : ¬ f.1 74 0 = 0) => ?_, fun (h2 : ¬ ¬ f.1 74 0 = 0) => ?_⟩
    · conv => whnf
      exact hJ _ _ _ _ (t40 (fun z => by rcases z with z | z; exact h1 z; exact h2 z.1))
    have h2 := Decidable.not_not.mp h2
    conv => whnf
    refine ⟨fun (h3 : f.1 70 0 = 257) => ?_, fun (h3 : ¬ f.1 70 0 = 257) => ?_⟩
    · conv => whnf
      exact hJ _ _ _ _ (t40 (fun z => by rcases z with z | z; exact h1 z; exact z.2 h3))
    · conv => whnf
      exact hJ _ _ _ _ (t24 (by rw [hF, if_pos (Or.inr ⟨h2, h3⟩)]))
end JxRefstr2
