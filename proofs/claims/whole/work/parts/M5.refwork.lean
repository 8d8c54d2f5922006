/-! THE REFERENCE: a message in an open state -/
def R_atw (f : jx_F) (a p : Nat) (cv : Int32) (X : jx_F) : jx_F := if (R_hm f p).1 = true then (if f.1 69 0 &&& 128 = 0 then R_ta (R_hm f p).2 cv p a 0 else X) else (R_hm f p).2
section JxRefwork
variable {th : Nat → Nat} {σ0 : jx_S} {m d n a c p : Nat} {f X : jx_F} {cv pv : Int32} {Q : Option Value → jx_F → Prop}
theorem hm_o {u j : Nat} (h : ¬ ((u = 15 ∨ u = 16 ∨ u = 17 ∨ u = 19) ∧ j = p)) (h2 : u ≠ 2) : (R_hm f p).2.1 u j = f.1 u j := by
  unfold R_hm
  split
  · split
    · show (rf_ui (rf_ui (R_w1 f p) 19 p _) 15 p _).1 u j = _
      rw [rf_ui_ne (by omega), rf_ui_ne (by omega), w1_o (by omega)]
    · split
      · rfl
      · show (rf_ui f 2 0 _).1 u j = _
        rw [rf_ui_ne (by omega)]
  · show (rf_ui (rf_ui (R_w1 f p) 15 p 1) 17 p _).1 u j = _
    rw [rf_ui_ne (by omega), rf_ui_ne (by omega), w1_o (by omega)]
set_option maxHeartbeats 4000000 in
theorem r_atWork (hp4 : p < 4) (hpv : pv = Int32.ofNat p) (h49 : (f.1 49 0).toInt = (a : Int)) (ha : a ≤ 64) (h15 : f.1 15 p = 1 ∨ f.1 15 p = 2 ∨ f.1 15 p = 4) (hx : f.1 74 0 = 0 → R_nok f 7) (kreq : (R_hm f p).1 = true → ¬ f.1 69 0 &&& 128 = 0 → rfc th σ0 m (d + 12) 240 [.ref 0, .int cv, .int pv] (R_hm f p).2 (fun r f' => r = none ∧ f' = X)) : rfc th σ0 m (d + 13) 239 [.ref 0, .int cv, .int pv] f (fun r f' => r = none ∧ f' = R_atw f a p cv X) := by
  have hpi : pv.toInt = (p : Int) := by rw [hpv]; exact i32_ofNat (by omega)
  have hpn := i32_nat hpi
  obtain ⟨F, hF⟩ : ∃ F, F = R_atw f a p cv X := ⟨_, rfl⟩
  rw [← hF]
  unfold R_atw at hF
  have wz : R_wat f p = true ↔ (¬ f.1 16 p = 0 ∧ (f.1 69 0 &&& 128 = 0 ∧ f.1 70 0 = 280 ∧ f.1 72 0 = f.1 21 p) ∧ f.1 74 0 = 0) := decide_eq_true_iff
  have t168 : ∀ (wv : Int32), wv = (if R_wat f p = true then 1 else 0) → ((R_hm f p).1 = true ↔ wv = 0) → jx_fj th (rf_g m) (rf σ0 m) (d + 12) 239 168 [(0, .ref 0), (1, .int cv), (2, .int pv), (3, .int wv)] [] (R_hm f p).2 (fun r f' => r = none ∧ f' = F) := by
    intro wv hwv hmo
    have o := fun (u j : Nat) (h : ¬ ((u = 15 ∨ u = 16 ∨ u = 17 ∨ u = 19) ∧ j = p)) (h2 : u ≠ 2) => hm_o (f := f) h h2
    obtain ⟨H, hH⟩ : ∃ H, H = (R_hm f p).2 := ⟨_, rfl⟩
    rw [← hH] at kreq hF o ⊢
    refine rf_at dt_239 40 [] dt_239_k (by decide +kernel) ?_
    intro C J hC hJ
    conv => whnf
    refine ⟨fun (h1 : wv = 0) => ?_, fun (h1 : ¬ wv = 0) => ?_⟩
    · rw [if_pos (hmo.mpr h1)] at hF
      conv => whnf
      refine hC _ _ _ _ (((r_isRequest (d := d)).up (by omega)).mp ?_)
      rintro r f1 ⟨hr, hf1⟩
      rw [hf1]
      rw [o 69 0 (by omega) (by omega)] at hr
      rcases hr with ⟨rfl, hr⟩ | ⟨rfl, hr⟩
      · rw [if_pos hr] at hF
        conv => whnf
        refine jx_yes (show (0 : Int32) = 0 from rfl) ?_
        conv => whnf
        refine hC _ _ _ _ (((r_theirAnswer (d := d) (by rw [o 49 0 (by omega) (by omega)]; exact h49) ha hpv (fun w0 => ?_)).up (by omega)).mp ?_)
        · rw [o 74 0 (by omega) (by omega)] at w0
          obtain ⟨b, x, z1, z2, z3⟩ := hx w0
          exact ⟨b, x, by rw [o 67 0 (by omega) (by omega)]; exact z1, by rw [o 77 7 (by omega) (by omega)]; exact z2, z3⟩
        rintro r f2 ⟨rfl, hf2⟩
        conv => whnf
        exact ⟨rfl, by rw [hf2, hF]⟩
      · rw [if_neg hr] at hF
        conv => whnf
        refine jx_no (show ¬ (1 : Int32) = 0 by decide) ?_
        conv => whnf
        refine hC _ _ _ _ ((kreq (hmo.mpr h1) hr).mp ?_)
        rintro r f2 ⟨rfl, hf2⟩
        conv => whnf
        exact ⟨rfl, by rw [hf2, hF]⟩
    · rw [if_neg (fun y => h1 (hmo.mp y))] at hF
      conv => whnf
      exact ⟨rfl, hF.symm⟩
  have t49 : ∀ (wv : Int32), wv = (if R_wat f p = true then 1 else 0) → jx_fj th (rf_g m) (rf σ0 m) (d + 12) 239 49 [(0, .ref 0), (1, .int cv), (2, .int pv), (3, .int wv)] [] (R_w1 f p) (fun r f' => r = none ∧ f' = F) := by
    intro wv hwv
    obtain ⟨H1, hH1⟩ : ∃ H1, H1 = R_w1 f p := ⟨_, rfl⟩
    have o1 : ∀ u j, ¬ (u = 16 ∧ j = p) → H1.1 u j = f.1 u j := fun u j h => by rw [hH1]; exact w1_o h
    rw [← hH1]
    have t69 : ¬ f.1 15 p = 4 → jx_fj th (rf_g m) (rf σ0 m) (d + 12) 239 69 [(0, .ref 0), (1, .int cv), (2, .int pv), (3, .int wv)] [] H1 (fun r f' => r = none ∧ f' = F) := by
      intro h4
      have eH : R_hm f p = (!R_wat f p, rf_ui (rf_ui H1 15 p 1) 17 p (f.1 1 0 + 30)) := by rw [hH1]; unfold R_hm; rw [if_neg h4]
      have t := t168 wv hwv (by
        rw [eH, hwv]
        show ((!R_wat f p) = true) ↔ ((if R_wat f p = true then (1 : Int32) else 0) = 0)
        cases R_wat f p <;> decide)
      rw [eH] at t
      refine rf_at dt_239 60 [(168, [0, 1, 2, 3])] dt_239_k (by decide +kernel) ?_
      intro C J hC hJ
      conv => whnf
      refine ⟨jx_in_nat hpi (show p < 4 by omega), ?_⟩
      conv => whnf
      refine ⟨jx_in_nat hpi (show p < 4 by omega), ?_⟩
      conv => whnf
      rw [hpn, rf_ui_ne (show ¬ (1 = 15 ∧ 0 = p) by omega), o1 1 0 (by omega)]
      exact hJ _ _ _ _ t
    refine rf_at dt_239 60 [(69, [0, 1, 2, 3]), (157, [0]), (168, [0, 1, 2, 3])] dt_239_k (by decide +kernel) ?_
    intro C J hC hJ
    conv => whnf
    refine ⟨jx_in_nat hpi (show p < 4 by omega), ?_⟩
    conv => whnf
    rw [hpn, o1 15 p (by omega)]
    refine ⟨fun (h1 : f.1 15 p = 1) => ?_, fun (h1 : ¬ f.1 15 p = 1) => ?_⟩
    · conv => whnf
      exact hJ _ _ _ _ (t69 (by rw [h1]; decide))
    conv => whnf
    refine ⟨jx_in_nat hpi (show p < 4 by omega), ?_⟩
    conv => whnf
    rw [hpn, o1 15 p (by omega)]
    refine ⟨fun (h2 : ¬ f.1 15 p = 2) => ?_, fun (h2 : ¬ ¬ f.1 15 p = 2) => ?_⟩
    rotate_left
    · conv => whnf
      exact hJ _ _ _ _ (t69 (by rw [Decidable.not_not.mp h2]; decide))
    have h4 : f.1 15 p = 4 := by
      rcases h15 with y | y | y
      · exact absurd y h1
      · exact absurd y h2
      · exact y
    conv => whnf
    by_cases hwt : R_wat f p = true
    · have hv : wv = 1 := by rw [hwv, if_pos hwt]
      have eH : R_hm f p = (false, rf_ui (rf_ui H1 19 p (f.1 19 p + 1)) 15 p (if f.1 19 p + 1 = 3 then 1 else 4)) := by rw [hH1]; unfold R_hm; rw [if_pos h4, if_pos hwt]
      have t := t168 wv hwv (by
        rw [eH, hv]
        show (false = true) ↔ ((1 : Int32) = 0)
        decide)
      rw [eH] at t
      refine jx_no (show ¬ wv = 0 by rw [hv]; decide) ?_
      conv => whnf
      refine ⟨jx_in_nat hpi (show p < 4 by omega), ?_⟩
      conv => whnf
      refine ⟨jx_in_nat hpi (show p < 4 by omega), ?_⟩
      conv => whnf
      refine ⟨jx_in_nat hpi (show p < 4 by omega), ?_⟩
      conv => whnf
      rw [hpn, o1 19 p (by omega), rf_ui_eq]
      refine ⟨fun (h5 : ¬ f.1 19 p + 1 = 3) => ?_, fun (h5 : ¬ ¬ f.1 19 p + 1 = 3) => ?_⟩
      · rw [if_neg h5] at t
        conv => whnf
        refine ⟨jx_in_nat hpi (show p < 4 by omega), ?_⟩
        conv => whnf
        rw [hpn]
        exact hJ _ _ _ _ t
      · rw [if_pos (Decidable.not_not.mp h5)] at t
        conv => whnf
        refine ⟨jx_in_nat hpi (show p < 4 by omega), ?_⟩
        conv => whnf
        rw [hpn]
        exact hJ _ _ _ _ t
    · have hv : wv = 0 := by rw [hwv, if_neg hwt]
      have eW : H1 = f := by rw [hH1]; unfold R_w1; rw [if_neg hwt]
      rw [eW]
      have eH : R_hm f p = if ¬ f.1 69 0 &&& 128 = 0 ∧ (f.1 70 0 = 280 ∨ f.1 70 0 = 282) then (true, f) else (false, rf_ui f 2 0 (f.1 2 0 + 1)) := by unfold R_hm; rw [if_pos h4, if_neg hwt]
      have t157 : R_hm f p = (false, rf_ui f 2 0 (f.1 2 0 + 1)) → jx_fj th (rf_g m) (rf σ0 m) (d + 12) 239 157 [(0, .ref 0)] [] f (fun r f' => r = none ∧ f' = F) := by
        intro e
        rw [e] at hF
        have hF : F = rf_ui f 2 0 (f.1 2 0 + 1) := hF
        refine rf_at dt_239 60 [] dt_239_k (by decide +kernel) ?_
        intro C J hC hJ
        conv => whnf
        exact ⟨rfl, hF.symm⟩
      have tgo : ¬ f.1 69 0 &&& 128 = 0 → (f.1 70 0 = 280 ∨ f.1 70 0 = 282) → jx_fj th (rf_g m) (rf σ0 m) (d + 12) 239 168 [(0, .ref 0), (1, .int cv), (2, .int pv), (3, .int wv)] [] f (fun r f' => r = none ∧ f' = F) := by
        intro y1 y2
        rw [if_pos ⟨y1, y2⟩] at eH
        have t := t168 wv hwv (by
          rw [eH, hv]
          show (true = true) ↔ ((0 : Int32) = 0)
          decide)
        rw [eH] at t
        exact t
      refine jx_yes hv ?_
      conv => whnf
      refine hC _ _ _ _ (((r_isRequest (d := d)).up (by omega)).mp ?_)
      rintro r f1 ⟨hr, hf1⟩
      rw [hf1]
      rcases hr with ⟨rfl, hr⟩ | ⟨rfl, hr⟩
      · rw [if_neg (fun y => y.1 hr)] at eH
        conv => whnf
        refine jx_yes (show (0 : Int32) = 0 from rfl) ?_
        conv => whnf
        exact hJ _ _ _ _ (t157 eH)
      · conv => whnf
        refine jx_no (show ¬ (1 : Int32) = 0 by decide) ?_
        conv => whnf
        refine ⟨fun (h5 : f.1 70 0 = 280) => ?_, fun (h5 : ¬ f.1 70 0 = 280) => ?_⟩
        · conv => whnf
          exact hJ _ _ _ _ (tgo hr (Or.inl h5))
        conv => whnf
        refine ⟨fun (h6 : f.1 70 0 = 282) => ?_, fun (h6 : ¬ f.1 70 0 = 282) => ?_⟩
        · conv => whnf
          exact hJ _ _ _ _ (tgo hr (Or.inr h6))
        · rw [if_neg (fun y => by rcases y.2 with y | y; exact h5 y; exact h6 y)] at eH
          conv => whnf
          exact hJ _ _ _ _ (t157 eH)
  have t38 : ∀ (wv : Int32), wv = (if R_wat f p = true then 1 else 0) → jx_fj th (rf_g m) (rf σ0 m) (d + 12) 239 38 [(0, .ref 0), (1, .int cv), (2, .int pv), (3, .int wv)] [] f (fun r f' => r = none ∧ f' = F) := by
    intro wv hwv
    have t := t49 wv hwv
    unfold R_w1 at t
    refine rf_at dt_239 60 [(49, [0, 1, 2, 3])] dt_239_k (by decide +kernel) ?_
    intro C J hC hJ
    conv => whnf
    by_cases hwt : R_wat f p = true
    · rw [if_pos hwt] at t hwv
      refine jx_no (show ¬ wv = 0 by rw [hwv]; decide) ?_
      conv => whnf
      refine ⟨jx_in_nat hpi (show p < 4 by omega), ?_⟩
      conv => whnf
      rw [hpn, nar_z0]
      exact hJ _ _ _ _ t
    · rw [if_neg hwt] at t hwv
      refine jx_yes hwv ?_
      conv => whnf
      exact hJ _ _ _ _ t
  refine rf_go dt_239 60 [(38, [0, 1, 2, 3])] dt_239_k (by decide +kernel) rfl ?_
  intro C J hC hJ
  conv => whnf
  refine ⟨jx_in_nat hpi (show p < 4 by omega), ?_⟩
  conv => whnf
  rw [hpn]
  refine ⟨fun (h1 : f.1 16 p = 0) => ?_, fun (h1 : ¬ f.1 16 p = 0) => ?_⟩
  · conv => whnf
    exact hJ _ _ _ _ (t38 0 (by rw [if_neg (fun y => (wz.mp y).1 h1)]))
  conv => whnf
  refine ⟨jx_in_nat hpi (show p < 4 by omega), ?_⟩
  conv => whnf
  rw [hpn]
  refine hC _ _ _ _ (((r_isOurs (d := d)).up (by omega)).mp ?_)
  rintro r f1 ⟨hr, hf1⟩
  rw [hf1]
  rcases hr with ⟨rfl, hr⟩ | ⟨rfl, hr⟩
  · conv => whnf
    refine jx_no (show ¬ (1 : Int32) = 0 by decide) ?_
    conv => whnf
    refine ⟨fun (h2 : ¬ f.1 74 0 = 0) => ?_, fun (h2 : ¬ ¬ f.1 74 0 = 0) => ?_⟩
    · conv => whnf
      exact hJ _ _ _ _ (t38 0 (by rw [if_neg (fun y => h2 (wz.mp y).2.2)]))
    · conv => whnf
      exact hJ _ _ _ _ (t38 1 (by rw [if_pos (wz.mpr ⟨h1, hr, Decidable.not_not.mp h2⟩)]))
  · conv => whnf
    refine jx_yes (show (0 : Int32) = 0 from rfl) ?_
    conv => whnf
    exact hJ _ _ _ _ (t38 0 (by rw [if_neg (fun y => hr (wz.mp y).2.1)]))
end JxRefwork
