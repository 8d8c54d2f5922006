/-! THE REFERENCE: an answer to an OPENING, to an ENDING -/
def R_n4 (f : jx_F) (k : Nat) : Int32 := w4 (oct f (f.1 67 0).toNatClampNeg) (f.1 77 k).toNatClampNeg
def R_good (f : jx_F) (p : Nat) : Prop := (f.1 69 0 &&& 128 = 0 ∧ f.1 70 0 = 257 ∧ f.1 72 0 = f.1 20 p) ∧ f.1 74 0 = 0 ∧ R_n4 f 7 = 2001 ∧ R_pmt f p
noncomputable def R_opn (f : jx_F) (n a c p : Nat) : jx_F := @ite _ (R_good f p) (Classical.propDecidable _) (R_become (if f.1 11 p = 4 then R_shut f (f.1 14 p).toNatClampNeg else f) n a p 6) (R_drop (rf_ui f 2 0 (f.1 2 0 + 1)) n a c)
noncomputable def R_edg (f : jx_F) (n a p : Nat) : jx_F := if 0 < f.1 22 p ∧ (f.1 69 0 &&& 128 = 0 ∧ f.1 70 0 = 282 ∧ f.1 72 0 = f.1 22 p) ∧ f.1 74 0 = 0 then R_dropAll f n a p else rf_ui f 2 0 (f.1 2 0 + 1)
section JxRefown
variable {th : Nat → Nat} {σ0 : jx_S} {m d n a c p : Nat} {f : jx_F} {cv pv : Int32} {Q : Option Value → jx_F → Prop}
/-- a number of the message can be read -/
def R_nok (f : jx_F) (k : Nat) : Prop := ∃ b x : Nat, (f.1 67 0).toInt = (b : Int) ∧ (f.1 77 k).toInt = (x : Int) ∧ b + x + 3 < 5400
theorem r_n4 {k : Nat} (h : R_nok f k) : rfc th σ0 m (d + 2) 221 [.ref 0, .int (f.1 77 k)] f (fun r f' => r = some (.int (R_n4 f k)) ∧ f' = f) := by
  obtain ⟨b, x, h1, h2, h3⟩ := h
  unfold R_n4
  rw [i32_nat h1, i32_nat h2]
  exact r_number4 h1 h2 (by omega)
theorem R_gok.u2 {x : Int32} (h : R_gok f n a) : R_gok (rf_ui f 2 0 x) n a := h.u (by decide)
set_option maxHeartbeats 4000000 in
theorem r_opening (hS : PS f n a) (hp : p < n) (hpv : pv.toInt = (p : Int)) (hc : cv.toInt = (c : Int)) (hc8 : c ≤ 8) (h27 : f.1 27 c = Int32.ofNat (p + 1)) (hst : ¬ f.1 11 p = 0) (hx : f.1 74 0 = 0 → R_nok f 7 ∧ (f.1 67 0 + f.1 77 1).toInt = (R_hS f : Int) ∧ R_hS f + (f.1 78 1).toNatClampNeg ≤ 5400) (h9 : ∃ N : Nat, (f.1 9 p).toInt = (N : Int) ∧ N ≤ 40) : rfc th σ0 m (d + 10) 262 [.ref 0, .int cv, .int pv] f (fun r f' => r = none ∧ f' = R_opn f n a c p) := by
  have hg := hS.1
  have hn4 := hg.2.2.1
  have hpn := i32_nat hpv
  obtain ⟨st, oo, kk, u, ⟨y1, y1'⟩, ⟨y2, y2'⟩, ⟨y3, y3'⟩, -, q5, q6, -⟩ := hS.2.2.1 p hp
  have st0 : st ≠ 0 := fun y => hst (by rw [y] at y1; exact i32_eq (n := 0) y1 (by omega))
  have k40 : (40 * pv).toInt = ((40 * p : Nat) : Int) := by rw [i32_mul (a := 40) (by decide) hpv (by omega) (by omega)]; omega
  obtain ⟨N, hN, hN4⟩ := h9
  obtain ⟨F, hF⟩ : ∃ F, F = R_opn f n a c p := ⟨_, rfl⟩
  rw [← hF]
  have tbad : ¬ R_good f p → jx_fj th (rf_g m) (rf σ0 m) (d + 9) 262 67 [(0, .ref 0), (1, .int cv), (2, .int pv)] [.int 0] f (fun r f' => r = none ∧ f' = F) := by
    intro hno
    have eF : F = R_drop (rf_ui f 2 0 (f.1 2 0 + 1)) n a c := by rw [hF]; unfold R_opn; exact if_neg hno
    have hp1 : Int32.ofNat (p + 1) = f.1 27 c := h27.symm
    refine rf_at dt_262 40 [] dt_262_k (by decide +kernel) ?_
    intro C J hC hJ
    conv => whnf
    refine jx_no (show ¬ ¬ (0 : Int32) = 0 by decide) ?_
    conv => whnf
    refine hC _ _ _ _ ((r_drop (d := d) (f := rf_ui f 2 0 (f.1 2 0 + 1)) (pn := p + 1) hc hc8 hg.u2 (by rw [rf_ui_ne (by omega), h27]; exact i32_ofNat (by omega)) (by omega) (fun _ => ⟨st, by rw [rf_ui_ne (by omega), show p + 1 - 1 = p by omega]; exact y1, by omega, y1'⟩)).mp ?_)
    rintro r g1 ⟨rfl, hg1⟩
    conv => whnf
    exact ⟨rfl, by rw [hg1, eF]⟩
  have tgood : R_good f p → jx_fj th (rf_g m) (rf σ0 m) (d + 9) 262 67 [(0, .ref 0), (1, .int cv), (2, .int pv)] [.int 1] f (fun r f' => r = none ∧ f' = F) := by
    intro hy
    have eF : F = R_become (if f.1 11 p = 4 then R_shut f (f.1 14 p).toNatClampNeg else f) n a p 6 := by rw [hF]; unfold R_opn; exact if_pos hy
    refine rf_at dt_262 60 [] dt_262_k (by decide +kernel) ?_
    intro C J hC hJ
    conv => whnf
    refine jx_yes (show ¬ (1 : Int32) = 0 by decide) ?_
    conv => whnf
    refine ⟨jx_in_nat hpv (show p < 4 by omega), ?_⟩
    conv => whnf
    rw [hpn]
    refine ⟨fun (h1 : ¬ f.1 11 p = 4) => ?_, fun (h1 : ¬ ¬ f.1 11 p = 4) => ?_⟩
    · rw [if_neg h1] at eF
      conv => whnf
      refine hC _ _ _ _ (((r_becomes (d := d) hpv (by omega) hg).up (by omega)).mp ?_)
      rintro r g1 ⟨rfl, hg1⟩
      conv => whnf
      exact ⟨rfl, by rw [hg1, eF]⟩
    · have h1 := Decidable.not_not.mp h1
      rw [if_pos h1] at eF
      have st4 : st = 4 := by
        have : (4 : Int32).toInt = 4 := by decide
        rw [h1] at y1
        omega
      conv => whnf
      refine ⟨jx_in_nat hpv (show p < 4 by omega), ?_⟩
      conv => whnf
      rw [hpn]
      have h27k : ∃ pn : Nat, (f.1 27 kk).toInt = (pn : Int) ∧ pn ≤ 4 := by
        by_cases e : kk = 0
        · exact absurd e (by
            obtain ⟨st', oo', kk', u', ⟨z1, -⟩, -, ⟨z3, -⟩, -, -, -, -, -, -, -, w4', -⟩ := hS.2.2.1 p hp
            have : st' = 4 := by omega
            have := (w4' this).2.1
            omega)
        · rw [(q6 e).1]
          exact ⟨p + 1, i32_ofNat (by omega), by omega⟩
      obtain ⟨pn, e27, hpn4⟩ := h27k
      refine hC _ _ _ _ (((r_shut (d := d) y3 y3' e27 hpn4).up (by omega)).mp ?_)
      rintro r g1 ⟨rfl, hg1⟩
      have ekk : (f.1 14 p).toNatClampNeg = kk := i32_nat y3
      rw [ekk] at eF
      have gk1 : R_gok g1 n a := by
        rw [hg1]
        exact R_shut_gok e27 hg
      conv => whnf
      refine hC _ _ _ _ (((r_becomes (d := d) hpv (by omega) gk1).up (by omega)).mp ?_)
      rintro r g2 ⟨rfl, hg2⟩
      conv => whnf
      exact ⟨rfl, by rw [hg2, hg1, eF]⟩
  refine rf_go dt_262 60 [(67, [0, 1, 2])] dt_262_k (by decide +kernel) rfl ?_
  intro C J hC hJ
  conv => whnf
  refine ⟨jx_in_nat hpv (show p < 4 by omega), ?_⟩
  conv => whnf
  rw [hpn]
  refine hC _ _ _ _ (((r_isOurs (d := d)).up (by omega)).mp ?_)
  rintro r f1 ⟨hr, hf1⟩
  rw [hf1]
  rcases hr with ⟨rfl, hr⟩ | ⟨rfl, hr⟩
  · conv => whnf
    refine jx_no (show ¬ (1 : Int32) = 0 by decide) ?_
    conv => whnf
    refine ⟨fun (h1 : ¬ f.1 74 0 = 0) => ?_, fun (h1 : ¬ ¬ f.1 74 0 = 0) => ?_⟩
    · conv => whnf
      exact hJ _ _ _ _ (tbad (fun y => h1 y.2.1))
    have h1 := Decidable.not_not.mp h1
    obtain ⟨x1, x2, x3⟩ := hx h1
    conv => whnf
    refine ⟨jx_in_nat (k := 7) (by decide) (by decide), ?_⟩
    conv => whnf
    refine hC _ _ _ _ (((r_n4 (d := d) x1).up (by omega)).mp ?_)
    rintro r f2 ⟨rfl, hf2⟩
    rw [hf2]
    conv => whnf
    refine ⟨fun (h2 : ¬ R_n4 f 7 = 2001) => ?_, fun (h2 : ¬ ¬ R_n4 f 7 = 2001) => ?_⟩
    · conv => whnf
      exact hJ _ _ _ _ (tbad (fun y => h2 y.2.2.1))
    have h2 := Decidable.not_not.mp h2
    conv => whnf
    refine ⟨jx_in_nat hpv (show p < 4 by omega), ?_⟩
    conv => whnf
    rw [hpn]
    refine hC _ _ _ _ (((r_isText8 (d := d) (k := 1) (S := R_hS f) (F := 40 * p) (N := N) (by decide) (by decide) x2 (fun e => by have e2 := i32_nat hN; rw [← e] at e2; omega) k40 (by omega) hN).up (by omega)).mp ?_)
    rintro r f3 ⟨hr3, hf3⟩
    rw [hf3]
    have eN : R_pmt f p ↔ R_isT f 1 (R_hS f) 8 (40 * p) (f.1 9 p) N := by unfold R_pmt; rw [i32_nat hN]
    rcases hr3 with ⟨rfl, hr3⟩ | ⟨rfl, hr3⟩
    · conv => whnf
      refine jx_no (show ¬ (1 : Int32) = 0 by decide) ?_
      conv => whnf
      exact hJ _ _ _ _ (tgood ⟨hr, h1, h2, eN.mpr hr3⟩)
    · conv => whnf
      refine jx_yes (show (0 : Int32) = 0 from rfl) ?_
      conv => whnf
      exact hJ _ _ _ _ (tbad (fun y => hr3 (eN.mp y.2.2.2)))
  · conv => whnf
    refine jx_yes (show (0 : Int32) = 0 from rfl) ?_
    conv => whnf
    exact hJ _ _ _ _ (tbad (fun y => hr y.1))
theorem r_ending (hS : PS f n a) (hp : p < n) (hpv : pv.toInt = (p : Int)) : rfc th σ0 m (d + 9) 236 [.ref 0, .int cv, .int pv] f (fun r f' => r = none ∧ f' = R_edg f n a p) := by
  have hn4 := hS.1.2.2.1
  have hpn := i32_nat hpv
  obtain ⟨F, hF⟩ : ∃ F, F = R_edg f n a p := ⟨_, rfl⟩
  rw [← hF]
  unfold R_edg at hF
  have t40 : F = rf_ui f 2 0 (f.1 2 0 + 1) → jx_fj th (rf_g m) (rf σ0 m) (d + 8) 236 40 [(0, .ref 0)] [] f (fun r f' => r = none ∧ f' = F) := by
    intro eF
    refine rf_at dt_236 40 [] dt_236_k (by decide +kernel) ?_
    intro C J hC hJ
    conv => whnf
    exact ⟨rfl, eF.symm⟩
  refine rf_go dt_236 60 [(40, [0])] dt_236_k (by decide +kernel) rfl ?_
  intro C J hC hJ
  conv => whnf
  refine ⟨jx_in_nat hpv (show p < 4 by omega), ?_⟩
  conv => whnf
  rw [hpn]
  refine ⟨fun (h1 : f.1 22 p ≤ 0) => ?_, fun (h1 : ¬ f.1 22 p ≤ 0) => ?_⟩
  · rw [if_neg (fun y => absurd y.1 (Int32.not_lt.mpr h1))] at hF
    conv => whnf
    exact hJ _ _ _ _ (t40 hF)
  have h1 := Int32.not_le.mp h1
  conv => whnf
  refine ⟨jx_in_nat hpv (show p < 4 by omega), ?_⟩
  conv => whnf
  rw [hpn]
  refine hC _ _ _ _ (((r_isOurs (d := d)).up (by omega)).mp ?_)
  rintro r f1 ⟨hr, hf1⟩
  rw [hf1]
  rcases hr with ⟨rfl, hr⟩ | ⟨rfl, hr⟩
  · conv => whnf
    refine jx_no (show ¬ (1 : Int32) = 0 by decide) ?_
    conv => whnf
    refine ⟨fun (h2 : ¬ f.1 74 0 = 0) => ?_, fun (h2 : ¬ ¬ f.1 74 0 = 0) => ?_⟩
    · rw [if_neg (fun y => h2 y.2.2)] at hF
      conv => whnf
      exact hJ _ _ _ _ (t40 hF)
    · rw [if_pos ⟨h1, hr, Decidable.not_not.mp h2⟩] at hF
      conv => whnf
      refine hC _ _ _ _ ((r_dropAll (d := d) hpv hS hp).mp ?_)
      rintro r g1 ⟨rfl, hg1⟩
      conv => whnf
      exact ⟨rfl, by rw [hg1, hF]⟩
  · rw [if_neg (fun y => hr y.2.1)] at hF
    conv => whnf
    refine jx_yes (show (0 : Int32) = 0 from rfl) ?_
    conv => whnf
    exact hJ _ _ _ _ (t40 hF)
end JxRefown
