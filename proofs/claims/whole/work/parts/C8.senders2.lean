/-! THE CLASS: WATCH, ENDING, the answer to an OPENING -/
/-- the connection that the class uses -/
def lnf (f : jx_F) (p : Nat) : Int32 := if f.1 13 p = 0 then f.1 14 p else f.1 13 p
section JxSenders2
variable {th : Nat → Nat} {d B b p c : Nat} {xl : List Int32} {σ σ' : jx_S} {f f' : jx_F} {A : Nat → Nat → Nat} {G : Nat → Nat → Int32} {T : Nat → Nat} {O : Nat} {bs : List Int32}
theorem ln_ref (h : (lnf f p).toInt = ((c + 1 : Nat) : Int)) : va_rf ((cc_ref B (f.1 13 p)).or (cc_ref B (f.1 14 p))) = .ref (B + 14 + 3 * c) := by
  unfold lnf at h
  have e : ∀ x : Int32, x.toInt = ((c + 1 : Nat) : Int) → cc_ref B x = some (B + 14 + 3 * c) := by
    intro x hx
    unfold cc_ref
    rw [if_neg (fun z => by rw [z] at hx; have : (0 : Int32).toInt = 0 := by decide
                            omega), i32_nat hx]
    rfl
  by_cases h0 : f.1 13 p = 0
  · rw [if_pos h0] at h
    rw [show cc_ref B (f.1 13 p) = none by unfold cc_ref; rw [if_pos h0], e _ h]
    rfl
  · rw [if_neg h0] at h
    rw [e _ h]
    rfl
theorem k_sendWatch (hW : RW th B b xl σ f A T) (hp : (p : Int) < (f.1 7 0).toInt) (hc : c < 8) (hln : (lnf f p).toInt = ((c + 1 : Nat) : Int)) (hcn : R_conn f p = lnf f p) (h26 : ¬ f.1 26 (c + 1) = 0) : jc th (d + 3) 61 [.ref B, .ref (A 6 p)] σ (fun r σ' => r = none ∧ RW th B b xl σ' (R_sendWatch f p) A T ∧ kp B σ σ') := by
  obtain ⟨G, hR, hls⟩ := hW
  have hX := hR.X
  refine cl_go dt_61 80 [] dt_61_k rfl ?_
  intro C J hC hJ
  conv => whnf
  refine ⟨_, jx_getF_of (hX) rfl, ?_⟩
  conv => whnf
  refine putK hX rfl (fit_i _) (fun s1 p1 o1 n1 => ?_)
  conv => whnf
  obtain ⟨hR1, hk1⟩ := hR.hop p1 o1 n1
  have hp1 := ui7 (f := f) (k := 34) (j := 0) (x := f.1 34 0 + 1) (by omega) hp
  obtain ⟨a1, a2, a3, a6⟩ := hR1.pe hp1
  refine putK a2 rfl (fit_i _) (fun s2 p2 o2 n2 => ?_)
  conv => whnf
  refine putK p2 rfl (fit_z (Or.inr rfl)) (fun s3 p3 o3 n3 => ?_)
  conv => whnf
  obtain ⟨g0, hg0⟩ : ∃ g0, g0 = rf_ui (rf_ui f 34 0 (f.1 34 0 + 1)) 21 p (f.1 34 0) := ⟨_, rfl⟩
  obtain ⟨hR2, hk2⟩ := hR1.pe1 (σ' := s3) (f' := rf_ui g0 16 p 1) hp1 (by rw [p3, hg0]; simp [cp_e, lim, rf_ui, Int32.sub_add_cancel]) (fun q hq => (o3 q hq).trans (o2 q hq)) (n3.trans n2) (by rw [hg0]; exact ui_pe ⟨by omega, by omega⟩ (ui_pe ⟨by omega, by omega⟩ (fun _ _ _ => rfl))) (by rw [hg0]; rfl) (by rw [hg0, rf_ui_ne (by omega), rf_ui_ne (by omega)])
  have hp2 : (p : Int) < ((rf_ui g0 16 p 1).1 7 0).toInt := by rw [hg0]; exact ui7 (by omega) (ui7 (by omega) hp1)
  refine ⟨jx_isC_of hR2.X, hC _ _ _ _ (((k_setTimer (d := d) hR2 hp2).up (by omega)).mp ?_)⟩
  rintro r s4 ⟨rfl, hR4, hk4⟩
  obtain ⟨g, hg⟩ : ∃ g, g = rf_ui (rf_ui g0 16 p 1) 17 p ((rf_ui g0 16 p 1).1 1 0 + 30) := ⟨_, rfl⟩
  rw [← hg] at hR4
  have og : ∀ q j, q ≠ 34 → ¬ (q = 21 ∧ j = p) → ¬ (q = 16 ∧ j = p) → ¬ (q = 17 ∧ j = p) → g.1 q j = f.1 q j := fun q j h1 h2 h3 h4 => by rw [hg, rf_ui_ne h4, rf_ui_ne h3, hg0, rf_ui_ne h2, rf_ui_ne (fun e => h1 e.1)]
  have e34 : g.1 34 0 - 1 = f.1 34 0 := by rw [hg, rf_ui_ne (by omega), rf_ui_ne (by omega), hg0, rf_ui_ne (by omega), rf_ui_eq]; exact Int32.add_sub_cancel _ _
  have ehs : R_hs g = R_hs f := by unfold R_hs; rw [og 6 0 (by omega) (by omega) (by omega) (by omega)]
  have eme : R_me g (R_hs g) 20 = R_me f (R_hs f) 20 := by rw [ehs]; exact R_me_eq (fun q => og 5 q (by omega) (by omega) (by omega) (by omega)) (og 6 0 (by omega) (by omega) (by omega) (by omega))
  have hX4 := hR4.X
  have hO4 := hR4.dO
  have hs4 := hR4.hs
  obtain ⟨⟨cn, d1⟩, ⟨w, d2⟩, -⟩ := hR4.2.1
  conv => whnf
  refine ⟨_, jx_getF_of (hX4) rfl, ?_⟩
  conv => whnf
  refine ⟨_, jx_getF_of (hX4) rfl, ?_⟩
  conv => whnf
  refine ⟨_, jx_getF_of (hX4) rfl, ?_⟩
  conv => whnf
  refine ⟨jx_isC_of d1, hC _ _ _ _ (((k_begin (d := d) (th := th) (fl := 128) (c := 280) (a := 0) d1 d2 (by decide +kernel)).up (by omega)).mp ?_)⟩
  rintro r s5 ⟨rfl, c5, m5⟩
  rw [e34] at m5
  have hX5 := (c5.2 B (by omega) (by omega)).trans hX4
  have hO5 := hO4.mv c5
  obtain ⟨cn5, d5⟩ := m5.c11
  conv => whnf
  refine ⟨_, jx_getF_of (hX5) rfl, ?_⟩
  conv => whnf
  refine ⟨jx_isC_of d5, hC _ _ _ _ (((k_originR (d := d) m5 hO5 hs4 (by show 20 ≤ 190; omega)).up (by omega)).mp ?_)⟩
  rintro r s6 ⟨rfl, c6, m6⟩
  rw [eme] at m6
  have hml : (R_me f (R_hs f) 20).length ≤ 63 := by rw [← eme]; exact hO5.ml hs4
  have hX6 := (c6.2 B (by omega) (by omega)).trans hX5
  obtain ⟨cn6, d6⟩ := m6.c11
  conv => whnf
  refine ⟨_, jx_getF_of (hX6) rfl, ?_⟩
  conv => whnf
  refine ⟨jx_isC_of d6, hC _ _ _ _ (((k_number (d := d) (c := 278) (v := 1) m6 (by rw [List.length_append]; show 20 + _ + 12 ≤ 256; omega)).up (by omega)).mp ?_)⟩
  rintro r s7 ⟨rfl, c7, m7⟩
  have hX7 := (c7.2 B (by omega) (by omega)).trans hX6
  obtain ⟨cn7, d7⟩ := m7.c11
  have hR7 := (hR4.dch ((c5.tr c6).tr c7) ⟨cn7, d7⟩ (by obtain ⟨w, n, hD, -⟩ := m7; exact ⟨w, hD.2⟩)).1
  have hpg : (p : Int) < (g.1 7 0).toInt := by rw [og 7 0 (by omega) (by omega) (by omega) (by omega)]; exact hp
  have b2 := (hR7.pe hpg).2.1
  have eln : va_rf ((cc_ref B (g.1 13 p)).or (cc_ref B (g.1 14 p))) = .ref (B + 14 + 3 * c) := ln_ref (by unfold lnf; rw [og 13 p (by omega) (by omega) (by omega) (by omega), og 14 p (by omega) (by omega) (by omega) (by omega)]; exact hln)
  conv => whnf
  refine ⟨jx_isC_of b2, hC _ _ _ _ (((k_line (d := d) b2).up (by omega)).mp ?_)⟩
  rintro r s8 ⟨rfl, hs8⟩
  rw [hs8, eln]
  conv => whnf
  refine ⟨_, jx_getF_of (hX7) rfl, ?_⟩
  conv => whnf
  refine ⟨_, jx_getF_of (d7) rfl, ?_⟩
  conv => whnf
  refine ⟨_, jx_getF_of (hX7) rfl, ?_⟩
  conv => whnf
  refine ⟨jx_isC_of d7, hC _ _ _ _ (((k_finish (d := d) m7 rfl).up (by omega)).mp ?_)⟩
  rintro r s9 ⟨rfl, c9, d9, w9, e9, f9⟩
  obtain ⟨hR9, hk9⟩ := hR4.dch (((c5.tr c6).tr c7).tr c9) d9 ⟨w9, e9⟩
  have hlen := m7.len
  conv => whnf
  have hce := (hR9.2.2.1 c hc).1
  have hls9 : g.1 2 0 = lsum G 8 := by rw [og 2 0 (by omega) (by omega) (by omega) (by omega)]; exact hls
  refine ⟨jx_isC_of hce, hC _ _ _ _ (((k_sendR (d := d) (cv := R_conn f p) ⟨G, hR9, hls9⟩ hc (by rw [hcn]; exact hln) (by rw [og 26 _ (by omega) (by omega) (by omega) (by omega)]; exact h26) e9 (n := (((R_hd 128 280 0 (f.1 34 0) (f.1 34 0) ++ R_me f (R_hs f) 20) ++ R_nm 278 1).length / 4)) (by omega) (by omega) (i32_ofNat (by omega)) (by omega) f9).up (by omega)).mp ?_)⟩
  rintro r s10 ⟨rfl, hW10, hk10⟩
  conv => whnf
  refine ⟨rfl, ?_, (((hk1.tr hk2).tr hk4).tr hk9).tr hk10⟩
  have e : R_sendWatch f p = R_msg g ((R_hd 128 280 0 (f.1 34 0) (f.1 34 0) ++ R_me f (R_hs f) 20) ++ R_nm 278 1) (R_conn f p) := by
    unfold R_sendWatch R_sendWatch0
    rw [← hg0, ← List.append_assoc, hg, R_msg_comm (by omega) (by omega) (by omega) (by omega) (by omega) (by omega), R_msg_comm (by omega) (by omega) (by omega) (by omega) (by omega) (by omega)]
    have e1 : ∀ M, (rf_ui (R_msg g0 M (R_conn f p)) 16 p 1).1 1 0 = (rf_ui g0 16 p 1).1 1 0 := fun M => by rw [rf_ui_ne (by omega), rf_ui_ne (by omega), R_msg_o (by omega) (by omega) (by omega) (by omega) (by omega)]
    rw [e1]
  rw [e]
  exact hW10
theorem k_sendEnding {cause : Int32} (hW : RW th B b xl σ f A T) (hp : (p : Int) < (f.1 7 0).toInt) (hc : c < 8) (hln : (lnf f p).toInt = ((c + 1 : Nat) : Int)) (hcn : R_conn f p = lnf f p) (h26 : ¬ f.1 26 (c + 1) = 0) (h34 : ¬ f.1 34 0 = 0) : jc th (d + 3) 155 [.ref B, .ref (A 6 p), .int cause] σ (fun r σ' => r = none ∧ RW th B b xl σ' (R_sendEnding f p cause) A T ∧ kp B σ σ') := by
  obtain ⟨G, hR, hls⟩ := hW
  have hX := hR.X
  refine cl_go dt_155 80 [] dt_155_k rfl ?_
  intro C J hC hJ
  conv => whnf
  refine ⟨_, jx_getF_of (hX) rfl, ?_⟩
  conv => whnf
  refine putK hX rfl (fit_i _) (fun s1 p1 o1 n1 => ?_)
  conv => whnf
  obtain ⟨hR1, hk1⟩ := hR.hop p1 o1 n1
  have hp1 := ui7 (f := f) (k := 34) (j := 0) (x := f.1 34 0 + 1) (by omega) hp
  obtain ⟨a1, a2, a3, a6⟩ := hR1.pe hp1
  refine putK a2 rfl (fit_i _) (fun s2 p2 o2 n2 => ?_)
  conv => whnf
  refine putK p2 rfl (fit_z (Or.inr rfl)) (fun s3 p3 o3 n3 => ?_)
  conv => whnf
  obtain ⟨g, hg⟩ : ∃ g, g = rf_ui (rf_ui f 34 0 (f.1 34 0 + 1)) 22 p (f.1 34 0) := ⟨_, rfl⟩
  obtain ⟨G', hG'⟩ : ∃ G' : Nat → Nat → Int32, G' = fun q j => if q = 2 ∧ j = p then f.1 34 0 else G q j := ⟨_, rfl⟩
  have hR4 : RelC th B b xl s3 g A G' T := by
    refine hR1.peer hp1 (fun q hq => (o3 q hq).trans (o2 q hq)) (n3.trans n2) (fun q j hq _ _ _ => by rw [hg, rf_ui_ne (by omega)]) (fun _ _ _ _ => by rw [hg]; rfl) (fun q j hq => by rw [hG']; exact if_neg hq) ?_ (fun _ => ?_)
    · rw [p3, hg, hG']
      simp [cp_e, lim, rf_ui, Int32.sub_add_cancel, h34]
    · rw [hg, rf_ui_eq, hG']
      exact if_pos ⟨rfl, rfl⟩
  have hk2 : kp B s1 s3 := ⟨n3.trans n2, fun q q1 q2 => (o3 q (by have := a1.1; omega)).trans (o2 q (by have := a1.1; omega))⟩
  have og : ∀ q j, q ≠ 34 → ¬ (q = 22 ∧ j = p) → g.1 q j = f.1 q j := fun q j h1 h2 => by rw [hg, rf_ui_ne h2, rf_ui_ne (fun e => h1 e.1)]
  have e34 : g.1 34 0 - 1 = f.1 34 0 := by rw [hg, rf_ui_ne (by omega), rf_ui_eq]; exact Int32.add_sub_cancel _ _
  have ehs : R_hs g = R_hs f := by unfold R_hs; rw [og 6 0 (by omega) (by omega)]
  have eme : R_me g (R_hs g) 20 = R_me f (R_hs f) 20 := by rw [ehs]; exact R_me_eq (fun q => og 5 q (by omega) (by omega)) (og 6 0 (by omega) (by omega))
  have hX4 := hR4.X
  have hO4 := hR4.dO
  have hs4 := hR4.hs
  obtain ⟨⟨cn, d1⟩, ⟨w, d2⟩, -⟩ := hR4.2.1
  refine ⟨_, jx_getF_of (hX4) rfl, ?_⟩
  conv => whnf
  refine ⟨_, jx_getF_of (hX4) rfl, ?_⟩
  conv => whnf
  refine ⟨_, jx_getF_of (hX4) rfl, ?_⟩
  conv => whnf
  refine ⟨jx_isC_of d1, hC _ _ _ _ (((k_begin (d := d) (th := th) (fl := 128) (c := 282) (a := 0) d1 d2 (by decide +kernel)).up (by omega)).mp ?_)⟩
  rintro r s5 ⟨rfl, c5, m5⟩
  rw [e34] at m5
  have hX5 := (c5.2 B (by omega) (by omega)).trans hX4
  have hO5 := hO4.mv c5
  obtain ⟨cn5, d5⟩ := m5.c11
  conv => whnf
  refine ⟨_, jx_getF_of (hX5) rfl, ?_⟩
  conv => whnf
  refine ⟨jx_isC_of d5, hC _ _ _ _ (((k_originR (d := d) m5 hO5 hs4 (by show 20 ≤ 190; omega)).up (by omega)).mp ?_)⟩
  rintro r s6 ⟨rfl, c6, m6⟩
  rw [eme] at m6
  have hml : (R_me f (R_hs f) 20).length ≤ 63 := by rw [← eme]; exact hO5.ml hs4
  have hX6 := (c6.2 B (by omega) (by omega)).trans hX5
  obtain ⟨cn6, d6⟩ := m6.c11
  conv => whnf
  refine ⟨_, jx_getF_of (hX6) rfl, ?_⟩
  conv => whnf
  refine ⟨jx_isC_of d6, hC _ _ _ _ (((k_number (d := d) (c := 273) (v := cause) m6 (by rw [List.length_append]; show 20 + _ + 12 ≤ 256; omega)).up (by omega)).mp ?_)⟩
  rintro r s7 ⟨rfl, c7, m7⟩
  have hX7 := (c7.2 B (by omega) (by omega)).trans hX6
  obtain ⟨cn7, d7⟩ := m7.c11
  have hR7 := (hR4.dch ((c5.tr c6).tr c7) ⟨cn7, d7⟩ (by obtain ⟨w, n, hD, -⟩ := m7; exact ⟨w, hD.2⟩)).1
  have hpg : (p : Int) < (g.1 7 0).toInt := by rw [og 7 0 (by omega) (by omega)]; exact hp
  have b2 := (hR7.pe hpg).2.1
  have eln : va_rf ((cc_ref B (g.1 13 p)).or (cc_ref B (g.1 14 p))) = .ref (B + 14 + 3 * c) := ln_ref (by unfold lnf; rw [og 13 p (by omega) (by omega), og 14 p (by omega) (by omega)]; exact hln)
  conv => whnf
  refine ⟨jx_isC_of b2, hC _ _ _ _ (((k_line (d := d) b2).up (by omega)).mp ?_)⟩
  rintro r s8 ⟨rfl, hs8⟩
  rw [hs8, eln]
  conv => whnf
  refine ⟨_, jx_getF_of (hX7) rfl, ?_⟩
  conv => whnf
  refine ⟨_, jx_getF_of (d7) rfl, ?_⟩
  conv => whnf
  refine ⟨_, jx_getF_of (hX7) rfl, ?_⟩
  conv => whnf
  refine ⟨jx_isC_of d7, hC _ _ _ _ (((k_finish (d := d) m7 rfl).up (by omega)).mp ?_)⟩
  rintro r s9 ⟨rfl, c9, d9, w9, e9, f9⟩
  obtain ⟨hR9, hk9⟩ := hR4.dch (((c5.tr c6).tr c7).tr c9) d9 ⟨w9, e9⟩
  have hlen := m7.len
  conv => whnf
  have hce := (hR9.2.2.1 c hc).1
  have hls9 : g.1 2 0 = lsum G' 8 := by
    rw [og 2 0 (by omega) (by omega), hls]
    exact (lsum_eq (by rw [hG']; exact if_neg (by omega)) 8 (fun c _ => by rw [hG']; exact if_neg (by omega))).symm
  refine ⟨jx_isC_of hce, hC _ _ _ _ (((k_sendR (d := d) (cv := R_conn f p) ⟨G', hR9, hls9⟩ hc (by rw [hcn]; exact hln) (by rw [og 26 _ (by omega) (by omega)]; exact h26) e9 (n := (((R_hd 128 282 0 (f.1 34 0) (f.1 34 0) ++ R_me f (R_hs f) 20) ++ R_nm 273 cause).length / 4)) (by omega) (by omega) (i32_ofNat (by omega)) (by omega) f9).up (by omega)).mp ?_)⟩
  rintro r s10 ⟨rfl, hW10, hk10⟩
  conv => whnf
  refine ⟨rfl, ?_, ((hk1.tr hk2).tr hk9).tr hk10⟩
  unfold R_sendEnding
  rw [← hg, ← List.append_assoc]
  exact hW10
theorem k_becomeOpen {s : Int32} (hW : RW th B b xl σ f A T) (hp : (p : Int) < (f.1 7 0).toInt) (hc : c < 8) (hln : (lnf f p).toInt = ((c + 1 : Nat) : Int)) (hcn : R_conn (R_enter f p s) p = lnf f p) (h26 : ¬ f.1 26 (c + 1) = 0) : jc th (d + 4) 60 [.ref B, .ref (A 6 p), .int s] σ (fun r σ' => r = none ∧ RW th B b xl σ' (R_bopen (R_enter f p s) p) A T ∧ kp B σ σ') := by
  have hX : jx_isC σ B 0 = true := by obtain ⟨G, hR, -⟩ := hW; exact jx_isC_of hR.X
  refine cl_go dt_60 80 [] dt_60_k rfl ?_
  intro C J hC hJ
  conv => whnf
  refine ⟨hX, hC _ _ _ _ (((k_enter (d := d) (s := s) hW hp).up (by omega)).mp ?_)⟩
  rintro r s1 ⟨rfl, ⟨G, hR1, hls1⟩, hk1⟩
  obtain ⟨g, hg⟩ : ∃ g, g = R_enter f p s := ⟨_, rfl⟩
  rw [← hg] at hR1 hls1 hcn ⊢
  have og : ∀ q j, q ≠ 11 → q ≠ 12 → g.1 q j = f.1 q j := fun q j h1 h2 => by rw [hg]; exact R_enter_o h1 h2
  have hpg : (p : Int) < (g.1 7 0).toInt := by rw [og 7 0 (by omega) (by omega)]; exact hp
  obtain ⟨a1, a2, a3, a6⟩ := hR1.pe hpg
  conv => whnf
  refine ⟨_, jx_getF_of (a2) rfl, ?_⟩
  conv => whnf
  refine ⟨fun (h : ¬ g.1 15 p = 0) => ?_, fun (h : ¬ ¬ g.1 15 p = 0) => ?_⟩
  · conv => whnf
    refine putK a2 rfl (fit_i _) (fun s2 p2 o2 n2 => ?_)
    conv => whnf
    refine putK p2 rfl (fit_i _) (fun s3 p3 o3 n3 => ?_)
    conv => whnf
    obtain ⟨e, he⟩ : ∃ e, e = rf_ui (rf_ui g 15 p 4) 19 p 0 := ⟨_, rfl⟩
    obtain ⟨hR3, hk3⟩ := hR1.pe1 (σ' := s3) (f' := e) hpg (by rw [p3, he]; simp [cp_e, lim, rf_ui]) (fun q hq => (o3 q hq).trans (o2 q hq)) (n3.trans n2) (by rw [he]; exact ui_pe ⟨by omega, by omega⟩ (ui_pe ⟨by omega, by omega⟩ (fun _ _ _ => rfl))) (by rw [he]; rfl) (by rw [he, rf_ui_ne (by omega), rf_ui_ne (by omega)])
    have oe : ∀ q j, q ≠ 15 → q ≠ 19 → e.1 q j = g.1 q j := fun q j h1 h2 => by rw [he, rf_ui_ne (fun z => h2 z.1), rf_ui_ne (fun z => h1 z.1)]
    have el : lnf e p = lnf f p := by unfold lnf; rw [oe 13 p (by omega) (by omega), oe 14 p (by omega) (by omega), og 13 p (by omega) (by omega), og 14 p (by omega) (by omega)]
    refine ⟨jx_isC_of hR3.X, hC _ _ _ _ ((k_sendWatch (d := d) (c := c) ⟨G, hR3, by rw [oe 2 0 (by omega) (by omega)]; exact hls1⟩ (by rw [oe 7 0 (by omega) (by omega)]; exact hpg) hc (by rw [el]; exact hln) (by rw [el, R_conn_eq (f := g) (oe 11 p (by omega) (by omega)) (oe 13 p (by omega) (by omega)) (oe 14 p (by omega) (by omega))]; exact hcn) (by rw [oe 26 _ (by omega) (by omega), og 26 _ (by omega) (by omega)]; exact h26)).mp ?_)⟩
    rintro r s4 ⟨rfl, hW4, hk4⟩
    conv => whnf
    refine ⟨rfl, ?_, (hk1.tr hk3).tr hk4⟩
    unfold R_bopen
    rw [if_neg h, ← he]
    exact hW4
  · have h := Decidable.not_not.mp h
    conv => whnf
    refine putK a2 rfl (fit_i _) (fun s2 p2 o2 n2 => ?_)
    conv => whnf
    obtain ⟨e, he⟩ : ∃ e, e = rf_ui g 15 p 1 := ⟨_, rfl⟩
    obtain ⟨hR3, hk3⟩ := hR1.pe1 (σ' := s2) (f' := e) hpg (by rw [p2, he]; simp [cp_e, lim, rf_ui]) o2 n2 (by rw [he]; exact ui_pe ⟨by omega, by omega⟩ (fun _ _ _ => rfl)) (by rw [he]; rfl) (by rw [he, rf_ui_ne (by omega)])
    refine ⟨jx_isC_of hR3.X, hC _ _ _ _ (((k_setTimer (d := d) hR3 (by rw [he]; exact ui7 (by omega) hpg)).up (by omega)).mp ?_)⟩
    rintro r s4 ⟨rfl, hR4, hk4⟩
    conv => whnf
    refine ⟨rfl, ?_, (hk1.tr hk3).tr hk4⟩
    unfold R_bopen
    rw [if_pos h, ← he, show g.1 1 0 = e.1 1 0 by rw [he, rf_ui_ne (by omega)]]
    exact ⟨G, hR4, by rw [rf_ui_ne (by omega), he, rf_ui_ne (by omega)]; exact hls1⟩
theorem k_openByCame (hW : RW th B b xl σ f A T) (hp : (p : Int) < (f.1 7 0).toInt) (hc : c < 8) (h14 : (f.1 14 p).toInt = ((c + 1 : Nat) : Int)) (h13 : f.1 13 p = 0) (h26 : ¬ f.1 26 (c + 1) = 0) : jc th (d + 5) 59 [.ref B, .ref (A 6 p)] σ (fun r σ' => r = none ∧ RW th B b xl σ' (R_bopen (R_enter (R_answerCame f p) p 5) p) A T ∧ kp B σ σ') := by
  obtain ⟨G, hR, hls⟩ := hW
  have hX := hR.X
  have hO := hR.dO
  have hs := hR.hs
  obtain ⟨a1, a2, a3, a6⟩ := hR.pe hp
  obtain ⟨⟨cn, d1⟩, ⟨w, d2⟩, -⟩ := hR.2.1
  have e14 : cc_ref B (f.1 14 p) = some (B + 14 + 3 * c) := by
    unfold cc_ref
    rw [if_neg (fun z => by rw [z] at h14; have : (0 : Int32).toInt = 0 := by decide
                            omega), i32_nat h14]
    rfl
  have hml := hO.ml hs
  refine cl_go dt_59 120 [] dt_59_k rfl ?_
  intro C J hC hJ
  conv => whnf
  refine ⟨_, jx_getF_of (hX) rfl, ?_⟩
  conv => whnf
  refine ⟨_, jx_getF_of (a2) rfl, ?_⟩
  conv => whnf
  refine ⟨_, jx_getF_of (a2) rfl, ?_⟩
  conv => whnf
  refine ⟨_, jx_getF_of (a2) rfl, ?_⟩
  conv => whnf
  have hoct : ow ((f.1 23 p &&& 64) <<< 24 ||| 257) = om (R_p1 (f.1 23 p &&& 64) ++ R_p3 257) := by
    rcases and64 (f.1 23 p) with e | e <;> rw [e] <;> decide +kernel
  refine ⟨jx_isC_of d1, hC _ _ _ _ (((k_begin (d := d) (th := th) (a := 0) d1 d2 hoct).up (by omega)).mp ?_)⟩
  rintro r s1 ⟨rfl, c1, m1⟩
  have hX1 := (c1.2 B (by omega) (by omega)).trans hX
  have hO1 := hO.mv c1
  obtain ⟨cn1, e1⟩ := m1.c11
  conv => whnf
  refine ⟨_, jx_getF_of (hX1) rfl, ?_⟩
  conv => whnf
  refine ⟨jx_isC_of e1, hC _ _ _ _ (((k_number (d := d) (c := 268) (v := 2001) m1 (by show 20 + 12 ≤ 256; omega)).up (by omega)).mp ?_)⟩
  rintro r s2 ⟨rfl, c2, m2⟩
  have hX2 := (c2.2 B (by omega) (by omega)).trans hX1
  have hO2 := hO1.mv c2
  obtain ⟨cn2, e2⟩ := m2.c11
  conv => whnf
  refine ⟨_, jx_getF_of (hX2) rfl, ?_⟩
  conv => whnf
  refine ⟨jx_isC_of e2, hC _ _ _ _ (((k_originR (d := d) m2 hO2 hs (by show 32 ≤ 190; omega)).up (by omega)).mp ?_)⟩
  rintro r s3 ⟨rfl, c3, m3⟩
  have hX3 := (c3.2 B (by omega) (by omega)).trans hX2
  obtain ⟨cn3, e3⟩ := m3.c11
  conv => whnf
  refine ⟨_, jx_getF_of (hX3) rfl, ?_⟩
  conv => whnf
  refine ⟨jx_isC_of e3, hC _ _ _ _ (((k_intro (d := d) (t := 20 + 12 + R_ml (R_hs f) (20 + 12)) m3 (by rw [List.length_append]; show 32 + _ + 52 ≤ 256; omega) (R_ml_4 (by omega))).up (by omega)).mp ?_)⟩
  rintro r s4 ⟨rfl, c4, m4⟩
  have hX4 := (c4.2 B (by omega) (by omega)).trans hX3
  obtain ⟨cn4, e4⟩ := m4.c11
  obtain ⟨hR4, hk4⟩ := hR.dch (((c1.tr c2).tr c3).tr c4) ⟨cn4, e4⟩ (by obtain ⟨w, n, hD, -⟩ := m4; exact ⟨w, hD.2⟩)
  have b2 := (hR4.pe hp).2.1
  unfold cp_e at b2
  rw [e14, show va_rf (some (B + 14 + 3 * c)) = Value.ref (B + 14 + 3 * c) from rfl] at b2
  conv => whnf
  refine ⟨_, jx_getF_of (b2) rfl, ?_⟩
  conv => whnf
  refine ⟨_, jx_getF_of (b2) rfl, ?_⟩
  conv => whnf
  refine ⟨_, jx_getF_of (hX4) rfl, ?_⟩
  conv => whnf
  refine ⟨_, jx_getF_of (e4) rfl, ?_⟩
  conv => whnf
  refine ⟨_, jx_getF_of (hX4) rfl, ?_⟩
  conv => whnf
  refine ⟨jx_isC_of e4, hC _ _ _ _ (((k_finish (d := d) m4 rfl).up (by omega)).mp ?_)⟩
  rintro r s5 ⟨rfl, c5, d5, w5, e5, f5⟩
  obtain ⟨hR5, hk5⟩ := hR.dch ((((c1.tr c2).tr c3).tr c4).tr c5) d5 ⟨w5, e5⟩
  have hlen := m4.len
  conv => whnf
  have hce := (hR5.2.2.1 c hc).1
  refine ⟨jx_isC_of hce, hC _ _ _ _ (((k_sendR (d := d) (cv := f.1 14 p) ⟨G, hR5, hls⟩ hc h14 h26 e5 (n := ((((R_hd (f.1 23 p &&& 64) 257 0 (f.1 24 p) (f.1 25 p) ++ R_nm 268 2001) ++ R_me f (R_hs f) 20) ++ R_ad (20 + 12 + R_ml (R_hs f) (20 + 12))).length / 4)) (by omega) (by omega) (i32_ofNat (by omega)) (by omega) f5).up (by omega)).mp ?_)⟩
  rintro r s6 ⟨rfl, hW6, hk6⟩
  have eA : R_answerCame f p = R_msg f ((((R_hd (f.1 23 p &&& 64) 257 0 (f.1 24 p) (f.1 25 p) ++ R_nm 268 2001) ++ R_me f (R_hs f) 20) ++ R_ad (20 + 12 + R_ml (R_hs f) (20 + 12)))) (f.1 14 p) := by
    unfold R_answerCame
    rw [R_me_s (s := 20 + 12) (by omega)]
    simp only [List.append_assoc]
  rw [← eA] at hW6
  obtain ⟨g, hg⟩ : ∃ g, g = R_answerCame f p := ⟨_, rfl⟩
  rw [← hg] at hW6 ⊢
  have og : ∀ q j, q ≠ 65 → q ≠ 2 → q ≠ 31 → q ≠ 32 → q ≠ 66 → g.1 q j = f.1 q j := fun q j h1 h2 h3 h4 h5 => by rw [hg]; exact R_answerCame_o h1 h2 h3 h4 h5
  have hX6 : jx_isC s6 B 0 = true := by obtain ⟨G6, hR6, -⟩ := hW6; exact jx_isC_of hR6.X
  have eln : lnf g p = f.1 14 p := by unfold lnf; rw [og 13 p (by omega) (by omega) (by omega) (by omega) (by omega), if_pos h13, og 14 p (by omega) (by omega) (by omega) (by omega) (by omega)]
  conv => whnf
  refine ⟨hX6, hC _ _ _ _ ((k_becomeOpen (d := d) (s := 5) (c := c) hW6 (by rw [og 7 0 (by omega) (by omega) (by omega) (by omega) (by omega)]; exact hp) hc (by rw [eln]; exact h14) ?_ (by rw [og 26 _ (by omega) (by omega) (by omega) (by omega) (by omega)]; exact h26)).mp ?_)⟩
  · rw [eln]
    unfold R_conn R_enter
    rw [rf_ui_ne (by omega), rf_ui_eq, rf_ui_ne (by omega), rf_ui_ne (by omega), og 14 p (by omega) (by omega) (by omega) (by omega) (by omega), if_neg]
    rintro (z | z)
    · exact absurd z (by decide)
    · rw [z] at h14
      have : (0 : Int32).toInt = 0 := by decide
      omega
  · rintro r s7 ⟨rfl, hW7, hk7⟩
    conv => whnf
    exact ⟨rfl, hW7, (hk5.tr hk6).tr hk7⟩
end JxSenders2
