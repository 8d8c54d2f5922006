/-! THE REFERENCE: a CREDIT -/
def R_teT (g : jx_F) : List Int32 := if g.1 89 0 = 0 then [] else R_grT (g.2 90 0)
def R_enT (g : jx_F) : List Int32 := if g.1 91 0 < 0 then [] else R_nm 422 (g.1 91 0)
def R_crT (g : jx_F) : List Int32 := R_ans g (g.1 88 0) ++ (R_nm 258 4 ++ (R_nm 416 (R_n4 g 5) ++ (R_nm 415 (R_n4 g 6) ++ (R_teT g ++ R_enT g))))
def R_cr0 (f : jx_F) : jx_F := rf_ui (rf_ui f 89 0 0) 91 0 (-1)
noncomputable def R_cr1 (f : jx_F) (nA mm : Nat) (pv : Int32) : jx_F := rf_ui (R_dec (R_cr0 f) nA mm pv).2 88 0 (R_dec (R_cr0 f) nA mm pv).1
noncomputable def R_cr2 (f : jx_F) (nA mm n : Nat) (cv pv : Int32) : jx_F := R_go (R_keep (R_bs (rf_ui (R_cr1 f nA mm pv) 66 0 0) (R_crT (R_cr1 f nA mm pv))) n) cv
/-- n0: how many were KEPT, n: how many still are -/
noncomputable def R_crd (f0 : jx_F) (nA mm n0 n : Nat) (cv pv : Int32) : jx_F := if R_ksf (R_stale n0 f0) n 0 = 33 then R_cr2 (R_stale n0 f0) nA mm n cv pv else R_go (R_aga (R_stale n0 f0) (R_ksf (R_stale n0 f0) n 0)) cv
section JxRefcred
variable {th : Nat → Nat} {σ0 : jx_S} {m d n s i k b mm nA n0 c : Nat} {f g f0 : jx_F} {av sv pv cv : Int32} {v : Int64} {Q : Option Value → jx_F → Prop}
theorem fst_o {q j : Nat} (h : ¬ (40 ≤ q ∧ q ≤ 48)) (h2 : q ≠ 89) : (R_fst f n mm pv).2.1 q j = f.1 q j := by
  unfold R_fst
  split
  · rfl
  split
  · rfl
  split
  · rfl
  show (R_grnt _ _ _).1 q j = _
  unfold R_grnt
  show (rf_ui _ 89 0 1).1 q j = _
  rw [rf_ui_ne (by omega)]
  show (R_of _ _ _).1 q j = _
  rw [of_o (by omega) (by omega) (by omega), beg0_o (by omega)]
theorem evt_o {q j : Nat} (h2 : q ≠ 91) : (R_evt f n av v).2.1 q j = f.1 q j := by
  unfold R_evt
  split
  · rfl
  split
  · exact rf_ui_ne (by omega)
  split
  · split
    · rfl
    · rfl
  split
  · rfl
  · rfl
theorem gon_o {q j : Nat} (h : ¬ (40 ≤ q ∧ q ≤ 48)) (h2 : q ≠ 89) : (R_gon f mm pv).2.1 q j = f.1 q j := by
  unfold R_gon
  split
  · rfl
  split
  · rfl
  split
  · show (R_forget _ _ _).1 q j = _
    rw [fg_o h]
    rfl
  split
  · show (R_of _ _ _).1 q j = _
    rw [of_o (by omega) (by omega) (by omega)]
    rfl
  show (R_grnt _ _ _).1 q j = _
  unfold R_grnt
  show (rf_ui _ 89 0 1).1 q j = _
  rw [rf_ui_ne (by omega)]
  show (R_of _ _ _).1 q j = _
  rw [of_o (by omega) (by omega) (by omega)]
  rfl
theorem dec_o {q j : Nat} (h : ¬ (40 ≤ q ∧ q ≤ 48)) (h2 : q ≠ 89) (h3 : q ≠ 91) : (R_dec f n mm pv).2.1 q j = f.1 q j := by
  unfold R_dec
  split
  · rfl
  split
  · exact fst_o h h2
  split
  · exact evt_o h3
  · exact gon_o h h2
theorem cr0_o {q j : Nat} (h2 : q ≠ 89) (h3 : q ≠ 91) : (R_cr0 f).1 q j = f.1 q j := by
  unfold R_cr0
  rw [rf_ui_ne (by omega), rf_ui_ne (by omega)]
theorem cr1_o {q j : Nat} (h : ¬ (40 ≤ q ∧ q ≤ 48)) (h1 : q ≠ 88) (h2 : q ≠ 89) (h3 : q ≠ 91) : (R_cr1 f n mm pv).1 q j = f.1 q j := by
  unfold R_cr1
  rw [rf_ui_ne (by omega), dec_o h h2 h3, cr0_o h2 h3]
theorem R_cok.eq {f' : jx_F} (h : R_cok f b n mm) (ho : ∀ q j, q < 85 → f'.1 q j = f.1 q j) : R_cok f' b n mm := by
  obtain ⟨h1, h2, h3, h4, h5, h6, ⟨S, h7, h7'⟩, h8, t0, t1, t2, n5, n6, n8, u83, u84, h9⟩ := h
  refine ⟨by rw [ho _ _ (by omega)]; exact h1, fun z => ?_, by rw [ho _ _ (by omega)]; exact h3, h4, by rw [ho _ _ (by omega)]; exact h5, h6, ⟨S, by rw [ho _ _ (by omega), ho _ _ (by omega)]; exact h7, by rw [ho _ _ (by omega)]; exact h7'⟩, fun k hk => by rw [ho _ _ (by omega)]; exact h8 k hk, tok_eq t0 (ho _ _ (by omega)) (ho _ _ (by omega)) (ho _ _ (by omega)), tok_eq t1 (ho _ _ (by omega)) (ho _ _ (by omega)) (ho _ _ (by omega)), tok_eq t2 (ho _ _ (by omega)) (ho _ _ (by omega)) (ho _ _ (by omega)), nok_eq n5 (ho _ _ (by omega)) (ho _ _ (by omega)), nok_eq n6 (ho _ _ (by omega)) (ho _ _ (by omega)), fun z => nok_eq (n8 (by rw [ho _ _ (by omega)] at z; exact z)) (ho _ _ (by omega)) (ho _ _ (by omega)), uok_eq u83 (ho _ _ (by omega)) (ho _ _ (by omega)), uok_eq u84 (ho _ _ (by omega)) (ho _ _ (by omega)), fun s hs => by rw [ho _ _ (by omega)]; exact h9 s hs⟩
  rw [ho _ _ (by omega)] at z ⊢
  rw [ho _ _ (by omega)]
  exact h2 z
theorem n4_eq {f' : jx_F} (h : ∀ q j, q = 29 ∨ q = 67 ∨ q = 77 → f'.1 q j = f.1 q j) : R_n4 f' k = R_n4 f k := by
  unfold R_n4 oct
  rw [h 67 0 (by omega), h 77 k (by omega)]
  congr 1
  funext j
  rw [h 29 _ (by omega)]
theorem teT_l : (R_teT g).length ≤ 48 ∧ (R_teT g).length % 4 = 0 := by
  unfold R_teT
  split
  · exact ⟨by decide, by decide⟩
  · exact ⟨(by decide : 36 ≤ 48), (by decide : 36 % 4 = 0)⟩
theorem enT_l : (R_enT g).length ≤ 12 ∧ (R_enT g).length % 4 = 0 := by
  unfold R_enT
  split
  · exact ⟨by decide, by decide⟩
  · exact ⟨(by decide : 12 ≤ 12), (by decide : 12 % 4 = 0)⟩
theorem crT_l (ho : R_ok g) (hs : R_sok g) : (R_crT g).length ≤ 244 ∧ (R_crT g).length % 4 = 0 := by
  obtain ⟨a1, a2⟩ := R_ans_l (res := g.1 88 0) ho hs
  obtain ⟨b1, b2⟩ := teT_l (g := g)
  obtain ⟨c1, c2⟩ := enT_l (g := g)
  unfold R_crT
  rw [List.length_append, List.length_append, List.length_append, List.length_append, List.length_append]
  show _ + (12 + (12 + (12 + _))) ≤ 244 ∧ (_ + (12 + (12 + (12 + _)))) % 4 = 0
  omega
theorem r_cr_79 (hok : R_ok f) (h59 : (f.1 59 0).toInt = (n : Int)) (hn : n ≤ 32) (h1 : R_tok f 1) (hc : cv.toInt = (c : Int)) (hc8 : c ≤ 8) (go : ∀ k j, k ≠ 65 → k ≠ 66 → g.1 k j = f.1 k j) (gl : g.2 = f.2) (hs : (g.1 66 0).toInt = (s : Int)) (hs2 : s ≤ 182) (hQ : Q none (R_go (R_keep (R_bs g (R_teT f ++ R_enT f)) n) cv)) : jx_fj th (rf_g m) (rf σ0 m) (d + 5) 241 79 [(0, .ref 0), (1, .int cv)] [] g Q := by
  have t155 : ∀ (g : jx_F) (s : Nat), (g.1 66 0).toInt = (s : Int) → s ≤ 320 → (∀ k j, k ≠ 65 → k ≠ 66 → g.1 k j = f.1 k j) → Q none (R_go (R_keep g n) cv) → jx_fj th (rf_g m) (rf σ0 m) (d + 5) 241 155 [(0, .ref 0), (1, .int cv)] [] g Q := by
    intro g s hs hs3 go hq
    refine rf_at dt_241 40 [] dt_241_k (by decide +kernel) ?_
    intro C J hC hJ
    conv => whnf
    refine hC _ _ _ _ (((r_keep (d := d) (n := n) (by rw [go 59 0 (by omega) (by omega)]; exact h59) hn hs hs3 (tok_eq h1 (go _ _ (by omega) (by omega)) (go _ _ (by omega) (by omega)) (go _ _ (by omega) (by omega)))).up (by omega)).mp ?_)
    rintro r g1 ⟨rfl, hg1⟩
    conv => whnf
    have o1 : ∀ q j, q ≠ 65 → q ≠ 66 → ¬ (59 ≤ q ∧ q ≤ 64) → g1.1 q j = f.1 q j := fun q j w1 w2 w3 => by rw [hg1, keep_o w3, go q j w1 w2]
    have ok1 : R_ok g1 := hok.of (o1 _ _ (by omega) (by omega) (by omega)) (fun c => o1 _ _ (by omega) (by omega) (by omega)) (fun c => o1 _ _ (by omega) (by omega) (by omega))
    refine hC _ _ _ _ (((r_goK (d := d) (f := g1) (n := s) ok1 (fun q j _ _ => rfl) (by rw [hg1, keep_o (by omega)]; exact hs) (by omega) hc hc8).up (by omega)).mp ?_)
    rintro r g2 ⟨rfl, hg2⟩
    conv => whnf
    rw [hg2, hg1]
    exact hq
  have t137 : ∀ (g : jx_F) (s : Nat), (g.1 66 0).toInt = (s : Int) → s ≤ 300 → (∀ k j, k ≠ 65 → k ≠ 66 → g.1 k j = f.1 k j) → Q none (R_go (R_keep (R_bs g (R_enT f)) n) cv) → jx_fj th (rf_g m) (rf σ0 m) (d + 5) 241 137 [(0, .ref 0), (1, .int cv)] [] g Q := by
    intro g s hs hs3 go hq
    refine rf_at dt_241 40 [(155, [0, 1])] dt_241_k (by decide +kernel) ?_
    intro C J hC hJ
    conv => whnf
    rw [go 91 0 (by omega) (by omega)]
    unfold R_enT at hq
    refine ⟨fun (h2 : f.1 91 0 < 0) => ?_, fun (h2 : ¬ f.1 91 0 < 0) => ?_⟩
    · rw [if_pos h2] at hq
      conv => whnf
      exact hJ _ _ _ _ (t155 g s hs (by omega) go hq)
    · rw [if_neg h2] at hq
      conv => whnf
      rw [go 91 0 (by omega) (by omega)]
      refine hC _ _ _ _ (((r_putNumber (d := d) hs (by omega)).up (by omega)).mp ?_)
      rintro r g1 ⟨rfl, hg1⟩
      conv => whnf
      exact hJ _ _ _ _ (t155 g1 (s + 12) (by rw [hg1]; exact R_sz hs rfl (by omega)) (by omega) (fun q j z1 z2 => by rw [hg1, R_bs_o z1 z2, go q j z1 z2]) (by rw [hg1]; exact hq))
  refine rf_at dt_241 60 [(137, [0, 1])] dt_241_k (by decide +kernel) ?_
  intro C J hC hJ
  conv => whnf
  rw [go 89 0 (by omega) (by omega)]
  rw [R_bs_app] at hQ
  unfold R_teT at hQ
  refine ⟨fun (h2 : f.1 89 0 = 0) => ?_, fun (h2 : ¬ f.1 89 0 = 0) => ?_⟩
  · rw [if_pos h2] at hQ
    conv => whnf
    exact hJ _ _ _ _ (t137 g s hs (by omega) go hQ)
  · rw [if_neg h2] at hQ
    conv => whnf
    refine hC _ _ _ _ (((r_attribute (d := d) hs (by omega)).up (by omega)).mp ?_)
    rintro r g1 ⟨rfl, hg1⟩
    have z1 : (g1.1 66 0).toInt = ((s + 8 : Nat) : Int) := by rw [hg1]; exact R_sz hs rfl (by omega)
    conv => whnf
    refine hC _ _ _ _ (((r_attribute (d := d) z1 (by omega)).up (by omega)).mp ?_)
    rintro r g2 ⟨rfl, hg2⟩
    have z2 : (g2.1 66 0).toInt = ((s + 16 : Nat) : Int) := by rw [hg2]; exact R_sz z1 rfl (by omega)
    have l2 : g2.2 90 0 = f.2 90 0 := by rw [hg2, R_bs_l, hg1, R_bs_l, gl]
    conv => whnf
    rw [l2]
    refine hC _ _ _ _ (((r_put4 (d := d) z2 (by omega)).up (by omega)).mp ?_)
    rintro r g3 ⟨rfl, hg3⟩
    have z3 : (g3.1 66 0).toInt = ((s + 20 : Nat) : Int) := by rw [hg3]; exact R_sz z2 rfl (by omega)
    have l3 : g3.2 90 0 = f.2 90 0 := by rw [hg3, R_bs_l, l2]
    conv => whnf
    rw [l3]
    refine hC _ _ _ _ (((r_put4 (d := d) z3 (by omega)).up (by omega)).mp ?_)
    rintro r g4 ⟨rfl, hg4⟩
    have z4 : (g4.1 66 0).toInt = ((s + 24 : Nat) : Int) := by rw [hg4]; exact R_sz z3 rfl (by omega)
    conv => whnf
    refine hC _ _ _ _ (((r_putNumber (d := d) z4 (by omega)).up (by omega)).mp ?_)
    rintro r g5 ⟨rfl, hg5⟩
    have z5 : (g5.1 66 0).toInt = ((s + 36 : Nat) : Int) := by rw [hg5]; exact R_sz z4 rfl (by omega)
    conv => whnf
    refine hJ _ _ _ _ (t137 g5 (s + 36) z5 (by omega) (fun q j w1 w2 => by rw [hg5, R_bs_o w1 w2, hg4, R_bs_o w1 w2, hg3, R_bs_o w1 w2, hg2, R_bs_o w1 w2, hg1, R_bs_o w1 w2, go q j w1 w2]) ?_)
    have e : g5 = R_bs g (R_grT (f.2 90 0)) := by
      rw [hg5, hg4, hg3, hg2, hg1]
      unfold R_grT
      rw [R_bs_app, R_bs_app, R_bs_app, R_bs_app]
      rfl
    rw [e]
    exact hQ
theorem r_credit (hn0 : (f0.1 59 0).toInt = (n0 : Int)) (h320 : n0 ≤ 32) (hf : f = R_stale n0 f0) (hk2 : R_kok f n) (hok : R_ok f) (hsk : R_sok f) (hco : R_cok f b nA mm) (hc : cv.toInt = (c : Int)) (hc8 : c ≤ 8) : rfc th σ0 m (d + 8) 241 [.ref 0, .int cv, .int pv] f0 (fun r f' => r = none ∧ f' = R_crd f0 nA mm n0 n cv pv) := by
  have h1 : R_tok f 1 := hco.2.2.2.2.2.2.2.2.2.1
  refine rf_go dt_241 90 [(79, [0, 1])] dt_241_k (by decide +kernel) rfl ?_
  intro C J hC hJ
  conv => whnf
  refine hC _ _ _ _ (((r_again (d := d) hn0 h320 hf hk2 hok h1 hc hc8).up (by omega)).mp ?_)
  unfold R_crd
  rw [← hf]
  rintro r f1 (⟨e1, rfl, hf1⟩ | ⟨e1, rfl, hf1⟩)
  · rw [if_neg e1]
    conv => whnf
    refine jx_no (show ¬ (1 : Int32) = 0 by decide) ?_
    conv => whnf
    exact ⟨rfl, hf1⟩
  · rw [if_pos e1, hf1]
    conv => whnf
    refine jx_yes (show (0 : Int32) = 0 from rfl) ?_
    conv => whnf
    refine ⟨by decide, ?_⟩
    conv => whnf
    have e0 : rf_ui (rf_ui f 89 0 0) 91 0 (-1) = R_cr0 f := rfl
    rw [e0]
    refine hC _ _ _ _ ((r_decide (d := d) (hco.eq (fun q j hq => cr0_o (by omega) (by omega)))).mp ?_)
    rintro r g1 ⟨rfl, hg1⟩
    conv => whnf
    obtain ⟨F, hF⟩ : ∃ F, F = R_cr1 f nA mm pv := ⟨_, rfl⟩
    have eF : rf_ui g1 88 0 (R_dec (R_cr0 f) nA mm pv).1 = F := by rw [hg1, hF]; rfl
    rw [eF]
    have oF : ∀ q j, ¬ (40 ≤ q ∧ q ≤ 48) → q ≠ 88 → q ≠ 89 → q ≠ 91 → F.1 q j = f.1 q j := fun q j a1 a2 a3 a4 => by rw [hF]; exact cr1_o a1 a2 a3 a4
    have okF : R_ok F := hok.of (oF _ _ (by omega) (by omega) (by omega) (by omega)) (fun c => oF _ _ (by omega) (by omega) (by omega) (by omega)) (fun c => oF _ _ (by omega) (by omega) (by omega) (by omega))
    have skF : R_sok F := by
      unfold R_sok at hsk ⊢
      rw [oF 79 0 (by omega) (by omega) (by omega) (by omega), oF 67 0 (by omega) (by omega) (by omega) (by omega), oF 77 0 (by omega) (by omega) (by omega) (by omega), oF 78 0 (by omega) (by omega) (by omega) (by omega)]
      exact hsk
    obtain ⟨al, al4⟩ := R_ans_l (res := F.1 88 0) okF skF
    have hs0 : ((rf_ui F 66 0 0).1 66 0).toInt = ((0 : Nat) : Int) := by rw [rf_ui_eq]; decide
    refine hC _ _ _ _ (((r_answer (d := d) okF skF).up (by omega)).mp ?_)
    rintro r g2 ⟨rfl, hg2⟩
    have o2 : ∀ q j, q ≠ 65 → q ≠ 66 → g2.1 q j = F.1 q j := fun q j w1 w2 => by rw [hg2, R_bs_o w1 w2, rf_ui_ne (fun e => w2 e.1)]
    have z2 : (g2.1 66 0).toInt = (((R_ans F (F.1 88 0)).length : Nat) : Int) := by rw [hg2]; exact R_sz hs0 (by omega) (by omega)
    conv => whnf
    refine hC _ _ _ _ (((r_putNumber (d := d) z2 (by omega)).up (by omega)).mp ?_)
    rintro r g3 ⟨rfl, hg3⟩
    have o3 : ∀ q j, q ≠ 65 → q ≠ 66 → g3.1 q j = F.1 q j := fun q j w1 w2 => by rw [hg3, R_bs_o w1 w2, o2 q j w1 w2]
    have z3 : (g3.1 66 0).toInt = (((R_ans F (F.1 88 0)).length + 12 : Nat) : Int) := by rw [hg3]; exact R_sz z2 rfl (by omega)
    conv => whnf
    refine ⟨jx_in_nat (k := 5) (by decide) (by decide), ?_⟩
    conv => whnf
    refine hC _ _ _ _ (((r_n4 (d := d) (k := 5) (f := g3) (nok_eq hco.2.2.2.2.2.2.2.2.2.2.2.1 (by rw [o3 _ _ (by omega) (by omega), oF _ _ (by omega) (by omega) (by omega) (by omega)]) (by rw [o3 _ _ (by omega) (by omega), oF _ _ (by omega) (by omega) (by omega) (by omega)]))).up (by omega)).mp ?_)
    rintro r g4 ⟨rfl, hg4⟩
    rw [hg4, n4_eq (f := F) (fun q j hq => o3 q j (by omega) (by omega))]
    conv => whnf
    refine hC _ _ _ _ (((r_putNumber (d := d) z3 (by omega)).up (by omega)).mp ?_)
    rintro r g5 ⟨rfl, hg5⟩
    have o5 : ∀ q j, q ≠ 65 → q ≠ 66 → g5.1 q j = F.1 q j := fun q j w1 w2 => by rw [hg5, R_bs_o w1 w2, o3 q j w1 w2]
    have z5 : (g5.1 66 0).toInt = (((R_ans F (F.1 88 0)).length + 24 : Nat) : Int) := by rw [hg5]; exact R_sz z3 rfl (by omega)
    conv => whnf
    refine ⟨jx_in_nat (k := 6) (by decide) (by decide), ?_⟩
    conv => whnf
    refine hC _ _ _ _ (((r_n4 (d := d) (k := 6) (f := g5) (nok_eq hco.2.2.2.2.2.2.2.2.2.2.2.2.1 (by rw [o5 _ _ (by omega) (by omega), oF _ _ (by omega) (by omega) (by omega) (by omega)]) (by rw [o5 _ _ (by omega) (by omega), oF _ _ (by omega) (by omega) (by omega) (by omega)]))).up (by omega)).mp ?_)
    rintro r g6 ⟨rfl, hg6⟩
    rw [hg6, n4_eq (f := F) (fun q j hq => o5 q j (by omega) (by omega))]
    conv => whnf
    refine hC _ _ _ _ (((r_putNumber (d := d) z5 (by omega)).up (by omega)).mp ?_)
    rintro r g7 ⟨rfl, hg7⟩
    have o7 : ∀ q j, q ≠ 65 → q ≠ 66 → g7.1 q j = F.1 q j := fun q j w1 w2 => by rw [hg7, R_bs_o w1 w2, o5 q j w1 w2]
    have l7 : g7.2 = F.2 := by rw [hg7, R_bs_l, hg5, R_bs_l, hg3, R_bs_l, hg2, R_bs_l]; rfl
    have z7 : (g7.1 66 0).toInt = (((R_ans F (F.1 88 0)).length + 36 : Nat) : Int) := by rw [hg7]; exact R_sz z5 rfl (by omega)
    conv => whnf
    refine hJ _ _ _ _ (r_cr_79 (d := d + 2) (f := F) (n := n) okF (by rw [oF _ _ (by omega) (by omega) (by omega) (by omega)]; exact hk2.1) hk2.2.1 (tok_eq h1 (oF _ _ (by omega) (by omega) (by omega) (by omega)) (oF _ _ (by omega) (by omega) (by omega) (by omega)) (oF _ _ (by omega) (by omega) (by omega) (by omega))) hc hc8 o7 l7 z7 (by omega) ⟨rfl, ?_⟩)
    unfold R_crd
    rw [← hf, if_pos e1]
    unfold R_cr2
    rw [← hF]
    unfold R_crT
    rw [R_bs_app _ (R_ans F (F.1 88 0)), R_bs_app _ (R_nm 258 4), R_bs_app _ (R_nm 416 _), R_bs_app _ (R_nm 415 _), ← hg2, ← hg3, ← hg5, ← hg7]
end JxRefcred
