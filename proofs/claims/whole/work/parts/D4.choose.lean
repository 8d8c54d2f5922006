/-! THE CLASS: the CHOICE, a connection is gone, one is started -/
noncomputable def R_accepts (f : jx_F) (n a p : Nat) : jx_F := R_become (R_answerCame f p) n a p 5
noncomputable def R_choose (f : jx_F) (n a p : Nat) : jx_F := @ite _ (R_later f p) (Classical.propDecidable _) (R_accepts (R_shut f (f.1 13 p).toNatClampNeg) n a p) (R_become f n a p 4)
noncomputable def R_drop1 (g : jx_F) (n a p : Nat) (role : Int32) : jx_F := if g.1 11 p = 3 then (if role = 1 then R_accepts g n a p else R_become g n a p 1) else if g.1 11 p = 4 then (if role = 1 then R_accepts g n a p else R_become g n a p 2) else R_become g n a p 0
noncomputable def R_drop (f : jx_F) (n a c : Nat) : jx_F := if f.1 27 c = 0 then R_shut f c else R_drop1 (R_shut f c) n a ((f.1 27 c).toNatClampNeg - 1) (f.1 28 c)
section JxChoose
variable {th : Nat → Nat} {d B b p c co cc n a : Nat} {xl : List Int32} {σ σ' : jx_S} {f f' : jx_F} {A : Nat → Nat → Nat} {G : Nat → Nat → Int32} {T : Nat → Nat}
theorem R_become_nn {s : Int32} (h1 : ¬ R_open s) (h2 : ¬ R_open (f.1 11 p)) : R_become f n a p s = R_enter f p s := by
  unfold R_become
  rw [if_neg h1, if_neg h2]
theorem R_become_ny {s : Int32} (h1 : R_open s) (h2 : ¬ R_open (f.1 11 p)) : R_become f n a p s = R_bopen (R_enter f p s) p := by
  unfold R_become
  rw [if_pos h1, if_neg h2]
theorem R_become_yn {s : Int32} (h1 : ¬ R_open s) (h2 : R_open (f.1 11 p)) : R_become f n a p s = R_bshut (R_enter f p s) n a p := by
  unfold R_become
  rw [if_neg h1, if_pos h2]
theorem R_accepts_eq (h2 : ¬ R_open (f.1 11 p)) : R_accepts f n a p = R_bopen (R_enter (R_answerCame f p) p 5) p := by
  unfold R_accepts
  exact R_become_ny (Or.inl rfl) (by rw [R_answerCame_o (by decide) (by decide) (by decide) (by decide) (by decide)]; exact h2)
theorem k_choose (hW : RW th B b xl σ f A T) (hp : (p : Int) < (f.1 7 0).toInt) (hco : co < 8) (h13 : (f.1 13 p).toInt = ((co + 1 : Nat) : Int)) (h27 : f.1 27 (co + 1) = Int32.ofNat (p + 1)) (h28 : f.1 28 (co + 1) = 1) (hcc : cc < 8) (h14 : (f.1 14 p).toInt = ((cc + 1 : Nat) : Int)) (hne : co ≠ cc) (h26 : ¬ f.1 26 (cc + 1) = 0) (hno : ¬ R_open (f.1 11 p)) : jc th (d + 6) 55 [.ref B, .ref (A 6 p)] σ (fun r σ' => r = none ∧ RW th B b xl σ' (R_choose f n a p) A T ∧ kp B σ σ') := by
  obtain ⟨G, hR, hls⟩ := id hW
  have hp4 := hR.p4 hp
  have a2 := (hR.pe hp).2.1
  refine cl_go dt_55 60 [] dt_55_k rfl ?_
  intro C J hC hJ
  conv => whnf
  refine ⟨_, jx_getF_of (a2) rfl, ?_⟩
  conv => whnf
  refine ⟨jx_isC_of hR.X, hC _ _ _ _ (((k_later (d := d) hR hp).up (by omega)).mp ?_)⟩
  rintro r s1 ⟨hcs, hs1⟩
  rw [hs1]
  rcases hcs with ⟨rfl, hl⟩ | ⟨rfl, hl⟩
  · conv => whnf
    refine jx_no (show ¬ (1 : Int32) = 0 by decide) ?_
    conv => whnf
    refine ⟨jx_isC_of a2, hC _ _ _ _ (((k_dropOwn (d := d) hR hp hco h13).up (by omega)).mp ?_)⟩
    rintro r s2 ⟨rfl, hR2, hk2⟩
    rw [← R_shut_own hp4 h27 h28] at hR2
    obtain ⟨g, hg⟩ : ∃ g, g = R_shut f (co + 1) := ⟨_, rfl⟩
    have og : ∀ q j, ¬ ((q = 26 ∨ q = 27 ∨ q = 28 ∨ q = 30) ∧ j = co + 1) → ¬ (q = 13 ∧ j = p) → g.1 q j = f.1 q j := fun q j h1 h2 => by rw [hg, R_shut_own hp4 h27 h28, rf_ui_ne h2, R_shut0_o h1]
    have g13 : g.1 13 p = 0 := by rw [hg, R_shut_own hp4 h27 h28, rf_ui_eq]
    rw [← hg] at hR2
    conv => whnf
    refine ⟨jx_isC_of hR2.X, hC _ _ _ _ ((k_openByCame (d := d) (c := cc) ⟨G, hR2, by rw [og 2 0 (by omega) (by omega)]; exact hls⟩ (by rw [og 7 0 (by omega) (by omega)]; exact hp) hcc (by rw [og 14 p (by omega) (by omega)]; exact h14) g13 (by rw [og 26 _ (by omega) (by omega)]; exact h26)).mp ?_)⟩
    rintro r s3 ⟨rfl, hW3, hk3⟩
    conv => whnf
    refine ⟨rfl, ?_, hk2.tr hk3⟩
    unfold R_choose
    rw [if_pos hl, i32_nat h13, ← hg, R_accepts_eq (by rw [og 11 p (by omega) (by omega)]; exact hno)]
    exact hW3
  · conv => whnf
    refine jx_yes (show (0 : Int32) = 0 from rfl) ?_
    conv => whnf
    refine ⟨jx_isC_of hR.X, hC _ _ _ _ (((k_enter (d := d) (s := 4) hW hp).up (by omega)).mp ?_)⟩
    rintro r s2 ⟨rfl, hW2, hk2⟩
    conv => whnf
    refine ⟨rfl, ?_, hk2⟩
    unfold R_choose
    rw [if_neg hl, R_become_nn (fun z => by rcases z with z | z <;> exact absurd z (by decide)) hno]
    exact hW2
/-- a connection of no PEER's is gone -/
theorem k_gone0 (hW : RW th B b xl σ f A T) (hc : c < 8) (h27 : f.1 27 (c + 1) = 0) : jc th (d + 2) 63 [.ref B, .ref (B + 14 + 3 * c)] σ (fun r σ' => r = none ∧ RW th B b xl σ' (R_drop f n a (c + 1)) A T ∧ kp B σ σ') := by
  obtain ⟨G, hR, hls⟩ := hW
  have hce := (hR.2.2.1 c hc).1
  unfold cc_e at hce
  rw [h27, show cp_ref A 0 = none from if_pos rfl, show va_rf none = Value.null from rfl] at hce
  refine cl_go dt_63 60 [] dt_63_k rfl ?_
  intro C J hC hJ
  conv => whnf
  refine ⟨_, jx_getF_of (hce) rfl, ?_⟩
  conv => whnf
  refine ⟨_, jx_getF_of (hce) rfl, ?_⟩
  conv => whnf
  refine ⟨jx_isC_of hce, hC _ _ _ _ (((k_close (d := d) hR hc).up (by omega)).mp ?_)⟩
  rintro r s1 ⟨rfl, hR1, hk1⟩
  conv => whnf
  refine ⟨rfl, ⟨G, ?_, ?_⟩, hk1⟩
  · unfold R_drop
    rw [if_pos h27, R_shut_no h27]
    exact hR1
  · unfold R_drop
    rw [if_pos h27, R_shut_no h27, R_shut0_o (by omega)]
    exact hls
/-- one of a PEER's -/
theorem k_gone1 (hW : RW th B b xl σ f A T) (hc : c < 8) (h7 : (f.1 7 0).toInt = (n : Int)) (hn4 : n ≤ 4) (hp : p < n) (h27 : f.1 27 (c + 1) = Int32.ofNat (p + 1)) (hrole : (f.1 28 (c + 1) = 1 ∧ f.1 13 p = Int32.ofNat (c + 1)) ∨ (f.1 28 (c + 1) = 2 ∧ f.1 14 p = Int32.ofNat (c + 1)))
    (h49 : (f.1 49 0).toInt = (a : Int)) (ha : a ≤ 64) (hQ : GQ f n a 0) (hL : ∀ q, q ≠ p → q < n → R_us f q → GL f q) (hL2 : ∀ q, q ≠ p → q < n → (∃ x : Nat, (f.1 13 q).toInt = (x : Int) ∧ x ≤ 8 ∧ x ≠ c + 1) ∧ ∃ x : Nat, (f.1 14 q).toInt = (x : Int) ∧ x ≤ 8 ∧ x ≠ c + 1)
    (h34 : f.1 11 p = 3 ∨ f.1 11 p = 4 → f.1 28 (c + 1) = 1 → ∃ cc, cc < 8 ∧ cc ≠ c ∧ (f.1 14 p).toInt = ((cc + 1 : Nat) : Int) ∧ ¬ f.1 26 (cc + 1) = 0) : jc th (d + 7) 63 [.ref B, .ref (B + 14 + 3 * c)] σ (fun r σ' => r = none ∧ RW th B b xl σ' (R_drop f n a (c + 1)) A T ∧ kp B σ σ') := by
  obtain ⟨G, hR, hls⟩ := hW
  obtain ⟨i1, i2⟩ := i32_p1 (p := p) (by omega) h27
  have hce := (hR.2.2.1 c hc).1
  unfold cc_e at hce
  rw [show cp_ref A (f.1 27 (c + 1)) = some (A 6 p) by unfold cp_ref; rw [if_neg i1, i2], show va_rf (some (A 6 p)) = Value.ref (A 6 p) from rfl] at hce
  have hrr : f.1 28 (c + 1) = 1 ∨ f.1 28 (c + 1) = 2 := hrole.elim (fun z => Or.inl z.1) (fun z => Or.inr z.1)
  -- the state behind the connection's end
  obtain ⟨g, hg⟩ : ∃ g, g = R_shut f (c + 1) := ⟨_, rfl⟩
  have og : ∀ q j, ¬ ((q = 26 ∨ q = 27 ∨ q = 28 ∨ q = 30) ∧ j = c + 1) → ¬ (q = 13 ∧ j = p ∧ f.1 28 (c + 1) = 1) → ¬ (q = 14 ∧ j = p ∧ f.1 28 (c + 1) = 2) → g.1 q j = f.1 q j := fun q j h1 h2 h3 => by
    rcases hrr with e | e
    · rw [hg, R_shut_own (by omega) h27 e, rf_ui_ne (fun z => h2 ⟨z.1, z.2, e⟩), R_shut0_o h1]
    · rw [hg, R_shut_came (by omega) h27 e, rf_ui_ne (fun z => h3 ⟨z.1, z.2, e⟩), R_shut0_o h1]
  have gl : g.2 = f.2 := by
    rcases hrr with e | e
    · rw [hg, R_shut_own (by omega) h27 e]; rfl
    · rw [hg, R_shut_came (by omega) h27 e]; rfl
  have g7 : (g.1 7 0).toInt = (n : Int) := by rw [og 7 0 (by omega) (by omega) (by omega)]; exact h7
  have g11 : g.1 11 p = f.1 11 p := og 11 p (by omega) (by omega) (by omega)
  have gQ : GQ g n a 0 := fun i h1 h2 => by rw [og 54 i (by omega) (by omega) (by omega), og 55 i (by omega) (by omega) (by omega), gl]; exact hQ i h1 h2
  have gL : ∀ q, q ≠ p → q < n → R_us g q → GL g q := by
    intro q h1 h2 h3
    have e13 := og 13 q (by omega) (by omega) (by omega)
    have e14 := og 14 q (by omega) (by omega) (by omega)
    have e11 := og 11 q (by omega) (by omega) (by omega)
    obtain ⟨c', hc', u1, u2, u3⟩ := hL q h1 h2 ((R_us_eq e11 (og 15 q (by omega) (by omega) (by omega))).mp h3)
    have el : lnf g q = lnf f q := by unfold lnf; rw [e13, e14]
    have hcne : c' ≠ c := by
      obtain ⟨⟨x, x1, x2, x3⟩, y, y1, y2, y3⟩ := hL2 q h1 h2
      unfold lnf at u1
      split at u1
      · omega
      · omega
    exact ⟨c', hc', by rw [el]; exact u1, by rw [el, R_conn_eq (f := f) e11 e13 e14]; exact u2, by rw [og 26 _ (by omega) (by omega) (by omega)]; exact u3⟩
  have eD : R_drop f n a (c + 1) = R_drop1 g n a p (f.1 28 (c + 1)) := by
    unfold R_drop
    rw [if_neg i1, i2, ← hg]
  rw [eD]
  -- from place 42 on
  have tail : ∀ s2, RelC th B b xl s2 g A G T → kp B σ s2 → cl_fj th (d + 6) 63 42 [(0, .ref B), (2, .ref (A 6 p)), (3, .int (f.1 28 (c + 1)))] [] s2 (fun r σ' => r = none ∧ RW th B b xl σ' (R_drop1 g n a p (f.1 28 (c + 1))) A T ∧ kp B σ σ') := by
    intro s2 hR2 hk2
    have hls2 : g.1 2 0 = lsum G 8 := by rw [og 2 0 (by omega) (by omega) (by omega)]; exact hls
    have b2 := (hR2.pe (p := p) (by omega)).2.1
    refine cl_at dt_63 80 [] dt_63_k ?_
    intro C J hC hJ
    conv => whnf
    refine ⟨jx_isC_of b2, hC _ _ _ _ (((k_isOpen (d := d) hR2 (p := p) (by omega)).up (by omega)).mp ?_)⟩
    rintro r s3 ⟨hcs, hs3⟩
    rw [hs3]
    rcases hcs with ⟨rfl, ho⟩ | ⟨rfl, ho⟩
    · have n3 : ¬ g.1 11 p = 3 := fun z => by rw [z] at ho; rcases ho with z | z <;> exact absurd z (by decide)
      have n4 : ¬ g.1 11 p = 4 := fun z => by rw [z] at ho; rcases ho with z | z <;> exact absurd z (by decide)
      conv => whnf
      refine jx_no (show ¬ (1 : Int32) = 0 by decide) ?_
      conv => whnf
      refine ⟨jx_isC_of hR2.X, hC _ _ _ _ ((k_leaveOpen (d := d) (s := 0) (a := a) (n := n) ⟨G, hR2, hls2⟩ (by rw [og 49 0 (by omega) (by omega) (by omega)]; exact h49) ha g7 hn4 hp gQ gL).mp ?_)⟩
      rintro r s4 ⟨rfl, hW4, hk4⟩
      conv => whnf
      refine ⟨rfl, ?_, hk2.tr hk4⟩
      unfold R_drop1
      rw [if_neg n3, if_neg n4, R_become_yn (fun z => by rcases z with z | z <;> exact absurd z (by decide)) ho]
      exact hW4
    · conv => whnf
      refine jx_yes (show (0 : Int32) = 0 from rfl) ?_
      conv => whnf
      refine ⟨_, jx_getF_of (b2) rfl, ?_⟩
      conv => whnf
      by_cases h3 : g.1 11 p = 3
      · refine jx_yes h3 ?_
        conv => whnf
        by_cases hr1 : f.1 28 (c + 1) = 1
        · refine jx_no (fun z => z hr1) ?_
          conv => whnf
          obtain ⟨cc, q1, q2, q3, q4⟩ := h34 (Or.inl (by rw [← g11]; exact h3)) hr1
          have g13 : g.1 13 p = 0 := by rw [hg, R_shut_own (by omega) h27 hr1, rf_ui_eq]
          refine ⟨jx_isC_of hR2.X, hC _ _ _ _ (((k_openByCame (d := d) (c := cc) ⟨G, hR2, hls2⟩ (by omega) q1 (by rw [og 14 p (by omega) (by omega) (fun z => by rw [hr1] at z; exact absurd z.2.2 (by decide))]; exact q3) g13 (by rw [og 26 _ (by omega) (by omega) (by omega)]; exact q4)).up (by omega)).mp ?_)⟩
          rintro r s4 ⟨rfl, hW4, hk4⟩
          conv => whnf
          refine ⟨rfl, ?_, hk2.tr hk4⟩
          unfold R_drop1
          rw [if_pos h3, if_pos hr1, R_accepts_eq ho]
          exact hW4
        · refine jx_yes hr1 ?_
          conv => whnf
          refine ⟨_, jx_getF_of (b2) rfl, ?_⟩
          conv => whnf
          refine jx_no (fun z => z h3) ?_
          conv => whnf
          refine ⟨jx_isC_of hR2.X, hC _ _ _ _ (((k_enter (d := d) (s := 1) ⟨G, hR2, hls2⟩ (p := p) (by omega)).up (by omega)).mp ?_)⟩
          rintro r s4 ⟨rfl, hW4, hk4⟩
          conv => whnf
          refine ⟨rfl, ?_, hk2.tr hk4⟩
          unfold R_drop1
          rw [if_pos h3, if_neg hr1, R_become_nn (fun z => by rcases z with z | z <;> exact absurd z (by decide)) ho]
          exact hW4
      · refine jx_no h3 ?_
        conv => whnf
        refine ⟨_, jx_getF_of (b2) rfl, ?_⟩
        conv => whnf
        by_cases h4 : g.1 11 p = 4
        · refine jx_yes h4 ?_
          conv => whnf
          by_cases hr1 : f.1 28 (c + 1) = 1
          · refine jx_no (fun z => z hr1) ?_
            conv => whnf
            obtain ⟨cc, q1, q2, q3, q4⟩ := h34 (Or.inr (by rw [← g11]; exact h4)) hr1
            have g13 : g.1 13 p = 0 := by rw [hg, R_shut_own (by omega) h27 hr1, rf_ui_eq]
            refine ⟨jx_isC_of hR2.X, hC _ _ _ _ (((k_openByCame (d := d) (c := cc) ⟨G, hR2, hls2⟩ (by omega) q1 (by rw [og 14 p (by omega) (by omega) (fun z => by rw [hr1] at z; exact absurd z.2.2 (by decide))]; exact q3) g13 (by rw [og 26 _ (by omega) (by omega) (by omega)]; exact q4)).up (by omega)).mp ?_)⟩
            rintro r s4 ⟨rfl, hW4, hk4⟩
            conv => whnf
            refine ⟨rfl, ?_, hk2.tr hk4⟩
            unfold R_drop1
            rw [if_neg h3, if_pos h4, if_pos hr1, R_accepts_eq ho]
            exact hW4
          · refine jx_yes hr1 ?_
            conv => whnf
            refine ⟨_, jx_getF_of (b2) rfl, ?_⟩
            conv => whnf
            refine jx_yes h3 ?_
            conv => whnf
            refine ⟨jx_isC_of hR2.X, hC _ _ _ _ (((k_enter (d := d) (s := 2) ⟨G, hR2, hls2⟩ (p := p) (by omega)).up (by omega)).mp ?_)⟩
            rintro r s4 ⟨rfl, hW4, hk4⟩
            conv => whnf
            refine ⟨rfl, ?_, hk2.tr hk4⟩
            unfold R_drop1
            rw [if_neg h3, if_pos h4, if_neg hr1, R_become_nn (fun z => by rcases z with z | z <;> exact absurd z (by decide)) ho]
            exact hW4
        · refine jx_no h4 ?_
          conv => whnf
          refine ⟨jx_isC_of hR2.X, hC _ _ _ _ (((k_enter (d := d) (s := 0) ⟨G, hR2, hls2⟩ (p := p) (by omega)).up (by omega)).mp ?_)⟩
          rintro r s4 ⟨rfl, hW4, hk4⟩
          conv => whnf
          refine ⟨rfl, ?_, hk2.tr hk4⟩
          unfold R_drop1
          rw [if_neg h3, if_neg h4, R_become_nn (fun z => by rcases z with z | z <;> exact absurd z (by decide)) ho]
          exact hW4
  refine cl_go dt_63 60 [(42, [0, 2, 3])] dt_63_k rfl ?_
  intro C J hC hJ
  conv => whnf
  refine ⟨_, jx_getF_of (hce) rfl, ?_⟩
  conv => whnf
  refine ⟨_, jx_getF_of (hce) rfl, ?_⟩
  conv => whnf
  refine ⟨jx_isC_of hce, hC _ _ _ _ (((k_close (d := d) hR hc).up (by omega)).mp ?_)⟩
  rintro r s1 ⟨rfl, hR1, hk1⟩
  have hp1 : (p : Int) < ((R_shut0 f (c + 1)).1 7 0).toInt := by rw [R_shut0_o (by omega), h7]; omega
  have b1 := (hR1.pe hp1).2.1
  conv => whnf
  rcases hrr with e | e
  · refine jx_no (fun z => z e) ?_
    conv => whnf
    refine putK b1 rfl (fit_o _ rfl) (fun s2 p2 o2 n2 => ?_)
    conv => whnf
    obtain ⟨hR2, hk2⟩ := hR1.pe1 (σ' := s2) (f' := rf_ui (R_shut0 f (c + 1)) 13 p 0) hp1 (by rw [p2]; simp [cp_e, lim, rf_ui, cc_ref_0, va_rf]) o2 n2 (ui_pe ⟨by omega, by omega⟩ (fun _ _ _ => rfl)) rfl (rf_ui_ne (by omega))
    rw [← R_shut_own (by omega) h27 e, ← hg] at hR2
    exact hJ _ _ _ _ (tail s2 hR2 (hk1.tr hk2))
  · refine jx_yes (fun z => by rw [e] at z; exact absurd z (by decide)) ?_
    conv => whnf
    refine putK b1 rfl (fit_o _ rfl) (fun s2 p2 o2 n2 => ?_)
    conv => whnf
    obtain ⟨hR2, hk2⟩ := hR1.pe1 (σ' := s2) (f' := rf_ui (R_shut0 f (c + 1)) 14 p 0) hp1 (by rw [p2]; simp [cp_e, lim, rf_ui, cc_ref_0, va_rf]) o2 n2 (ui_pe ⟨by omega, by omega⟩ (fun _ _ _ => rfl)) rfl (rf_ui_ne (by omega))
    rw [← R_shut_came (by omega) h27 e, ← hg] at hR2
    exact hJ _ _ _ _ (tail s2 hR2 (hk1.tr hk2))
end JxChoose
