/-! THE PAIR connected -/
noncomputable def R_own (f : jx_F) (n a c p : Nat) : jx_F := if (R_sendOpening (rf_ui f 26 c 2) p).1 11 p = 1 then R_become (R_sendOpening (rf_ui f 26 c 2) p) n a p 2 else R_choose (R_sendOpening (rf_ui f 26 c 2) p) n a p
noncomputable def R_connF (f : jx_F) (n a : Nat) (v on : Int32) : Int32 × jx_F := if (1 ≤ v ∧ v ≤ 8) ∧ ¬ f.1 26 v.toNatClampNeg = 0 then (if f.1 26 v.toNatClampNeg = 2 then (-3, f) else if on = 0 then (1, R_drop f n a v.toNatClampNeg) else (1, R_own f n a v.toNatClampNeg ((f.1 27 v.toNatClampNeg).toNatClampNeg - 1))) else (-1, f)
theorem rf_ui_same {f : jx_F} {k j : Nat} {x y : Int32} : rf_ui (rf_ui f k j x) k j y = rf_ui f k j y := by
  refine Prod.ext (funext fun q => funext fun i => ?_) rfl
  show (if q = k ∧ i = j then y else if q = k ∧ i = j then x else f.1 q i) = if q = k ∧ i = j then y else f.1 q i
  split
  · rfl
  · rfl
section JxConn
variable {th : Nat → Nat} {B b m d k n a p c : Nat} {xl : List Int32} {σ σ0 : jx_S} {f g f' : jx_F} {A : Nat → Nat → Nat} {G G' : Nat → Nat → Int32} {T : Nat → Nat} {s : Int32}
theorem R_sendOpening_o {q j : Nat} (h : q ∉ [2, 31, 32, 34, 65, 66]) (hp : ¬ (q = 20 ∧ j = p)) : (R_sendOpening f p).1 q j = f.1 q j := by
  simp only [List.mem_cons, List.not_mem_nil, or_false] at h
  unfold R_sendOpening
  rw [R_msg_o (by omega) (by omega) (by omega) (by omega) (by omega), rf_ui_ne hp, rf_ui_ne (by omega)]
theorem R_sendOpening_v : (R_sendOpening f p).1 34 0 = f.1 34 0 + 1 := by
  unfold R_sendOpening
  rw [R_msg_o (by omega) (by omega) (by omega) (by omega) (by omega), rf_ui_ne (by omega), rf_ui_eq]
theorem R_sendOpening_l : (R_sendOpening f p).2 = f.2 := by
  unfold R_sendOpening
  rw [R_msg_l]
  rfl
theorem R_sendOpening_gok (hg : R_gok f n a) (hp4 : p < 4) : R_gok (R_sendOpening f p) n a := by
  obtain ⟨cN, hc, hc8⟩ := (hg.2.2.2.2.2.2 p hp4).1
  obtain ⟨N, hN, hN4⟩ := hg.1.1
  have l1 := R_ml_le (N := R_hs f) (s := 20)
  have l2 := R_ad_le (s := 20 + R_ml (R_hs f) 20)
  have l3 : R_hs f = N := i32_nat hN
  refine hg.of ?_ (fun q j hq => R_sendOpening_o (by simp only [List.mem_cons, List.not_mem_nil, or_false] at hq ⊢; omega) (by simp only [List.mem_cons, List.not_mem_nil, or_false] at hq; omega))
  unfold R_sendOpening
  refine R_msg_ok (hg.1.of ?_ (fun _ => ?_) (fun _ => ?_)) ?_ hc hc8
  · rw [rf_ui_ne (by omega), rf_ui_ne (by omega)]
  · rw [rf_ui_ne (by omega), rf_ui_ne (by omega)]
  · rw [rf_ui_ne (by omega), rf_ui_ne (by omega)]
  · rw [List.length_append, List.length_append, R_me_len]
    show 20 + (_ + _) ≤ 700
    omega
/-- the CHOICE for the one that came is as if the own one were dropped -/
theorem R_choose_drop (hp4 : p < 4) (h13 : f.1 13 p = Int32.ofNat c) (hc : c < 2147483648) (h27 : f.1 27 c = Int32.ofNat (p + 1)) (h28 : f.1 28 c = 1) (hno : ¬ R_open (f.1 11 p)) (hl : R_later f p) : R_choose f n a p = R_drop (R_enter f p 4) n a c := by
  have n4 : ¬ R_open (4 : Int32) := fun z => by rcases z with z | z <;> exact absurd z (by decide)
  obtain ⟨h, hh⟩ : ∃ h, h = R_enter f p 4 := ⟨_, rfl⟩
  have h27' : h.1 27 c = Int32.ofNat (p + 1) := by rw [hh, enter_o (by omega)]; exact h27
  have h28' : h.1 28 c = 1 := by rw [hh, enter_o (by omega)]; exact h28
  obtain ⟨i1, i2⟩ := i32_p1 hp4 h27'
  obtain ⟨g, hg⟩ : ∃ g, g = R_shut f c := ⟨_, rfl⟩
  have eg : R_shut h c = rf_ui (rf_ui g 11 p 4) 12 p (f.1 1 0 + 10) := by
    rw [R_shut_own hp4 h27' h28', hg, R_shut_own hp4 h27 h28, hh]
    unfold R_enter
    rw [R_shut0_u (by omega) (by omega) (by omega) (by omega), R_shut0_u (by omega) (by omega) (by omega) (by omega), rf_ui_comm (k := 12) (a := 13) (by omega), rf_ui_comm (k := 11) (a := 13) (by omega)]
  obtain ⟨g', hg'⟩ : ∃ g', g' = R_shut h c := ⟨_, rfl⟩
  have og' : ∀ q j, ¬ ((q = 11 ∨ q = 12) ∧ j = p) → g'.1 q j = g.1 q j := fun q j z => by rw [hg', eg, rf_ui_ne (by omega), rf_ui_ne (by omega)]
  have g'11 : g'.1 11 p = 4 := by rw [hg', eg, rf_ui_ne (by omega), rf_ui_eq]
  have g11 : g.1 11 p = f.1 11 p := by rw [hg, R_shut_own hp4 h27 h28, rf_ui_ne (by omega), R_shut0_o (by omega)]
  have eD : R_drop h n a c = R_accepts g' n a p := by
    unfold R_drop R_drop1
    rw [if_neg i1, i2, ← hg', if_neg (by rw [g'11]; decide), if_pos g'11, if_pos h28']
  have eA : R_answerCame g' p = rf_ui (rf_ui (R_answerCame g p) 11 p 4) 12 p (f.1 1 0 + 10) := by
    have ehs : R_hs g' = R_hs g := by unfold R_hs; rw [og' 6 0 (by omega)]
    have eme : ∀ N s, R_me g' N s = R_me g N s := fun N s => R_me_eq (fun q => og' 5 q (by omega)) (og' 6 0 (by omega))
    unfold R_answerCame
    rw [ehs, eme, og' 23 p (by omega), og' 24 p (by omega), og' 25 p (by omega), og' 14 p (by omega), hg', eg, R_msg_comm (by omega) (by omega) (by omega) (by omega) (by omega) (by omega), R_msg_comm (by omega) (by omega) (by omega) (by omega) (by omega) (by omega)]
  rw [← hh, eD, R_accepts_eq (by rw [g'11]; exact n4)]
  unfold R_choose
  rw [if_pos hl, h13, i32_nat (i32_ofNat (n := c) hc), ← hg, R_accepts_eq (by rw [g11]; exact hno), eA]
  congr 1
  unfold R_enter
  rw [show (rf_ui (rf_ui (R_answerCame g p) 11 p 4) 12 p (f.1 1 0 + 10)).1 1 0 = (R_answerCame g p).1 1 0 by rw [rf_ui_ne (by omega), rf_ui_ne (by omega)], rf_ui_comm (k := 12) (a := 11) (by omega), rf_ui_same, rf_ui_same]
theorem k_ownIsOpen {cc : Nat} (hW : RW th B b xl σ f A T) (hp : (p : Int) < (f.1 7 0).toInt) (hc : c < 8) (h27 : f.1 27 (c + 1) = Int32.ofNat (p + 1)) (h28 : f.1 28 (c + 1) = 1) (h13 : f.1 13 p = Int32.ofNat (c + 1)) (h26 : ¬ f.1 26 (c + 1) = 0) (hst : f.1 11 p = 1 ∨ (f.1 11 p = 3 ∧ cc < 8 ∧ c ≠ cc ∧ (f.1 14 p).toInt = ((cc + 1 : Nat) : Int) ∧ ¬ f.1 26 (cc + 1) = 0)) : jc th (d + 7) 48 [.ref B, .ref (B + 14 + 3 * c)] σ (fun r σ' => r = none ∧ RW th B b xl σ' (R_own f n a (c + 1) p) A T ∧ kp B σ σ') := by
  obtain ⟨G, hR, hls⟩ := id hW
  have hp4 := hR.p4 hp
  obtain ⟨hce, hrow⟩ := hR.2.2.1 c hc
  have hce0 := hce
  unfold cc_e at hce
  rw [show cp_ref A (f.1 27 (c + 1)) = some (A 6 p) by obtain ⟨i1, i2⟩ := i32_p1 (p := p) hp4 h27; unfold cp_ref; rw [if_neg i1, i2], show va_rf (some (A 6 p)) = Value.ref (A 6 p) from rfl] at hce
  refine cl_go dt_48 60 [] dt_48_k rfl ?_
  intro C J hC hJ
  conv => whnf
  refine putK hce rfl (fit_i _) (fun s1 p1 o1 n1 => ?_)
  conv => whnf
  obtain ⟨f1, hf1⟩ : ∃ f1, f1 = rf_ui f 26 (c + 1) 2 := ⟨_, rfl⟩
  have of1 : ∀ q j, ¬ (q = 26 ∧ j = c + 1) → f1.1 q j = f.1 q j := fun q j h => by rw [hf1]; exact rf_ui_ne h
  have e26 : f1.1 26 (c + 1) = 2 := by rw [hf1]; exact rf_ui_eq
  have hR1 : RelC th B b xl s1 f1 A G T := by
    refine hR.out hc (fun q q1 _ => o1 q q1) n1 (fun q j h1 _ _ _ _ => of1 q j (fun z => h1 ⟨by rw [z.1]; decide, z.2⟩)) (fun _ _ _ _ => by rw [hf1]; rfl) (fun _ _ _ => rfl) ⟨?_, ?_⟩
    · rw [p1]
      unfold cc_e
      rw [e26, of1 27 _ (by omega), of1 28 _ (by omega), of1 30 _ (by omega), of1 32 _ (by omega), of1 33 _ (by omega), show cp_ref A (f.1 27 (c + 1)) = some (A 6 p) by obtain ⟨i1, i2⟩ := i32_p1 (p := p) hp4 h27; unfold cp_ref; rw [if_neg i1, i2]]
      rfl
    · rw [of1 30 _ (by omega), of1 32 _ (by omega), of1 33 _ (by omega)]
      rcases hrow with e | ⟨e1, e2, ⟨y1, n1', e3, e4, e5, e6⟩, y2, a2, z2, e7, e8, e9, e10, e11, e12⟩
      · exact absurd e.2.2.2.2.1 h26
      · exact Or.inr ⟨⟨e1.1, by rw [n1]; exact e1.2.1, e1.2.2⟩, ⟨e2.1, by rw [n1]; exact e2.2.1, e2.2.2⟩, ⟨y1, n1', by rw [o1 _ (by have := e1.1; omega)]; exact e3, e4, e5, fun j hj => by rw [of1 29 _ (by omega)]; exact e6 j hj⟩, y2, a2, z2, by rw [o1 _ (by have := e2.1; omega)]; exact e7, e8, e9, e10, e11, fun i hi => by rw [of1 31 _ (by omega)]; exact e12 i hi⟩
  have hk1 : kp B σ s1 := ⟨n1, fun q q1 q2 => o1 q (by omega)⟩
  refine ⟨_, jx_getF_of (p1) rfl, ?_⟩
  conv => whnf
  refine ⟨jx_isC_of hR1.X, hC _ _ _ _ (((k_sendOpening (d := d) (c := c) ⟨G, hR1, by rw [of1 2 0 (by omega)]; exact hls⟩ (p := p) (by rw [of1 7 0 (by omega)]; exact hp) hc (by rw [of1 13 p (by omega), h13, i32_ofNat (by omega)]) (by rw [e26]; decide)).up (by omega)).mp ?_)⟩
  rintro r s2 ⟨rfl, hW2, hk2⟩
  obtain ⟨f2, hf2⟩ : ∃ f2, f2 = R_sendOpening f1 p := ⟨_, rfl⟩
  rw [← hf2] at hW2
  have of2 : ∀ q j, q ∉ [2, 31, 32, 34, 65, 66] → ¬ (q = 20 ∧ j = p) → ¬ (q = 26 ∧ j = c + 1) → f2.1 q j = f.1 q j := fun q j h1 h2 h3 => by rw [hf2, R_sendOpening_o h1 h2, of1 q j h3]
  have eO : R_own f n a (c + 1) p = if f2.1 11 p = 1 then R_become f2 n a p 2 else R_choose f2 n a p := by
    unfold R_own
    rw [← hf1, ← hf2]
  have f211 : f2.1 11 p = f.1 11 p := of2 11 p (by decide) (by omega) (by omega)
  have hp2 : (p : Int) < (f2.1 7 0).toInt := by rw [of2 7 0 (by decide) (by omega) (by omega)]; exact hp
  obtain ⟨G2, hR2, hls2⟩ := id hW2
  have b2 := (hR2.pe hp2).2.1
  rw [eO]
  conv => whnf
  refine ⟨_, jx_getF_of (b2) rfl, ?_⟩
  conv => whnf
  rcases hst with h1 | ⟨h3, hcc, hne, h14, h26c⟩
  · have h1' : f2.1 11 p = 1 := by rw [f211]; exact h1
    refine jx_yes (show ¬ f2.1 11 p = 3 by rw [h1']; decide) ?_
    conv => whnf
    refine ⟨jx_isC_of hR2.X, hC _ _ _ _ (((k_enter (d := d) (s := 2) hW2 hp2).up (by omega)).mp ?_)⟩
    rintro r s3 ⟨rfl, hW3, hk3⟩
    conv => whnf
    refine ⟨rfl, ?_, (hk1.tr hk2).tr hk3⟩
    rw [if_pos h1', R_become_nn (fun z => by rcases z with z | z <;> exact absurd z (by decide)) (fun z => by rw [h1'] at z; rcases z with z | z <;> exact absurd z (by decide))]
    exact hW3
  · have h3' : f2.1 11 p = 3 := by rw [f211]; exact h3
    refine jx_no (show ¬ ¬ f2.1 11 p = 3 from fun z => z h3') ?_
    conv => whnf
    refine ⟨jx_isC_of hR2.X, hC _ _ _ _ ((k_choose (d := d) (n := n) (a := a) (co := c) (cc := cc) hW2 hp2 hc (by rw [of2 13 p (by decide) (by omega) (by omega), h13, i32_ofNat (by omega)]) (by rw [of2 27 _ (by decide) (by omega) (by omega)]; exact h27) (by rw [of2 28 _ (by decide) (by omega) (by omega)]; exact h28) hcc (by rw [of2 14 p (by decide) (by omega) (by omega)]; exact h14) hne (by rw [of2 26 _ (by decide) (by omega) (by omega)]; exact h26c) (fun z => by rw [h3'] at z; rcases z with z | z <;> exact absurd z (by decide))).mp ?_)⟩
    rintro r s3 ⟨rfl, hW3, hk3⟩
    conv => whnf
    refine ⟨rfl, ?_, (hk1.tr hk2).tr hk3⟩
    rw [if_neg (by rw [h3']; decide)]
    exact hW3
end JxConn
