/-! WHAT A MESSAGE LEAVES: on a connection of nobody's -/
section JxStrpure
variable {n a p c e h s : Nat} {f g F : jx_F} {cv res : Int32}
theorem SM.shut (hS : PS f n a) (c1 : 1 ≤ c) (c2 : c ≤ 8) (h27 : f.1 27 c = 0) : SM n a 0 f (R_shut f c) := by
  rw [R_shut_no h27]
  refine ⟨hS.shut0 c1 c2 h27, ⟨fun q j h1 h2 h3 => R_shut0_o (by omega), fun u j h1 h2 => R_shut0_o (by omega), fun _ _ _ => rfl⟩, by rw [R_shut0_o (by omega)]; exact Int.le_refl _, by rw [R_shut0_o (by omega)]; omega⟩
/-- a connection comes to a PEER -/
theorem acc_ps (hS : PS f n a) (hp : p < n) (c1 : 1 ≤ c) (c2 : c ≤ 8) (h27 : f.1 27 c = 0) (h26 : f.1 26 c = 2) (hgo : R_gok g n a) (hs : (f.1 11 p = 0 ∧ s = 5) ∨ (f.1 11 p = 1 ∧ s = 3) ∨ (f.1 11 p = 2 ∧ s = 4)) (g11 : (g.1 11 p).toInt = (s : Int)) (g14 : g.1 14 p = Int32.ofNat c) (g27 : g.1 27 c = Int32.ofNat (p + 1)) (g28 : g.1 28 c = 2)
    (og : ∀ q j, q ∉ [2, 31, 32, 34, 65, 66] → ¬ ((q = 27 ∨ q = 28) ∧ j = c) → ¬ ((11 ≤ q ∧ q ≤ 25 ∧ q ≠ 13 ∧ q ≠ 22) ∧ j = p) → g.1 q j = f.1 q j) (lg : g.2 = f.2) (g15 : (s = 5 ∧ (g.1 15 p = 1 ∨ (g.1 15 p = 4 ∧ g.1 19 p = 0))) ∨ (s ≠ 5 ∧ g.1 15 p = f.1 15 p ∧ g.1 19 p = f.1 19 p)) (g16 : g.1 16 p = 0 ∨ g.1 16 p = 1) (h34 : (f.1 34 0).toInt ≤ (g.1 34 0).toInt) : PS g n a := by
  have hn4 := hS.1.2.2.1
  obtain ⟨st, o, kk, u, ⟨t11, t11'⟩, ⟨t13, t13'⟩, ⟨t14, t14'⟩, ⟨t15, t15'⟩, q5, q6, q7, q8, q9, q10, q11, q12, q13, q14, q15, q16, q17⟩ := hS.2.2.1 p hp
  have f11 : f.1 11 p = Int32.ofNat st := i32_eq t11 (by omega)
  have hst : ∀ y : Nat, y < 8 → f.1 11 p = Int32.ofNat y → st = y := fun y hy e => by rw [f11] at e; exact ofN_inj (by omega) (by omega) e
  have hss : (st = 0 ∧ s = 5) ∨ (st = 1 ∧ s = 3) ∨ (st = 2 ∧ s = 4) := by
    rcases hs with ⟨z, y⟩ | ⟨z, y⟩ | ⟨z, y⟩
    · exact Or.inl ⟨hst 0 (by omega) z, y⟩
    · exact Or.inr (Or.inl ⟨hst 1 (by omega) z, y⟩)
    · exact Or.inr (Or.inr ⟨hst 2 (by omega) z, y⟩)
  have hno : ¬ R_open (f.1 11 p) := by
    rcases hs with ⟨z, -⟩ | ⟨z, -⟩ | ⟨z, -⟩ <;> rw [z] <;> (intro y; rcases y with y | y <;> exact absurd y (by decide))
  have k0 : kk = 0 := by
    rcases hss with ⟨z, -⟩ | ⟨z, -⟩ | ⟨z, -⟩
    · exact (q7 z).2
    · exact (q8 z).2.1
    · exact (q9 z).2.1
  have oc : o ≠ c := fun z => by
    by_cases o0 : o = 0
    · omega
    · have := (q5 o0).1
      rw [z, h27] at this
      exact ofN_ne (n := p + 1) (by omega) (by omega) this.symm
  have g26 : g.1 26 c = 2 := by rw [og 26 c (by decide) (by omega) (by omega)]; exact h26
  have o4 : ∀ c' q, c' ≠ c → q = 26 ∨ q = 27 ∨ q = 28 ∨ q = 30 → g.1 q c' = f.1 q c' := fun c' q hc hq => og q c' (by rcases hq with rfl | rfl | rfl | rfl <;> decide) (by omega) (by omega)
  have o30 : ∀ c', g.1 30 c' = f.1 30 c' := fun c' => og 30 c' (by decide) (by omega) (by omega)
  have o29 : ∀ j, g.1 29 j = f.1 29 j := fun j => og 29 j (by decide) (by omega) (by omega)
  have cof : ∀ c', 1 ≤ c' → c' ≤ 8 → f.1 27 c' = Int32.ofNat (p + 1) → c' = o := fun c' z1 z2 z3 => by
    rcases hS.cof hp z1 z2 z3 with z | z
    · have := z.2
      rw [this, i32_ofNat (by omega)] at t13
      omega
    · have := z.2.1
      rw [this, i32_ofNat (by omega)] at t14
      omega
  refine hS.nopen (g := g) (c0 := c) hp hno hgo (fun v hv hne q hq => og q v (by simp only [List.mem_cons, List.not_mem_nil, or_false] at hq ⊢; omega) (by simp only [List.mem_cons, List.not_mem_nil, or_false] at hq; omega) (by omega)) (fun q j hq => og q j (by rcases hq with rfl | rfl | rfl <;> decide) (by omega) (by omega)) (fun j => by rw [lg]) (fun c' _ _ z1 z2 q hq => o4 c' q z2 hq) (Or.inr (Or.inl h27)) (fun c' z1 z2 z3 => ?_) ?_ (fun q hq => ?_) (fun c' z1 z2 => (hS.2.2.2.2.2.1 c' z1 z2).of (o30 c') o29) h34
  · by_cases e : c' = c
    · rw [e]
      refine ⟨2, p + 1, 2, ⟨by rw [g26]; decide, by omega⟩, ⟨by rw [g27]; exact i32_ofNat (by omega), by omega⟩, ⟨by rw [g28]; decide, by omega⟩, fun z => by omega, ⟨fun z => by omega, fun z => by omega⟩, fun z => by omega, fun z => by omega, fun _ => ⟨?_, rfl⟩⟩
      rw [show p + 1 - 1 = p by omega]
      exact g14
    · have h' : f.1 27 c' = Int32.ofNat (p + 1) := by
        rcases z3 with z | z
        · exact z
        · exact absurd z e
      refine (hS.2.1 c' z1 z2).of (fun q hq => o4 c' q e hq) (fun j hj ej => ⟨fun _ => og 13 j (by decide) (by omega) (by omega), fun hr => ?_⟩)
      have ejp : j = p := by
        rw [h'] at ej
        have := ofN_inj (by omega) (by omega) ej
        omega
      rcases hS.cof hp z1 z2 h' with z | z
      · rw [z.1] at hr; exact absurd hr (by decide)
      · have := z.2.1
        rw [this, i32_ofNat (by omega)] at t14
        omega
  · have k15 : ∃ u' : Nat, (g.1 15 p).toInt = (u' : Int) ∧ u' ≤ 4 ∧ ((u' = 1 ∨ u' = 2 ∨ u' = 4) ↔ (s = 5 ∨ s = 6)) := by
      rcases g15 with ⟨z, y⟩ | ⟨z, y, -⟩
      · rcases y with y | ⟨y, -⟩
        · exact ⟨1, by rw [y]; decide, by omega, fun _ => Or.inl z, fun _ => Or.inl rfl⟩
        · exact ⟨4, by rw [y]; decide, by omega, fun _ => Or.inl z, fun _ => Or.inr (Or.inr rfl)⟩
      · refine ⟨u, by rw [y]; exact t15, t15', q15.trans ⟨fun w => ?_, fun w => ?_⟩⟩
        · rcases hss with ⟨v, -⟩ | ⟨v, -⟩ | ⟨v, -⟩ <;> omega
        · rcases hss with ⟨-, v⟩ | ⟨-, v⟩ | ⟨-, v⟩ <;> omega
    obtain ⟨u', u1, u2, u3⟩ := k15
    refine ⟨s, o, c, u', ⟨g11, by rcases hss with ⟨-, v⟩ | ⟨-, v⟩ | ⟨-, v⟩ <;> omega⟩, ⟨by rw [og 13 p (by decide) (by omega) (by omega)]; exact t13, t13'⟩, ⟨by rw [g14]; exact i32_ofNat (by omega), c2⟩, ⟨u1, u2⟩, fun z => ?_, fun _ => ⟨g27, g28⟩, fun z => ?_, fun z => ?_, fun z => ?_, fun z => ?_, fun z => ?_, fun z => ?_, fun z => ?_, fun z => ?_, u3, g16, by rw [og 10 p (by decide) (by omega) (by omega)]; exact q17⟩
    · rw [o4 o 27 oc (by omega), o4 o 28 oc (by omega)]; exact q5 z
    · rcases hss with ⟨-, v⟩ | ⟨-, v⟩ | ⟨-, v⟩ <;> omega
    · rcases hss with ⟨-, v⟩ | ⟨-, v⟩ | ⟨-, v⟩ <;> omega
    · rcases hss with ⟨-, v⟩ | ⟨-, v⟩ | ⟨-, v⟩ <;> omega
    · rcases hss with ⟨w, v⟩ | ⟨w, v⟩ | ⟨w, v⟩
      · omega
      · exact ⟨(q8 w).1, by omega, by rw [o4 o 26 oc (by omega)]; exact (q8 w).2.2⟩
      · omega
    · rcases hss with ⟨w, v⟩ | ⟨w, v⟩ | ⟨w, v⟩
      · omega
      · omega
      · exact ⟨(q9 w).1, by omega, by rw [o4 o 26 oc (by omega)]; exact (q9 w).2.2⟩
    · rcases hss with ⟨w, v⟩ | ⟨w, v⟩ | ⟨w, v⟩
      · exact ⟨(q7 w).1, by omega⟩
      · omega
      · omega
    · rcases hss with ⟨-, v⟩ | ⟨-, v⟩ | ⟨-, v⟩ <;> omega
    · rcases hss with ⟨-, v⟩ | ⟨-, v⟩ | ⟨-, v⟩ <;> omega
  · have hJ := hS.2.2.2.2.1 q hq
    by_cases e : q = p
    · rw [e] at hJ ⊢
      refine ⟨by rw [og 22 p (by decide) (by omega) (by omega)]; exact hJ.1, fun z => ?_⟩
      rcases g15 with ⟨-, y | ⟨-, y⟩⟩ | ⟨-, y, y2⟩
      · rw [y] at z; exact absurd z (by decide)
      · exact ⟨0, by rw [y]; decide, by omega⟩
      · rw [y] at z
        rw [y2]
        exact hJ.2 z
    · exact hJ.of (og _ _ (by decide) (by omega) (by omega)) (og _ _ (by decide) (by omega) (by omega)) (og _ _ (by decide) (by omega) (by omega))
theorem acc_fr (hp : p < n) (og : ∀ q j, q ∉ [2, 31, 32, 34, 65, 66] → ¬ ((q = 27 ∨ q = 28) ∧ j = c) → ¬ ((11 ≤ q ∧ q ≤ 25 ∧ q ≠ 13 ∧ q ≠ 22) ∧ j = p) → g.1 q j = f.1 q j) (lg : g.2 = f.2) : FR n a f g := by
  refine ⟨fun q j h1 h2 h3 => og q j (fun z => ?_) (by omega) (fun z => h3 (by omega) (by omega)), fun u j h1 h2 => og u j (by simp only [List.mem_cons, List.not_mem_nil, or_false]; omega) (by omega) (by omega), fun u j _ => by rw [lg]⟩
  simp only [List.mem_cons, List.not_mem_nil, or_false] at z
  rcases z with rfl | rfl | rfl | rfl | rfl | rfl <;> exact absurd h1 (by decide)
theorem SM.str2 (hS : PS f n a) (hp : p < n) (c1 : 1 ≤ c) (c2 : c ≤ 8) (hcv : cv = Int32.ofNat c) (h27 : f.1 27 c = 0) (h26 : f.1 26 c = 2) (h2 : ¬ 2 < f.1 11 p) (h34 : (f.1 34 0).toInt = (h : Int)) (hh : h < 2147481000) : SM n a 65 f (R_str2 (R_acc1 f c cv p) n a p) := by
  have hn4 := hS.1.2.2.1
  have hci : cv.toInt = (c : Int) := by rw [hcv]; exact i32_ofNat (by omega)
  obtain ⟨F, hF⟩ : ∃ F, F = R_acc1 f c cv p := ⟨_, rfl⟩
  rw [← hF]
  have oF : ∀ q j, ¬ ((q = 27 ∨ q = 28) ∧ j = c) → ¬ ((q = 14 ∨ q = 23 ∨ q = 24 ∨ q = 25) ∧ j = p) → F.1 q j = f.1 q j := fun q j z1 z2 => by rw [hF]; exact acc1_o z1 z2
  have lF : F.2 = f.2 := by rw [hF]; rfl
  have F27 : F.1 27 c = Int32.ofNat (p + 1) := by
    rw [hF]
    unfold R_acc1
    rw [rf_ui_ne (by omega), rf_ui_ne (by omega), rf_ui_ne (by omega), rf_ui_ne (by omega), rf_ui_ne (by omega), rf_ui_eq]
    exact nadd rfl (by omega)
  have F28 : F.1 28 c = 2 := by
    rw [hF]
    unfold R_acc1
    rw [rf_ui_ne (by omega), rf_ui_ne (by omega), rf_ui_ne (by omega), rf_ui_ne (by omega), rf_ui_eq]
  have F14 : F.1 14 p = Int32.ofNat c := by
    rw [hF]
    unfold R_acc1
    rw [rf_ui_ne (by omega), rf_ui_ne (by omega), rf_ui_ne (by omega), rf_ui_eq, hcv]
  have gF : R_gok F n a := by rw [hF]; exact acc1_gok hS.1 hci c2
  have F11 : F.1 11 p = f.1 11 p := oF 11 p (by omega) (by omega)
  obtain ⟨-, -, -, -, -, -, -, -, -, -, -, -, -, -, -, -, -, -, -, q16, -⟩ := hS.2.2.1 p hp
  obtain ⟨st, f11, st7, -⟩ := st_v hS hp
  have st2 : st ≤ 2 := by
    rw [f11, Int32.lt_iff_toInt_lt, i32_ofNat (by omega), show (2 : Int32).toInt = 2 by decide] at h2
    omega
  have nop : ¬ R_open (f.1 11 p) := by
    rcases (show st = 0 ∨ st = 1 ∨ st = 2 by omega) with z | z | z <;> rw [f11, z] <;> (intro y; rcases y with y | y <;> exact absurd y (by decide))
  -- the state alone
  have ent : ∀ (s : Nat) (sv : Int32), sv.toInt = (s : Int) → (f.1 11 p = 1 ∧ s = 3) ∨ (f.1 11 p = 2 ∧ s = 4) → SM n a 0 f (R_enter F p sv) := by
    intro s sv hs1 hs2
    have oe : ∀ q j, q ∉ [2, 31, 32, 34, 65, 66] → ¬ ((q = 27 ∨ q = 28) ∧ j = c) → ¬ ((11 ≤ q ∧ q ≤ 25 ∧ q ≠ 13 ∧ q ≠ 22) ∧ j = p) → (R_enter F p sv).1 q j = f.1 q j := fun q j _ z2 z3 => by rw [enter_o (by omega), oF q j z2 (by omega)]
    have e34 : (R_enter F p sv).1 34 0 = f.1 34 0 := by rw [enter_o (by omega), oF 34 0 (by omega) (by omega)]
    refine ⟨acc_ps (s := s) hS hp c1 c2 h27 h26 gF.enter (by rcases hs2 with z | z; exact Or.inr (Or.inl z); exact Or.inr (Or.inr z)) (by rw [enter_v]; exact hs1) (by rw [enter_o (by omega)]; exact F14) (by rw [enter_o (by omega)]; exact F27) (by rw [enter_o (by omega)]; exact F28) oe lF (Or.inr ⟨by omega, by rw [enter_o (by omega), oF 15 p (by omega) (by omega)], by rw [enter_o (by omega), oF 19 p (by omega) (by omega)]⟩) (by rw [enter_o (by omega), oF 16 p (by omega) (by omega)]; exact q16) (by rw [e34]; exact Int.le_refl _), acc_fr hp oe lF, by rw [e34]; exact Int.le_refl _, by rw [e34]; omega⟩
  unfold R_str2
  rw [F11]
  by_cases e0 : f.1 11 p = 0
  · rw [if_pos e0]
    obtain ⟨A, hA⟩ : ∃ A, A = R_answerCame F p := ⟨_, rfl⟩
    have oA : ∀ q j, q ≠ 65 → q ≠ 2 → q ≠ 31 → q ≠ 32 → q ≠ 66 → A.1 q j = F.1 q j := fun q j z1 z2 z3 z4 z5 => by rw [hA]; exact R_answerCame_o z1 z2 z3 z4 z5
    have lA : A.2 = f.2 := by rw [hA]; unfold R_answerCame; rw [R_msg_l, lF]
    have gA : R_gok A n a := by rw [hA]; exact R_answerCame_gok gF (by omega)
    rw [← hA, R_become_ny op5 (by rw [oA 11 p (by omega) (by omega) (by omega) (by omega) (by omega), F11]; exact nop)]
    obtain ⟨K, hK⟩ : ∃ K, K = R_bopen (R_enter A p 5) p := ⟨_, rfl⟩
    obtain ⟨v15, v16, v34⟩ := R_bopen_v (f := R_enter A p 5) (p := p)
    rw [← hK]
    rw [← hK] at v15 v16 v34
    rw [enter_o (by omega), oA 34 0 (by omega) (by omega) (by omega) (by omega) (by omega), oF 34 0 (by omega) (by omega)] at v34
    rw [enter_o (by omega), oA 16 p (by omega) (by omega) (by omega) (by omega) (by omega), oF 16 p (by omega) (by omega)] at v16
    have oK : ∀ q j, q ∉ [2, 31, 32, 34, 65, 66] → ¬ ((q = 11 ∨ q = 12 ∨ q = 15 ∨ q = 16 ∨ q = 17 ∨ q = 19 ∨ q = 21) ∧ j = p) → K.1 q j = F.1 q j := fun q j z1 z2 => by
      simp only [List.mem_cons, List.not_mem_nil, or_false] at z1
      rw [hK, R_bopen_o (by simp only [List.mem_cons, List.not_mem_nil, or_false]; omega) (by omega), enter_o (by omega), oA q j (by omega) (by omega) (by omega) (by omega) (by omega)]
    have ok : ∀ q j, q ∉ [2, 31, 32, 34, 65, 66] → ¬ ((q = 27 ∨ q = 28) ∧ j = c) → ¬ ((11 ≤ q ∧ q ≤ 25 ∧ q ≠ 13 ∧ q ≠ 22) ∧ j = p) → K.1 q j = f.1 q j := fun q j z1 z2 z3 => by rw [oK q j z1 (by omega), oF q j z2 (by omega)]
    have lK : K.2 = f.2 := by rw [hK, R_bopen_l]; exact lA
    have w34 : (f.1 34 0).toInt ≤ (K.1 34 0).toInt ∧ (K.1 34 0).toInt ≤ (f.1 34 0).toInt + 1 := by
      rcases v34 with z | z
      · rw [z]; omega
      · rw [z, i32_add (c := 1) h34 (by decide) (by omega) (by omega)]; omega
    refine ⟨acc_ps (s := 5) hS hp c1 c2 h27 h26 (by rw [hK]; exact R_bopen_gok gA.enter (by omega)) (Or.inl ⟨e0, rfl⟩) (by rw [hK, R_bopen_o (by decide) (by omega), enter_v]; decide) (by rw [oK 14 p (by decide) (by omega)]; exact F14) (by rw [oK 27 c (by decide) (by omega)]; exact F27) (by rw [oK 28 c (by decide) (by omega)]; exact F28) ok lK (Or.inl ⟨rfl, v15⟩) ?_ w34.1, acc_fr hp ok lK, w34.1, by omega⟩
    rcases v16 with z | z
    · rw [z]; exact q16
    · exact Or.inr z
  · rw [if_neg e0]
    by_cases e1 : f.1 11 p = 1
    · rw [if_pos e1, R_become_nn no3 (by rw [F11]; exact nop)]
      exact (ent 3 3 (by decide) (Or.inl ⟨e1, rfl⟩)).le (by omega)
    · rw [if_neg e1]
      have e2 : f.1 11 p = 2 := by
        have : st = 2 := by
          rcases (show st = 0 ∨ st = 1 ∨ st = 2 by omega) with z | z | z
          · exact absurd (by rw [f11, z]; rfl) e0
          · exact absurd (by rw [f11, z]; rfl) e1
          · exact z
        rw [f11, this]; rfl
      have S4 := ent 4 4 (by decide) (Or.inr ⟨e2, rfl⟩)
      by_cases hl : R_later F p
      · obtain ⟨st', o, kk, u, ⟨t11, t11'⟩, ⟨t13, t13'⟩, ⟨t14, t14'⟩, -, q5, -, -, -, q9, -⟩ := hS.2.2.1 p hp
        have est : st' = 2 := by
          rw [e2, show (2 : Int32).toInt = 2 by decide] at t11
          omega
        obtain ⟨o1, o2, o3⟩ := q9 est
        obtain ⟨r1, r2⟩ := q5 o1
        have oc : o ≠ c := fun z => by
          rw [z, h27] at r1
          exact ofN_ne (n := p + 1) (by omega) (by omega) r1.symm
        rw [R_choose_drop (c := o) (by omega) (by rw [oF 13 p (by omega) (by omega)]; exact i32_eq t13 (by omega)) (by omega) (by rw [oF 27 o (by omega) (by omega)]; exact r1) (by rw [oF 28 o (by omega) (by omega)]; exact r2) (by rw [F11]; exact nop) hl]
        have w1 := S4.2.2.1
        have w2 := S4.2.2.2
        have S5 := SM.drop (c := o) S4.1 (by omega) t13' (h := h) (by omega) (by omega)
        exact (S4.tr S5).le (by omega)
      · unfold R_choose
        rw [if_neg hl, R_become_nn no4 (by rw [F11]; exact nop)]
        exact S4.le (by omega)
theorem R_stT_lq : (R_stT f res).length ≤ 12 := by
  unfold R_stT
  split
  · exact (by decide : 12 ≤ 12)
  · exact (by decide : 0 ≤ 12)
theorem R_nmT_lq : (R_nmT f).length ≤ 16 := by
  unfold R_nmT
  split
  · exact (by decide : 16 ≤ 16)
  · exact (by decide : 0 ≤ 16)
theorem SM.refuse (hS : PS f n a) (hs : R_sok f) (hc : cv.toInt = (c : Int)) (hc8 : c ≤ 8) : SM n a 0 f (R_refuse f cv) := by
  have := (R_ans_l (res := f.1 74 0) hS.1.1 hs).1
  have := R_nmT_lq (f := f)
  exact SM.msg hS (by rw [List.length_append]; omega) hc hc8
theorem SM.ansW (hS : PS f n a) (hs : R_sok f) (hc : cv.toInt = (c : Int)) (hc8 : c ≤ 8) : SM n a 0 f (R_ansW f cv res) := by
  have := (R_ans_l (res := res) hS.1.1 hs).1
  have := R_stT_lq (f := f) (res := res)
  exact SM.msg hS (by rw [List.length_append]; omega) hc hc8
theorem SM.str (hS : PS f n a) (hs : R_sok f) (c1 : 1 ≤ c) (c2 : c ≤ 8) (hcv : cv.toInt = (c : Int)) (h27 : f.1 27 c = 0) (h26 : f.1 26 c = 2) (h34 : (f.1 34 0).toInt = (h : Int)) (hh : h < 2147481000) : SM n a 65 f (R_strange f n a c cv) := by
  have m27 : ∀ bs, (R_msg f bs cv).1 27 c = 0 := fun bs => by rw [R_msg_o (by omega) (by omega) (by omega) (by omega) (by omega)]; exact h27
  unfold R_strange
  split
  · exact ((SM.u2 hS).tr (SM.shut (SM.u2 hS).1 c1 c2 (by rw [rf_ui_ne (by omega)]; exact h27))).le (by omega)
  split
  · exact ((SM.refuse hS hs hcv c2).tr (SM.shut (SM.refuse hS hs hcv c2).1 c1 c2 (m27 _))).le (by omega)
  cases hx : R_pm f n with
  | none =>
    show SM n a 65 f (R_shut (R_ansW f cv 3010) c)
    exact ((SM.ansW hS hs hcv c2).tr (SM.shut (SM.ansW hS hs hcv c2).1 c1 c2 (m27 _))).le (by omega)
  | some p =>
    have hp := (R_pm_s n p hx).1
    show SM n a 65 f (if 0 < R_bad f (some p) then R_shut (R_ansW f cv (R_bad f (some p))) c else R_str2 (R_acc1 f c cv p) n a p)
    split
    · exact ((SM.ansW hS hs hcv c2).tr (SM.shut (SM.ansW hS hs hcv c2).1 c1 c2 (m27 _))).le (by omega)
    · rename_i hb
      refine SM.str2 hS hp c1 c2 (i32_eq hcv (by omega)) h27 h26 (fun z => hb ?_) h34 hh
      show 0 < (if f.1 80 0 = 0 then 5010 else if 2 < f.1 11 p then 3004 else (0 : Int32))
      split
      · decide
      · decide
end JxStrpure
