/-! WHAT HOLDS OF THE REFERENCE'S STATE: a connection is dropped, every case -/
section JxDrop2
variable {f g F : jx_F} {n a p c c0 i k o st u : Nat} {s : Int32}
theorem PI_p1.closed (h11 : F.1 11 p = 0) (h13 : F.1 13 p = 0) (h14 : F.1 14 p = 0) (h15 : (F.1 15 p).toInt = (u : Int)) (hu : u ≤ 4) (hu2 : ¬ (u = 1 ∨ u = 2 ∨ u = 4)) (h16 : F.1 16 p = 0 ∨ F.1 16 p = 1) (h10 : F.1 10 p = 0 ∨ F.1 10 p = 1) : PI_p1 F p := by
  have z0 : (0 : Int32).toInt = ((0 : Nat) : Int) := by decide
  exact ⟨0, 0, 0, u, ⟨by rw [h11]; exact z0, by omega⟩, ⟨by rw [h13]; exact z0, by omega⟩, ⟨by rw [h14]; exact z0, by omega⟩, ⟨h15, hu⟩, fun e => absurd rfl e, fun e => absurd rfl e, fun _ => ⟨rfl, rfl⟩, fun e => by omega, fun e => by omega, fun e => by omega, fun e => by omega, fun e => by omega, fun e => by omega, fun e => by omega, ⟨fun e => absurd e hu2, fun e => by omega⟩, h16, h10⟩
theorem PI_c1.no (h26 : F.1 26 c = 0) (h27 : F.1 27 c = 0) (h28 : F.1 28 c = 0) (h30 : F.1 30 c = 0) : PI_c1 F n c := by
  have z0 : (0 : Int32).toInt = ((0 : Nat) : Int) := by decide
  exact ⟨0, 0, 0, ⟨by rw [h26]; exact z0, by omega⟩, ⟨by rw [h27]; exact z0, by omega⟩, ⟨by rw [h28]; exact z0, by omega⟩, fun _ => ⟨rfl, rfl, h30⟩, ⟨fun _ => rfl, fun _ => rfl⟩, fun z => by omega, fun z => by omega, fun z => by omega⟩
theorem PS.drop (hS : PS f n a) (c1 : 1 ≤ c) (c2 : c ≤ 8) (h34 : ∃ h : Nat, (f.1 34 0).toInt = (h : Int) ∧ h < 2147482000) : PS (R_drop f n a c) n a ∧ (f.1 34 0).toInt ≤ ((R_drop f n a c).1 34 0).toInt ∧ ((R_drop f n a c).1 34 0).toInt ≤ (f.1 34 0).toInt + 64 := by
  have hn4 := hS.1.2.2.1
  obtain ⟨hh, hx34, hlt34⟩ := h34
  by_cases h27 : f.1 27 c = 0
  · have e : R_drop f n a c = R_shut0 f c := by unfold R_drop; rw [if_pos h27, R_shut_no h27]
    rw [e, R_shut0_o (q := 34) (by omega)]
    exact ⟨hS.shut0 c1 c2 h27, Int.le_refl _, by omega⟩
  obtain ⟨x, q, r, ⟨t1, t1'⟩, ⟨t2, t2'⟩, -⟩ := hS.2.1 c c1 c2
  have hq0 : q ≠ 0 := fun z => h27 ((i32_z t2).mpr z)
  obtain ⟨p, hp, h27p⟩ : ∃ p, p < n ∧ f.1 27 c = Int32.ofNat (p + 1) := ⟨q - 1, by omega, i32_eq (x := f.1 27 c) (n := q - 1 + 1) (by rw [t2]; omega) (by omega)⟩
  obtain ⟨i1, i2⟩ := i32_p1 (p := p) (by omega) h27p
  have hpn : (f.1 27 c).toInt = ((p + 1 : Nat) : Int) := by rw [h27p, i32_ofNat (by omega)]
  obtain ⟨g, hg⟩ : ∃ g, g = R_shut f c := ⟨_, rfl⟩
  have eD : R_drop f n a c = R_drop1 g n a p (f.1 28 c) := by unfold R_drop; rw [if_neg i1, i2, ← hg]
  rw [eD]
  have hgg : R_gok g n a := by rw [hg]; exact R_shut_gok hpn hS.1
  have og : ∀ q j, ¬ ((q = 26 ∨ q = 27 ∨ q = 28 ∨ q = 30) ∧ j = c) → ¬ ((q = 13 ∨ q = 14) ∧ j = p) → g.1 q j = f.1 q j := fun q j h1 h2 => by rw [hg]; exact R_shut_o hpn h1 (by omega)
  have gl : g.2 = f.2 := by rw [hg]; exact R_shut_l
  obtain ⟨v26, v27, v28, v30⟩ : g.1 26 c = 0 ∧ g.1 27 c = 0 ∧ g.1 28 c = 0 ∧ g.1 30 c = 0 := by rw [hg]; exact R_shut0_v
  obtain ⟨st, o, kk, u, ⟨t11, t11'⟩, ⟨t13, t13'⟩, ⟨t14, t14'⟩, ⟨t15, t15'⟩, q5, q6, q7, q8, q9, q10, q11, q12, q13, q14, q15, q16, q17⟩ := hS.2.2.1 p hp
  have hst : ∀ y : Nat, y < 8 → (f.1 11 p = Int32.ofNat y ↔ st = y) := fun y hy => by
    rw [i32_eq (x := f.1 11 p) (n := st) t11 (by omega)]
    exact ⟨fun e => ofN_inj (by omega) (by omega) e, fun e => by rw [e]⟩
  have g11 : g.1 11 p = f.1 11 p := og 11 p (by omega) (by omega)
  have g3 : g.1 11 p = 3 ↔ st = 3 := by rw [g11]; exact hst 3 (by omega)
  have g4 : g.1 11 p = 4 ↔ st = 4 := by rw [g11]; exact hst 4 (by omega)
  have gop : R_open (g.1 11 p) ↔ (st = 5 ∨ st = 6) := by
    unfold R_open
    rw [g11]
    exact or_congr (hst 5 (by omega)) (hst 6 (by omega))
  have fop : R_open (f.1 11 p) ↔ (st = 5 ∨ st = 6) := by rw [← g11]; exact gop
  have f13 : f.1 13 p = Int32.ofNat o := i32_eq (x := f.1 13 p) (n := o) t13 (by omega)
  have f14 : f.1 14 p = Int32.ofNat kk := i32_eq (x := f.1 14 p) (n := kk) t14 (by omega)
  have cof : ∀ c', 1 ≤ c' → c' ≤ 8 → f.1 27 c' = Int32.ofNat (p + 1) → (f.1 28 c' = 1 ∧ c' = o) ∨ (f.1 28 c' = 2 ∧ c' = kk) := fun c' h1 h2 h3 => by
    rcases hS.cof hp h1 h2 h3 with z | z
    · exact Or.inl ⟨z.1, by have := z.2; rw [f13] at this; exact (ofN_inj (by omega) (by omega) this).symm⟩
    · exact Or.inr ⟨z.1, by have := z.2.1; rw [f14] at this; exact (ofN_inj (by omega) (by omega) this).symm⟩
  have g34 : g.1 34 0 = f.1 34 0 := og 34 0 (by omega) (by omega)
  have hno0 : ¬ R_open (0 : Int32) := fun z => by rcases z with z | z <;> exact absurd z (by decide)
  -- c is own or came; the other one stays
  have role : (f.1 28 c = 1 ∧ c = o ∧ g.1 13 p = 0 ∧ g.1 14 p = f.1 14 p) ∨ (f.1 28 c = 2 ∧ c = kk ∧ g.1 13 p = f.1 13 p ∧ g.1 14 p = 0) := by
    rcases cof c c1 c2 h27p with ⟨z1, z2⟩ | ⟨z1, z2⟩
    · refine Or.inl ⟨z1, z2, ?_, ?_⟩
      · rw [hg, R_shut_own (by omega) h27p z1, rf_ui_eq]
      · rw [hg, R_shut_own (by omega) h27p z1, rf_ui_ne (by omega), R_shut0_o (by omega)]
    · refine Or.inr ⟨z1, z2, ?_, ?_⟩
      · rw [hg, R_shut_came (by omega) h27p z1, rf_ui_ne (by omega), R_shut0_o (by omega)]
      · rw [hg, R_shut_came (by omega) h27p z1, rf_ui_eq]
  -- what all the cases share
  have ent : ∀ s, R_gok (R_enter g p s) n a := fun s => hgg.enter
  have oe : ∀ s q j, ¬ ((q = 11 ∨ q = 12) ∧ j = p) → (R_enter g p s).1 q j = g.1 q j := fun s q j h => enter_o h
  have JI : ∀ F : jx_F, (∀ c', c' ≠ c → F.1 30 c' = f.1 30 c') → F.1 30 c = 0 → (∀ j, F.1 29 j = f.1 29 j) → ∀ c', 1 ≤ c' → c' ≤ 8 → PJ_i F c' := fun F e1 e2 e3 c' h1 h2 => by
    by_cases e : c' = c
    · subst e; exact Or.inl (by rw [e2]; decide)
    · exact (hS.2.2.2.2.2.1 c' h1 h2).of (e1 c' e) e3
  -- the PEER closes and was open
  have bsh : (st = 5 ∨ st = 6) → g.1 13 p = 0 → g.1 14 p = 0 → PS (R_drop1 g n a p (f.1 28 c)) n a ∧ (f.1 34 0).toInt ≤ ((R_drop1 g n a p (f.1 28 c)).1 34 0).toInt ∧ ((R_drop1 g n a p (f.1 28 c)).1 34 0).toInt ≤ (f.1 34 0).toInt + 64 := fun ho e13 e14 => by
    have e : R_drop1 g n a p (f.1 28 c) = R_bshut (R_enter g p 0) n a p := by
      unfold R_drop1
      rw [if_neg (fun z => by have := g3.mp z; omega), if_neg (fun z => by have := g4.mp z; omega), R_become_yn hno0 (gop.mpr ho)]
    rw [e]
    have one : ∀ c', 1 ≤ c' → c' ≤ 8 → f.1 27 c' = Int32.ofNat (p + 1) → c' = c := fun c' h1 h2 h3 => by
      rcases role with ⟨z1, z2, z3, z4⟩ | ⟨z1, z2, z3, z4⟩
      · have : kk = 0 := (i32_z t14).mp (by rw [← z4]; exact e14)
        rcases cof c' h1 h2 h3 with w | w <;> omega
      · have : o = 0 := (i32_z t13).mp (by rw [← z3]; exact e13)
        rcases cof c' h1 h2 h3 with w | w <;> omega
    have z0 : (0 : Int32).toInt = ((0 : Nat) : Int) := by decide
    refine hS.bshut (g := R_enter g p 0) hp ⟨hh, hx34, by omega⟩ (ent 0) (fun w hw hne q hq => ?_) (fun q j hq => by rw [oe 0 q j (by omega)]; exact og q j (by omega) (by omega)) (fun j => by show g.2 53 j = _; rw [gl]) (fun c' h1 h2 h3 q hq => ?_) (fun c' h1 h2 h3 => ?_) ⟨0, 0, 0, ⟨by rw [enter_v]; exact z0, Or.inl rfl⟩, ⟨by rw [oe 0 13 p (by omega), e13]; exact z0, by omega⟩, ⟨by rw [oe 0 14 p (by omega), e14]; exact z0, by omega⟩, fun z => absurd rfl z, fun z => absurd rfl z, fun _ => ⟨rfl, rfl⟩, fun z => by omega⟩ (by rw [oe 0 10 p (by omega)]; exact og 10 p (by omega) (by omega)) (fun w hw => (hS.2.2.2.2.1 w hw).of (by rw [oe 0 22 w (by omega)]; exact og 22 w (by omega) (by omega)) (by rw [oe 0 15 w (by omega)]; exact og 15 w (by omega) (by omega)) (by rw [oe 0 19 w (by omega)]; exact og 19 w (by omega) (by omega))) (JI _ (fun c' hc' => by rw [oe 0 30 c' (by omega)]; exact og 30 c' (by omega) (by omega)) (by rw [oe 0 30 c (by omega)]; exact v30) (fun j => by rw [oe 0 29 j (by omega)]; exact og 29 j (by omega) (by omega)))
    · simp only [List.mem_cons, List.not_mem_nil, or_false] at hq
      rw [oe 0 q w (by omega)]
      exact og q w (by omega) (by omega)
    · rw [oe 0 q c' (by omega)]
      exact og q c' (fun z => h3 (by rw [z.2]; exact h27p)) (by omega)
    · rw [one c' h1 h2 h3]
      exact PI_c1.no (by rw [oe 0 26 c (by omega)]; exact v26) (by rw [oe 0 27 c (by omega)]; exact v27) (by rw [oe 0 28 c (by omega)]; exact v28) (by rw [oe 0 30 c (by omega)]; exact v30)
  -- the PEER was not open: its state alone
  have ent0 : ∀ s : Int32, ¬ (st = 5 ∨ st = 6) → PI_p1 (R_enter g p s) p → (∀ c', 1 ≤ c' → c' ≤ 8 → c' ≠ c → f.1 27 c' = Int32.ofNat (p + 1) → PI_c1 (R_enter g p s) n c') → PS (R_enter g p s) n a := fun s ho hPp hCc => by
    refine hS.nopen (c0 := 0) hp (fun z => ho (fop.mp z)) (ent s) (fun w hw hne q hq => ?_) (fun q j hq => by rw [oe s q j (by omega)]; exact og q j (by omega) (by omega)) (fun j => by show g.2 53 j = _; rw [gl]) (fun c' h1 h2 h3 _ q hq => ?_) (Or.inl rfl) (fun c' h1 h2 h3 => ?_) hPp (fun w hw => (hS.2.2.2.2.1 w hw).of (by rw [oe s 22 w (by omega)]; exact og 22 w (by omega) (by omega)) (by rw [oe s 15 w (by omega)]; exact og 15 w (by omega) (by omega)) (by rw [oe s 19 w (by omega)]; exact og 19 w (by omega) (by omega))) (JI _ (fun c' hc' => by rw [oe s 30 c' (by omega)]; exact og 30 c' (by omega) (by omega)) (by rw [oe s 30 c (by omega)]; exact v30) (fun j => by rw [oe s 29 j (by omega)]; exact og 29 j (by omega) (by omega))) (by rw [oe s 34 0 (by omega), g34]; exact Int.le_refl _)
    · simp only [List.mem_cons, List.not_mem_nil, or_false] at hq
      rw [oe s q w (by omega)]
      exact og q w (by omega) (by omega)
    · rw [oe s q c' (by omega)]
      exact og q c' (fun z => h3 (by rw [z.2]; exact h27p)) (by omega)
    · rcases h3 with h3 | h3
      · by_cases e : c' = c
        · rw [e]
          exact PI_c1.no (by rw [oe s 26 c (by omega)]; exact v26) (by rw [oe s 27 c (by omega)]; exact v27) (by rw [oe s 28 c (by omega)]; exact v28) (by rw [oe s 30 c (by omega)]; exact v30)
        · exact hCc c' h1 h2 e h3
      · omega
  have nob : ¬ (st = 5 ∨ st = 6) → ¬ st = 3 → ¬ st = 4 → g.1 13 p = 0 → g.1 14 p = 0 → PS (R_drop1 g n a p (f.1 28 c)) n a ∧ (f.1 34 0).toInt ≤ ((R_drop1 g n a p (f.1 28 c)).1 34 0).toInt ∧ ((R_drop1 g n a p (f.1 28 c)).1 34 0).toInt ≤ (f.1 34 0).toInt + 64 := fun ho h3 h4 e13 e14 => by
    have e : R_drop1 g n a p (f.1 28 c) = R_enter g p 0 := by
      unfold R_drop1
      rw [if_neg (fun z => h3 (g3.mp z)), if_neg (fun z => h4 (g4.mp z)), R_become_nn hno0 (fun z => ho (gop.mp z))]
    rw [e, oe 0 34 0 (by omega), g34]
    refine ⟨ent0 0 ho (PI_p1.closed (u := u) enter_v (by rw [oe 0 13 p (by omega)]; exact e13) (by rw [oe 0 14 p (by omega)]; exact e14) (by rw [oe 0 15 p (by omega), og 15 p (by omega) (by omega)]; exact t15) t15' (fun z => ho (q15.mp z)) (by rw [oe 0 16 p (by omega), og 16 p (by omega) (by omega)]; exact q16) (by rw [oe 0 10 p (by omega), og 10 p (by omega) (by omega)]; exact q17)) (fun c' h1 h2 hne h3' => ?_), Int.le_refl _, by omega⟩
    exfalso
    rcases role with ⟨z1, z2, z3, z4⟩ | ⟨z1, z2, z3, z4⟩
    · have : kk = 0 := (i32_z t14).mp (by rw [← z4]; exact e14)
      rcases cof c' h1 h2 h3' with w | w <;> omega
    · have : o = 0 := (i32_z t13).mp (by rw [← z3]; exact e13)
      rcases cof c' h1 h2 h3' with w | w <;> omega
  rcases role with ⟨z1, z2, z3, z4⟩ | ⟨z1, z2, z3, z4⟩
  · -- own
    have o0 : o ≠ 0 := by omega
    by_cases h34' : st = 3 ∨ st = 4
    · have k0 : kk ≠ 0 := by
        rcases h34' with e | e
        · exact (q10 e).2.1
        · exact (q11 e).2.1
      have e : R_drop1 g n a p (f.1 28 c) = R_bopen (R_enter (R_answerCame g p) p 5) p := by
        unfold R_drop1
        rw [← R_accepts_eq (n := n) (a := a) (fun z => by have := gop.mp z; omega)]
        rcases h34' with e | e
        · rw [if_pos (g3.mpr e), if_pos z1]
        · rw [if_neg (fun z => by have := g3.mp z; omega), if_pos (g4.mpr e), if_pos z1]
      rw [e]
      obtain ⟨F, hF⟩ : ∃ F, F = R_bopen (R_enter (R_answerCame g p) p 5) p := ⟨_, rfl⟩
      rw [← hF]
      have oF : ∀ q j, q ∉ [2, 31, 32, 34, 65, 66] → ¬ ((q = 11 ∨ q = 12 ∨ q = 15 ∨ q = 16 ∨ q = 17 ∨ q = 19 ∨ q = 21) ∧ j = p) → F.1 q j = g.1 q j := fun q j h1 h2 => by
        rw [hF, R_bopen_o h1 (by omega), enter_o (by omega)]
        simp only [List.mem_cons, List.not_mem_nil, or_false] at h1
        exact R_answerCame_o (by omega) (by omega) (by omega) (by omega) (by omega)
      have Fl : F.2 = f.2 := by
        rw [hF, R_bopen_l]
        show (R_answerCame g p).2 = _
        unfold R_answerCame
        rw [R_msg_l, gl]
      have F11 : F.1 11 p = 5 := by rw [hF, R_bopen_o (by decide) (by omega)]; exact enter_v
      obtain ⟨w15, w16, w34⟩ : (F.1 15 p = 1 ∨ (F.1 15 p = 4 ∧ F.1 19 p = 0)) ∧ (F.1 16 p = g.1 16 p ∨ F.1 16 p = 1) ∧ (F.1 34 0 = g.1 34 0 ∨ F.1 34 0 = g.1 34 0 + 1) := by
        have h := R_bopen_v (f := R_enter (R_answerCame g p) p 5) (p := p)
        rw [← hF, enter_o (q := 16) (by omega), enter_o (q := 34) (by omega), R_answerCame_o (by decide) (by decide) (by decide) (by decide) (by decide), R_answerCame_o (by decide) (by decide) (by decide) (by decide) (by decide)] at h
        exact h
      have Fg : R_gok F n a := by
        rw [hF]
        exact R_bopen_gok (R_gok.enter (R_answerCame_gok hgg (by omega))) (by omega)
      have F34 : (f.1 34 0).toInt ≤ (F.1 34 0).toInt ∧ (F.1 34 0).toInt ≤ (f.1 34 0).toInt + 64 := by
        rcases w34 with e | e
        · rw [e, g34]; omega
        · rw [e, g34, i32_add (c := 1) hx34 (by decide) (by omega) (by omega)]; omega
      have hkc : kk ≠ c := fun z => by
        have := (q6 k0).2
        rw [z, z1] at this
        exact absurd this (by decide)
      refine ⟨?_, F34⟩
      refine hS.nopen (c0 := 0) hp (fun z => by have := fop.mp z; omega) Fg (fun w hw hne q hq => ?_) (fun q j hq => by rw [oF q j (by simp only [List.mem_cons, List.not_mem_nil, or_false]; omega) (by omega)]; exact og q j (by omega) (by omega)) (fun j => by rw [Fl]) (fun c' h1 h2 h3 _ q hq => ?_) (Or.inl rfl) (fun c' h1 h2 h3 => ?_) ?_ (fun w hw => ?_) (JI _ (fun c' hc' => by rw [oF 30 c' (by decide) (by omega)]; exact og 30 c' (by omega) (by omega)) (by rw [oF 30 c (by decide) (by omega)]; exact v30) (fun j => by rw [oF 29 j (by decide) (by omega)]; exact og 29 j (by omega) (by omega))) F34.1
      · simp only [List.mem_cons, List.not_mem_nil, or_false] at hq
        rw [oF q w (by simp only [List.mem_cons, List.not_mem_nil, or_false]; omega) (by omega)]
        exact og q w (by omega) (by omega)
      · rw [oF q c' (by simp only [List.mem_cons, List.not_mem_nil, or_false]; omega) (by omega)]
        exact og q c' (fun z => h3 (by rw [z.2]; exact h27p)) (by omega)
      · rcases h3 with h3 | h3
        · by_cases e : c' = c
          · rw [e]
            exact PI_c1.no (by rw [oF 26 c (by decide) (by omega)]; exact v26) (by rw [oF 27 c (by decide) (by omega)]; exact v27) (by rw [oF 28 c (by decide) (by omega)]; exact v28) (by rw [oF 30 c (by decide) (by omega)]; exact v30)
          · rcases cof c' h1 h2 h3 with w | w
            · omega
            · refine (hS.2.1 c' h1 h2).of (fun q hq => by rw [oF q c' (by simp only [List.mem_cons, List.not_mem_nil, or_false]; omega) (by omega)]; exact og q c' (by omega) (by omega)) (fun j _ ej => ⟨fun z => absurd z (by rw [w.1]; decide), fun _ => ?_⟩)
              have : j = p := by rw [h3] at ej; have := ofN_inj (by omega) (by omega) ej; omega
              rw [this, oF 14 p (by decide) (by omega)]
              exact z4
        · omega
      · have z0 : (0 : Int32).toInt = ((0 : Nat) : Int) := by decide
        obtain ⟨y1, y2⟩ := q6 k0
        obtain ⟨u', hu1, hu2⟩ : ∃ u' : Nat, (F.1 15 p).toInt = (u' : Int) ∧ (u' = 1 ∨ u' = 4) := by
          rcases w15 with e | e
          · exact ⟨1, by rw [e]; decide, Or.inl rfl⟩
          · exact ⟨4, by rw [e.1]; decide, Or.inr rfl⟩
        refine ⟨5, 0, kk, u', ⟨by rw [F11]; decide, by omega⟩, ⟨by rw [oF 13 p (by decide) (by omega), z3]; exact z0, by omega⟩, ⟨by rw [oF 14 p (by decide) (by omega), z4]; exact t14, t14'⟩, ⟨hu1, by omega⟩, fun z => absurd rfl z, fun _ => ?_, fun z => by omega, fun z => by omega, fun z => by omega, fun z => by omega, fun z => by omega, fun _ => ⟨rfl, k0⟩, fun z => by omega, fun z => by omega, ⟨fun _ => Or.inl rfl, fun _ => by omega⟩, ?_, by rw [oF 10 p (by decide) (by omega), og 10 p (by omega) (by omega)]; exact q17⟩
        · rw [oF 27 kk (by decide) (by omega), oF 28 kk (by decide) (by omega), og 27 kk (by omega) (by omega), og 28 kk (by omega) (by omega)]
          exact ⟨y1, y2⟩
        · rcases w16 with e | e
          · rw [e, og 16 p (by omega) (by omega)]; exact q16
          · exact Or.inr e
      · by_cases e : w = p
        · subst e
          have := hS.2.2.2.2.1 w hw
          unfold PJ_p at this ⊢
          rw [oF 22 w (by decide) (by omega), og 22 w (by omega) (by omega)]
          refine ⟨this.1, fun z => ?_⟩
          rcases w15 with e | e
          · rw [e] at z; exact absurd z (by decide)
          · exact ⟨0, by rw [e.2]; decide, by omega⟩
        · exact (hS.2.2.2.2.1 w hw).of (by rw [oF 22 w (by decide) (by omega)]; exact og 22 w (by omega) (by omega)) (by rw [oF 15 w (by decide) (by omega)]; exact og 15 w (by omega) (by omega)) (by rw [oF 19 w (by decide) (by omega)]; exact og 19 w (by omega) (by omega))
    · have k0 : kk = 0 := by
        have hs : st = 1 ∨ st = 2 ∨ st = 6 ∨ st = 7 := by
          rcases Nat.lt_or_ge st 1 with w | w
          · exact absurd (q7 (by omega)).1 o0
          · by_cases w5 : st = 5
            · exact absurd (q12 w5).1 o0
            · omega
        rcases hs with e | e | e | e
        · exact (q8 e).2.1
        · exact (q9 e).2.1
        · exact (q13 e).2.1
        · rcases q14 e with w | w
          · exact absurd w.1 o0
          · exact w.2.1
      have e14 : g.1 14 p = 0 := by rw [z4]; exact (i32_z t14).mpr k0
      by_cases ho : st = 5 ∨ st = 6
      · exact bsh ho z3 e14
      · exact nob ho (fun z => h34' (Or.inl z)) (fun z => h34' (Or.inr z)) z3 e14
  · -- came
    have k0 : kk ≠ 0 := by omega
    by_cases h34' : st = 3 ∨ st = 4
    · have o0 : o ≠ 0 := by
        rcases h34' with e | e
        · exact (q10 e).1
        · exact (q11 e).1
      have hoc : o ≠ c := fun z => by
        have := (q5 o0).2
        rw [z, z1] at this
        exact absurd this (by decide)
      obtain ⟨s, y, hsy, hst', e⟩ : ∃ (s : Int32) (y : Nat), s.toInt = (y : Int) ∧ ((st = 3 ∧ y = 1) ∨ (st = 4 ∧ y = 2)) ∧ R_drop1 g n a p (f.1 28 c) = R_enter g p s := by
        have hno : ¬ R_open (g.1 11 p) := fun z => by have := gop.mp z; omega
        rcases h34' with e | e
        · refine ⟨1, 1, by decide, Or.inl ⟨e, rfl⟩, ?_⟩
          unfold R_drop1
          rw [if_pos (g3.mpr e), if_neg (by rw [z1]; decide), R_become_nn (fun z => by rcases z with z | z <;> exact absurd z (by decide)) hno]
        · refine ⟨2, 2, by decide, Or.inr ⟨e, rfl⟩, ?_⟩
          unfold R_drop1
          rw [if_neg (fun z => by have := g3.mp z; omega), if_pos (g4.mpr e), if_neg (by rw [z1]; decide), R_become_nn (fun z => by rcases z with z | z <;> exact absurd z (by decide)) hno]
      rw [e, oe s 34 0 (by omega), g34]
      have z0 : (0 : Int32).toInt = ((0 : Nat) : Int) := by decide
      obtain ⟨y1, y2⟩ := q5 o0
      have n26 : (R_enter g p s).1 26 o = f.1 26 o := by rw [oe s 26 o (by omega)]; exact og 26 o (by omega) (by omega)
      refine ⟨ent0 s (by omega) ⟨y, o, 0, u, ⟨by rw [enter_v]; exact hsy, by omega⟩, ⟨by rw [oe s 13 p (by omega), z3]; exact t13, t13'⟩, ⟨by rw [oe s 14 p (by omega), z4]; exact z0, by omega⟩, ⟨by rw [oe s 15 p (by omega), og 15 p (by omega) (by omega)]; exact t15, t15'⟩, fun _ => ?_, fun z => absurd rfl z, fun z => by omega, fun z => ⟨o0, rfl, ?_⟩, fun z => ⟨o0, rfl, ?_⟩, fun z => by omega, fun z => by omega, fun z => by omega, fun z => by omega, fun z => by omega, ⟨fun z => by have := q15.mp z; omega, fun z => by omega⟩, by rw [oe s 16 p (by omega), og 16 p (by omega) (by omega)]; exact q16, by rw [oe s 10 p (by omega), og 10 p (by omega) (by omega)]; exact q17⟩ (fun c' h1 h2 hne h3 => ?_), Int.le_refl _, by omega⟩
      · rw [oe s 27 o (by omega), oe s 28 o (by omega), og 27 o (by omega) (by omega), og 28 o (by omega) (by omega)]
        exact ⟨y1, y2⟩
      · rw [n26]
        have : st = 3 := by omega
        exact (q10 this).2.2
      · rw [n26]
        have : st = 4 := by omega
        exact (q11 this).2.2
      · rcases cof c' h1 h2 h3 with w | w
        · refine (hS.2.1 c' h1 h2).of (fun q hq => by rw [oe s q c' (by omega)]; exact og q c' (by omega) (by omega)) (fun j _ ej => ⟨fun _ => ?_, fun z => absurd z (by rw [w.1]; decide)⟩)
          have : j = p := by rw [h3] at ej; have := ofN_inj (by omega) (by omega) ej; omega
          rw [this, oe s 13 p (by omega)]
          exact z3
        · omega
    · have o0 : o = 0 := by
        have hs : st = 5 ∨ st = 7 := by
          by_cases w0 : st = 0
          · exact absurd (q7 w0).2 k0
          · by_cases w1 : st = 1
            · exact absurd (q8 w1).2.1 k0
            · by_cases w2 : st = 2
              · exact absurd (q9 w2).2.1 k0
              · by_cases w6 : st = 6
                · exact absurd (q13 w6).2.1 k0
                · omega
        rcases hs with e | e
        · exact (q12 e).1
        · rcases q14 e with w | w
          · exact w.1
          · exact absurd w.2.1 k0
      have e13 : g.1 13 p = 0 := by rw [z3]; exact (i32_z t13).mpr o0
      by_cases ho : st = 5 ∨ st = 6
      · exact bsh ho e13 z4
      · exact nob ho (fun z => h34' (Or.inl z)) (fun z => h34' (Or.inr z)) e13 z4
end JxDrop2
