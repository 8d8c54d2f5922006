/-! THE PAIR connected, together -/
section JxConn2
variable {th : Nat → Nat} {B b m d k n a p c : Nat} {xl : List Int32} {σ σ0 : jx_S} {f g f' : jx_F} {A : Nat → Nat → Nat} {G G' : Nat → Nat → Int32} {T : Nat → Nat} {s : Int32}
/-- a connection that was asked for: whose it is -/
theorem PS.asked (hS : PS f n a) (hc : c < 8) (h26 : f.1 26 (c + 1) = 1) : ∃ p, p < n ∧ f.1 27 (c + 1) = Int32.ofNat (p + 1) ∧ f.1 28 (c + 1) = 1 ∧ f.1 30 (c + 1) = 0 ∧ f.1 13 p = Int32.ofNat (c + 1) ∧ ((f.1 11 p = 1 ∧ f.1 14 p = 0) ∨ (f.1 11 p = 3 ∧ ∃ cc, cc < 8 ∧ c ≠ cc ∧ (f.1 14 p).toInt = ((cc + 1 : Nat) : Int) ∧ f.1 26 (cc + 1) = 2 ∧ f.1 27 (cc + 1) = Int32.ofNat (p + 1) ∧ f.1 28 (cc + 1) = 2)) := by
  have hn4 := hS.1.2.2.1
  obtain ⟨x, q, r, ⟨t1, t1'⟩, ⟨t2, t2'⟩, ⟨t3, t3'⟩, t4, t5, t6, t7, t8⟩ := hS.2.1 (c + 1) (by omega) (by omega)
  have x1 : x = 1 := by
    rw [h26] at t1
    have : (1 : Int32).toInt = 1 := by decide
    omega
  obtain ⟨r1, h30⟩ := t6 x1
  have hq0 : q ≠ 0 := fun z => by have := t5.mp z; omega
  have h27 : f.1 27 (c + 1) = Int32.ofNat (q - 1 + 1) := i32_eq (x := f.1 27 (c + 1)) (n := q - 1 + 1) (by rw [t2]; omega) (by omega)
  have h28 : f.1 28 (c + 1) = 1 := Int32.toInt_inj.mp (by rw [t3, r1]; decide)
  have h13 := t7 r1
  refine ⟨q - 1, by omega, h27, h28, h30, h13, ?_⟩
  obtain ⟨st, o, kk, u, ⟨y1, y1'⟩, ⟨y2, y2'⟩, ⟨y3, y3'⟩, y4, q5, q6, q7, q8, q9, q10, q11, q12, q13, q14, q15, q16, q17⟩ := hS.2.2.1 (q - 1) (by omega)
  have eo : o = c + 1 := by
    rw [h13, i32_ofNat (by omega)] at y2
    omega
  have n2 : ¬ f.1 26 o = 2 := by rw [eo, h26]; decide
  have hst : st = 1 ∨ st = 3 := by
    by_cases e0 : st = 0
    · have := (q7 e0).1; omega
    · by_cases e2 : st = 2
      · exact absurd (q9 e2).2.2 n2
      · by_cases e4 : st = 4
        · exact absurd (q11 e4).2.2 n2
        · by_cases e5 : st = 5
          · have := (q12 e5).1; omega
          · by_cases e6 : st = 6
            · exact absurd (q13 e6).2.2 n2
            · by_cases e7 : st = 7
              · rcases q14 e7 with z | z
                · omega
                · exact absurd z.2.2 n2
              · omega
  rcases hst with e | e
  · exact Or.inl ⟨Int32.toInt_inj.mp (by rw [y1, e]; decide), (i32_z y3).mpr (q8 e).2.1⟩
  · have k0 := (q10 e).2.1
    obtain ⟨z1, z2⟩ := q6 k0
    have c26 : f.1 26 kk = 2 := by
      rcases hS.cof (p := q - 1) (by omega) (by omega) y3' z1 with w | w
      · rw [w.1] at z2; exact absurd z2 (by decide)
      · exact w.2.2
    refine Or.inr ⟨Int32.toInt_inj.mp (by rw [y1, e]; decide), kk - 1, by omega, fun z => ?_, by rw [y3]; omega, ?_, ?_, ?_⟩
    · rw [show kk = c + 1 by omega, h28] at z2
      exact absurd z2 (by decide)
    · rw [show kk - 1 + 1 = kk by omega]; exact c26
    · rw [show kk - 1 + 1 = kk by omega]; exact z1
    · rw [show kk - 1 + 1 = kk by omega]; exact z2
theorem R_own2_o {q j : Nat} (h : q ∉ [2, 31, 32, 34, 65, 66]) (h20 : ¬ (q = 20 ∧ j = p)) (h26 : ¬ (q = 26 ∧ j = c)) : (R_sendOpening (rf_ui f 26 c 2) p).1 q j = f.1 q j := by
  rw [R_sendOpening_o h h20]
  exact rf_ui_ne h26
/-- the state before the CHOICE -/
theorem PS.own1 {y : Nat} {x : Nat} (hS : PS f n a) (hc : c < 8) (hp : p < n) (h27 : f.1 27 (c + 1) = Int32.ofNat (p + 1)) (h28 : f.1 28 (c + 1) = 1) (h13 : f.1 13 p = Int32.ofNat (c + 1)) (hx : (f.1 34 0).toInt = (x : Int)) (hx2 : x < 2147482000) (hs : s.toInt = (y : Int)) (hy : (f.1 11 p = 1 ∧ f.1 14 p = 0 ∧ y = 2) ∨ (f.1 11 p = 3 ∧ ¬ f.1 14 p = 0 ∧ y = 4)) : PS (R_enter (R_sendOpening (rf_ui f 26 (c + 1) 2) p) p s) n a := by
  have hn4 := hS.1.2.2.1
  obtain ⟨f2, hf2⟩ : ∃ f2, f2 = R_sendOpening (rf_ui f 26 (c + 1) 2) p := ⟨_, rfl⟩
  rw [← hf2]
  have of2 : ∀ q j, q ∉ [2, 31, 32, 34, 65, 66] → ¬ (q = 20 ∧ j = p) → ¬ (q = 26 ∧ j = c + 1) → f2.1 q j = f.1 q j := fun q j h1 h2 h3 => by rw [hf2]; exact R_own2_o h1 h2 h3
  have l2 : f2.2 = f.2 := by rw [hf2, R_sendOpening_l]; rfl
  have e26 : f2.1 26 (c + 1) = 2 := by rw [hf2, R_sendOpening_o (by decide) (by omega), rf_ui_eq]
  have e34 : f2.1 34 0 = f.1 34 0 + 1 := by rw [hf2, R_sendOpening_v, rf_ui_ne (by omega)]
  have x34 : (f2.1 34 0).toInt = ((x + 1 : Nat) : Int) := by rw [e34, i32_add (c := 1) hx (by decide) (by omega) (by omega)]; omega
  have g2 : R_gok f2 n a := by rw [hf2]; exact R_sendOpening_gok (hS.1.u (by decide)) (by omega)
  have oF : ∀ q j, q ∉ [2, 31, 32, 34, 65, 66] → ¬ (q = 20 ∧ j = p) → ¬ (q = 26 ∧ j = c + 1) → ¬ ((q = 11 ∨ q = 12) ∧ j = p) → (R_enter f2 p s).1 q j = f.1 q j := fun q j h1 h2 h3 h4 => by rw [enter_o h4, of2 q j h1 h2 h3]
  have F26 : (R_enter f2 p s).1 26 (c + 1) = 2 := by rw [enter_o (by omega)]; exact e26
  obtain ⟨st, o, kk, u, ⟨y1, y1'⟩, ⟨y2, y2'⟩, ⟨y3, y3'⟩, ⟨y4, y4'⟩, q5, q6, q7, q8, q9, q10, q11, q12, q13, q14, q15, q16, q17⟩ := hS.2.2.1 p hp
  have eo : o = c + 1 := by
    rw [h13, i32_ofNat (by omega)] at y2
    omega
  have hst : (st = 1 ∧ kk = 0 ∧ y = 2) ∨ (st = 3 ∧ kk ≠ 0 ∧ y = 4) := by
    rcases hy with ⟨w1, w2, w3⟩ | ⟨w1, w2, w3⟩
    · refine Or.inl ⟨?_, (i32_z y3).mp w2, w3⟩
      rw [w1] at y1
      have : (1 : Int32).toInt = 1 := by decide
      omega
    · refine Or.inr ⟨?_, fun z => w2 ((i32_z y3).mpr z), w3⟩
      rw [w1] at y1
      have : (3 : Int32).toInt = 3 := by decide
      omega
  refine hS.nopen (c0 := 0) hp (fun z => ?_) g2.enter (fun w hw hne q hq => oF q w (by simp only [List.mem_cons, List.not_mem_nil, or_false] at hq ⊢; omega) (by omega) (by simp only [List.mem_cons, List.not_mem_nil, or_false] at hq; omega) (by omega)) (fun q j hq => oF q j (by simp only [List.mem_cons, List.not_mem_nil, or_false]; omega) (by omega) (by omega) (by omega)) (fun j => by show f2.2 53 j = _; rw [l2]) (fun c' h1 h2 h3 _ q hq => oF q c' (by simp only [List.mem_cons, List.not_mem_nil, or_false]; omega) (by omega) (fun z => h3 (by rw [z.2]; exact h27)) (by omega)) (Or.inl rfl) (fun c' h1 h2 h3 => ?_) ?_ (fun w hw => (hS.2.2.2.2.1 w hw).of (oF 22 w (by decide) (by omega) (by omega) (by omega)) (oF 15 w (by decide) (by omega) (by omega) (by omega)) (oF 19 w (by decide) (by omega) (by omega) (by omega))) (fun c' h1 h2 => (hS.2.2.2.2.2.1 c' h1 h2).of (oF 30 c' (by decide) (by omega) (by omega) (by omega)) (fun j => oF 29 j (by decide) (by omega) (by omega) (by omega))) (by rw [enter_o (by omega), x34]; omega)
  · rcases hst with w | w
    · have e : f.1 11 p = 1 := Int32.toInt_inj.mp (by rw [y1, w.1]; decide)
      rw [e] at z
      rcases z with z | z <;> exact absurd z (by decide)
    · have e : f.1 11 p = 3 := Int32.toInt_inj.mp (by rw [y1, w.1]; decide)
      rw [e] at z
      rcases z with z | z <;> exact absurd z (by decide)
  · rcases h3 with h3 | h3
    · by_cases e : c' = c + 1
      · subst e
        refine ⟨2, p + 1, 1, ⟨by rw [F26]; decide, by omega⟩, ⟨by rw [oF 27 _ (by decide) (by omega) (by omega) (by omega), h27, i32_ofNat (by omega)], by omega⟩, ⟨by rw [oF 28 _ (by decide) (by omega) (by omega) (by omega), h28]; decide, by omega⟩, fun z => by omega, ⟨fun z => by omega, fun z => by omega⟩, fun z => by omega, fun _ => ?_, fun z => by omega⟩
        rw [show p + 1 - 1 = p by omega, oF 13 p (by decide) (by omega) (by omega) (by omega)]
        exact h13
      · exact (hS.2.1 c' h1 h2).of (fun q hq => oF q c' (by simp only [List.mem_cons, List.not_mem_nil, or_false]; omega) (by omega) (by omega) (by omega)) (fun j _ _ => ⟨fun _ => oF 13 j (by decide) (by omega) (by omega) (by omega), fun _ => oF 14 j (by decide) (by omega) (by omega) (by omega)⟩)
    · omega
  · refine ⟨y, o, kk, u, ⟨by rw [enter_v]; exact hs, by omega⟩, ⟨by rw [oF 13 p (by decide) (by omega) (by omega) (by omega)]; exact y2, y2'⟩, ⟨by rw [oF 14 p (by decide) (by omega) (by omega) (by omega)]; exact y3, y3'⟩, ⟨by rw [oF 15 p (by decide) (by omega) (by omega) (by omega)]; exact y4, y4'⟩, fun z => by rw [oF 27 o (by decide) (by omega) (by omega) (by omega), oF 28 o (by decide) (by omega) (by omega) (by omega)]; exact q5 z, fun z => by rw [oF 27 kk (by decide) (by omega) (by omega) (by omega), oF 28 kk (by decide) (by omega) (by omega) (by omega)]; exact q6 z, fun z => by omega, fun z => by omega, fun z => ⟨by omega, by omega, by rw [eo]; exact F26⟩, fun z => by omega, fun z => ⟨by omega, by omega, by rw [eo]; exact F26⟩, fun z => by omega, fun z => by omega, fun z => by omega, ⟨fun z => by have := q15.mp z; omega, fun z => by omega⟩, by rw [oF 16 p (by decide) (by omega) (by omega) (by omega)]; exact q16, by rw [oF 10 p (by decide) (by omega) (by omega) (by omega)]; exact q17⟩
end JxConn2
