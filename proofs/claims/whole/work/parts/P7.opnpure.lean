/-! WHAT A MESSAGE LEAVES: a PEER that opens, a connection that comes -/
section JxOpnpure
variable {n a p c e h s : Nat} {f g F : jx_F} {cv : Int32}
theorem st_v (hS : PS f n a) (hp : p < n) : ∃ st : Nat, f.1 11 p = Int32.ofNat st ∧ st ≤ 7 ∧ (R_open (f.1 11 p) ↔ (st = 5 ∨ st = 6)) := by
  obtain ⟨st, o, kk, u, ⟨t11, t11'⟩, -⟩ := hS.2.2.1 p hp
  refine ⟨st, i32_eq t11 (by omega), t11', ?_⟩
  unfold R_open
  rw [i32_eq (x := f.1 11 p) (n := st) t11 (by omega)]
  exact or_congr ⟨fun e => ofN_inj (y := 5) (by omega) (by omega) e, fun e => by rw [e]; rfl⟩ ⟨fun e => ofN_inj (y := 6) (by omega) (by omega) e, fun e => by rw [e]; rfl⟩
theorem op6 : R_open (6 : Int32) := Or.inr rfl
theorem op5 : R_open (5 : Int32) := Or.inl rfl
theorem no2 : ¬ R_open (2 : Int32) := fun z => by rcases z with z | z <;> exact absurd z (by decide)
theorem no3 : ¬ R_open (3 : Int32) := fun z => by rcases z with z | z <;> exact absurd z (by decide)
theorem no4 : ¬ R_open (4 : Int32) := fun z => by rcases z with z | z <;> exact absurd z (by decide)
/-- own is open: the PEER opens by it -/
theorem SM.bo (hS : PS f n a) (hp : p < n) (h11 : f.1 11 p = 2) (h34 : (f.1 34 0).toInt = (h : Int)) (hh : h < 2147482000) : SM n a 1 f (R_bopen (R_enter f p 6) p) := by
  have hn4 := hS.1.2.2.1
  obtain ⟨F, hF⟩ : ∃ F, F = R_bopen (R_enter f p 6) p := ⟨_, rfl⟩
  rw [← hF]
  have oF : ∀ q j, q ∉ [2, 31, 32, 34, 65, 66] → ¬ ((q = 11 ∨ q = 12 ∨ q = 15 ∨ q = 16 ∨ q = 17 ∨ q = 19 ∨ q = 21) ∧ j = p) → F.1 q j = f.1 q j := fun q j z1 z2 => by rw [hF, R_bopen_o z1 (by omega), enter_o (by omega)]
  have v11 : F.1 11 p = 6 := by rw [hF, R_bopen_o (by decide) (by omega), enter_v]
  obtain ⟨v15, v16, v34⟩ := R_bopen_v (f := R_enter f p 6) (p := p)
  rw [← hF, enter_o (q := 34) (by omega)] at v34
  rw [← hF, enter_o (q := 16) (by omega)] at v16
  rw [← hF] at v15
  have lF : F.2 = f.2 := by rw [hF, R_bopen_l]; rfl
  have w34 : (f.1 34 0).toInt ≤ (F.1 34 0).toInt ∧ (F.1 34 0).toInt ≤ (f.1 34 0).toInt + 1 := by
    rcases v34 with z | z
    · rw [z]; omega
    · rw [z, i32_add (c := 1) h34 (by decide) (by omega) (by omega)]; omega
  have hno : ¬ R_open (f.1 11 p) := by rw [h11]; exact no2
  obtain ⟨st, o, kk, u, ⟨t11, t11'⟩, t13, t14, ⟨t15, t15'⟩, q5, q6, q7, q8, q9, q10, q11, q12, q13, q14, q15, q16, q17⟩ := hS.2.2.1 p hp
  have est : st = 2 := by
    rw [h11, show (2 : Int32).toInt = 2 by decide] at t11
    omega
  obtain ⟨o1, o2, o3⟩ := q9 est
  have o' : ∀ q j, q = 26 ∨ q = 27 ∨ q = 28 ∨ q = 29 ∨ q = 30 → F.1 q j = f.1 q j := fun q j hq => oF q j (by rcases hq with rfl | rfl | rfl | rfl | rfl <;> decide) (by omega)
  have h16 : F.1 16 p = 0 ∨ F.1 16 p = 1 := by
    rcases v16 with z | z
    · rw [z]; exact q16
    · exact Or.inr z
  have gok : R_gok F n a := by rw [hF]; exact R_bopen_gok hS.1.enter (by omega)
  refine ⟨hS.nopen (g := F) (c0 := 0) hp hno gok (fun v hv hne q hq => oF q v (by simp only [List.mem_cons, List.not_mem_nil, or_false] at hq ⊢; omega) (by omega)) (fun q j hq => oF q j (by rcases hq with rfl | rfl | rfl <;> decide) (by omega)) (fun j => by rw [lF]) (fun c' _ _ _ _ q hq => o' q c' (by omega)) (Or.inl rfl) (fun c' c1 c2 _ => (hS.2.1 c' c1 c2).of (fun q hq => o' q c' (by omega)) (fun j _ _ => ⟨fun _ => oF 13 j (by decide) (by omega), fun _ => oF 14 j (by decide) (by omega)⟩)) ?_ (fun q hq => ?_) (fun c' c1 c2 => (hS.2.2.2.2.2.1 c' c1 c2).of (o' 30 c' (by omega)) (fun j => o' 29 j (by omega))) w34.1, ⟨fun q j h1 h2 h3 => ?_, fun v j h1 h2 => oF v j (by simp only [List.mem_cons, List.not_mem_nil, or_false]; omega) (by omega), fun v j _ => by rw [lF]⟩, w34.1, w34.2⟩
  · have k15 : ∃ u : Nat, (F.1 15 p).toInt = (u : Int) ∧ u ≤ 4 ∧ (u = 1 ∨ u = 2 ∨ u = 4) := by
      rcases v15 with z | ⟨z, -⟩
      · exact ⟨1, by rw [z]; decide, by omega, Or.inl rfl⟩
      · exact ⟨4, by rw [z]; decide, by omega, Or.inr (Or.inr rfl)⟩
    obtain ⟨u', u1, u2, u3⟩ := k15
    refine ⟨6, o, kk, u', ⟨by rw [v11]; decide, by omega⟩, ⟨by rw [oF 13 p (by decide) (by omega)]; exact t13.1, t13.2⟩, ⟨by rw [oF 14 p (by decide) (by omega)]; exact t14.1, t14.2⟩, ⟨u1, u2⟩, fun z => by rw [o' 27 o (by omega), o' 28 o (by omega)]; exact q5 z, fun z => by omega, fun z => by omega, fun z => by omega, fun z => by omega, fun z => by omega, fun z => by omega, fun z => by omega, fun _ => ⟨o1, o2, by rw [o' 26 o (by omega)]; exact o3⟩, fun z => by omega, ⟨fun _ => Or.inr rfl, fun _ => u3⟩, h16, by rw [oF 10 p (by decide) (by omega)]; exact q17⟩
  · have hJ := hS.2.2.2.2.1 q hq
    by_cases e : q = p
    · rw [e] at hJ ⊢
      refine ⟨by rw [oF 22 p (by decide) (by omega)]; exact hJ.1, fun z => ?_⟩
      rcases v15 with y | ⟨-, y⟩
      · rw [y] at z; exact absurd z (by decide)
      · exact ⟨0, by rw [y]; decide, by omega⟩
    · exact hJ.of (oF _ _ (by decide) (by omega)) (oF _ _ (by decide) (by omega)) (oF _ _ (by decide) (by omega))
  · refine oF q j (fun z => ?_) (fun z => h3 (by omega) (by omega))
    simp only [List.mem_cons, List.not_mem_nil, or_false] at z
    rcases z with rfl | rfl | rfl | rfl | rfl | rfl <;> exact absurd h1 (by decide)
theorem SM.opn (hS : PS f n a) (hp : p < n) (c1 : 1 ≤ c) (c2 : c ≤ 8) (h27 : f.1 27 c = Int32.ofNat (p + 1)) (h28 : f.1 28 c = 1) (h26 : f.1 26 c = 2) (hno : ¬ R_open (f.1 11 p)) (hn7 : ¬ f.1 11 p = 7) (h34 : (f.1 34 0).toInt = (h : Int)) (hh : h < 2147481000) : SM n a 65 f (R_opn f n a c p) := by
  have hn4 := hS.1.2.2.1
  unfold R_opn
  by_cases hg : R_good f p
  · rw [if_pos hg]
    obtain ⟨st, o, kk, u, ⟨t11, t11'⟩, ⟨t13, t13'⟩, ⟨t14, t14'⟩, t15, q5, q6, q7, q8, q9, q10, q11, q12, q13, q14, q15, q16, q17⟩ := hS.2.2.1 p hp
    have f11 : f.1 11 p = Int32.ofNat st := i32_eq t11 (by omega)
    have ho : o = c := by
      rcases hS.cof hp c1 c2 h27 with z | z
      · have := z.2
        rw [this, i32_ofNat (by omega)] at t13
        omega
      · rw [h28] at z; exact absurd z.1 (by decide)
    have n5 : st ≠ 5 ∧ st ≠ 6 := by
      refine ⟨fun z => hno (Or.inl ?_), fun z => hno (Or.inr ?_)⟩
      · rw [f11, z]; rfl
      · rw [f11, z]; rfl
    have n7 : st ≠ 7 := fun z => hn7 (by rw [f11, z]; rfl)
    have st24 : st = 2 ∨ st = 4 := by
      rcases (show st = 0 ∨ st = 1 ∨ st = 2 ∨ st = 3 ∨ st = 4 by omega) with z | z | z | z | z
      · have := (q7 z).1; omega
      · have := (q8 z).2.2; rw [ho, h26] at this; exact absurd this (by decide)
      · exact Or.inl z
      · have := (q10 z).2.2; rw [ho, h26] at this; exact absurd this (by decide)
      · exact Or.inr z
    rcases st24 with z | z
    · have e2 : f.1 11 p = 2 := by rw [f11, z]; rfl
      rw [if_neg (by rw [e2]; decide), R_become_ny op6 hno]
      exact (SM.bo hS hp e2 h34 (by omega)).le (by omega)
    · have e4 : f.1 11 p = 4 := by rw [f11, z]; rfl
      obtain ⟨k1, k2, k3⟩ := q11 z
      obtain ⟨kc, kr⟩ := q6 k2
      rw [if_pos e4, i32_nat t14]
      obtain ⟨g, hg'⟩ : ∃ g, g = R_shut f kk := ⟨_, rfl⟩
      have gs : R_shut f kk = rf_ui (R_shut0 f kk) 14 p 0 := R_shut_came (by omega) kc kr
      have g11 : g.1 11 p = 4 := by rw [hg', gs, rf_ui_ne (by omega), R_shut0_o (by omega)]; exact e4
      have g1 : g.1 1 0 = f.1 1 0 := by rw [hg', gs, rf_ui_ne (by omega), R_shut0_o (by omega)]
      obtain ⟨i1, i2⟩ := i32_p1 (p := p) (by omega) kc
      have eD : R_drop f n a kk = R_enter g p 2 := by
        unfold R_drop R_drop1
        rw [if_neg i1, i2, ← hg', g11, if_neg (by decide), if_pos rfl, kr, if_neg (by decide), R_become_nn no2 (by rw [g11]; exact no4)]
      have S1 := SM.drop (c := kk) hS (by omega) t14' h34 (by omega)
      have w1 := S1.2.2.1
      have w2 := S1.2.2.2
      obtain ⟨h1, hh1⟩ : ∃ h1 : Nat, ((R_drop f n a kk).1 34 0).toInt = (h1 : Int) := ⟨((R_drop f n a kk).1 34 0).toInt.toNat, by omega⟩
      have e11 : (R_drop f n a kk).1 11 p = 2 := by rw [eD, enter_v]
      have S2 := SM.bo S1.1 hp e11 hh1 (by omega)
      have eE : R_enter (R_drop f n a kk) p 6 = R_enter g p 6 := by
        rw [eD]
        unfold R_enter
        rw [show (rf_ui (rf_ui g 11 p 2) 12 p (g.1 1 0 + 10)).1 1 0 = g.1 1 0 by rw [rf_ui_ne (by omega), rf_ui_ne (by omega)], rf_ui_comm (k := 12) (a := 11) (by omega), rf_ui_same, rf_ui_same]
      rw [← hg', R_become_ny op6 (by rw [g11]; exact no4), ← eE]
      exact (S1.tr S2).le (by omega)
  · rw [if_neg hg]
    have S0 := SM.u2 (x := f.1 2 0 + 1) hS
    have S1 := SM.drop (c := c) S0.1 c1 c2 (h := h) (by rw [rf_ui_ne (by omega)]; exact h34) (by omega)
    exact (S0.tr S1).le (by omega)
end JxOpnpure
