/-! WHAT A RINGING TIMER KEEPS -/
/-- what a call that changes the states of PEERS leaves as it is -/
def FR (n a : Nat) (f F : jx_F) : Prop := (∀ q j, R_askK q = false → ¬ (26 ≤ q ∧ q ≤ 33) → (j < n → ¬ (11 ≤ q ∧ q ≤ 25)) → F.1 q j = f.1 q j) ∧ (∀ u j, 54 ≤ u ∧ u ≤ 58 → a ≤ j → F.1 u j = f.1 u j) ∧ ∀ u j, ¬ (u = 53 ∧ j < a) → F.2 u j = f.2 u j
section JxPures4
variable {f f' F g : jx_F} {n a p c i k : Nat} {s : Int32}
theorem FR.rf : FR n a f f := ⟨fun _ _ _ _ _ => rfl, fun _ _ _ _ => rfl, fun _ _ _ => rfl⟩
theorem FR.tr (h : FR n a f g) (h' : FR n a g F) : FR n a f F := ⟨fun q j h1 h2 h3 => (h'.1 q j h1 h2 h3).trans (h.1 q j h1 h2 h3), fun u j h1 h2 => (h'.2.1 u j h1 h2).trans (h.2.1 u j h1 h2), fun u j h1 => (h'.2.2 u j h1).trans (h.2.2 u j h1)⟩
theorem FR.drop (hS : PS f n a) (c1 : 1 ≤ c) (c2 : c ≤ 8) : FR n a f (R_drop f n a c) := ⟨fun q j h1 h2 h3 => R_drop_o hS c1 c2 h1 (by omega) h3, fun u j h1 h2 => R_drop_i h1 h2, fun u j h1 => R_drop_l h1⟩
/-- fields of one PEER and nothing that hangs on asks change -/
theorem FR.pe (hp : p < n) (ho : ∀ q j, ¬ ((11 ≤ q ∧ q ≤ 25) ∧ j = p) → q ∉ [2, 26, 27, 28, 29, 30, 31, 32, 33, 34, 65, 66] → F.1 q j = f.1 q j) (hl : F.2 = f.2) : FR n a f F := by
  refine ⟨fun q j h1 h2 h3 => ho q j (fun z => ?_) (fun z => ?_), fun u j h1 h2 => ho u j (by omega) ?_, fun u j _ => by rw [hl]⟩
  · have := h3 (by omega)
    omega
  · simp only [List.mem_cons, List.not_mem_nil, or_false] at z
    rcases z with rfl | z | z | z | z | z | z | z | z | rfl | rfl | rfl
    · exact absurd h1 (by decide)
    all_goals first | omega | exact absurd h1 (by decide)
  · simp only [List.mem_cons, List.not_mem_nil, or_false]
    omega
theorem PI_p1.re {u : Nat} (h : PI_p1 f p) (h1 : ∀ q, q ∈ [10, 11, 13, 14] → F.1 q p = f.1 q p) (h2 : ∀ c q, q = 26 ∨ q = 27 ∨ q = 28 → F.1 q c = f.1 q c) (h15 : (F.1 15 p).toInt = (u : Int)) (hu : u ≤ 4) (hu2 : (u = 1 ∨ u = 2 ∨ u = 4) ↔ R_open (f.1 11 p)) (h16 : F.1 16 p = 0 ∨ F.1 16 p = 1) : PI_p1 F p := by
  obtain ⟨st, o, kk, u', ⟨t11, t11'⟩, ⟨t13, t13'⟩, ⟨t14, t14'⟩, -, q5, q6, q7, q8, q9, q10, q11, q12, q13, q14, -, -, q17⟩ := h
  have hop : R_open (f.1 11 p) ↔ (st = 5 ∨ st = 6) := by
    unfold R_open
    rw [i32_eq (x := f.1 11 p) (n := st) t11 (by omega)]
    exact or_congr ⟨fun e => ofN_inj (y := 5) (by omega) (by omega) e, fun e => by rw [e]; rfl⟩ ⟨fun e => ofN_inj (y := 6) (by omega) (by omega) e, fun e => by rw [e]; rfl⟩
  refine ⟨st, o, kk, u, ⟨by rw [h1 11 (by decide)]; exact t11, t11'⟩, ⟨by rw [h1 13 (by decide)]; exact t13, t13'⟩, ⟨by rw [h1 14 (by decide)]; exact t14, t14'⟩, ⟨h15, hu⟩, fun z => ?_, fun z => ?_, q7, fun z => ?_, fun z => ?_, fun z => ?_, fun z => ?_, q12, fun z => ?_, fun z => ?_, hu2.trans hop, h16, by rw [h1 10 (by decide)]; exact q17⟩
  · rw [h2 o 27 (by omega), h2 o 28 (by omega)]; exact q5 z
  · rw [h2 kk 27 (by omega), h2 kk 28 (by omega)]; exact q6 z
  · rw [h2 o 26 (by omega)]; exact q8 z
  · rw [h2 o 26 (by omega)]; exact q9 z
  · rw [h2 o 26 (by omega)]; exact q10 z
  · rw [h2 o 26 (by omega)]; exact q11 z
  · rw [h2 o 26 (by omega)]; exact q13 z
  · rw [h2 o 26 (by omega)]; exact q14 z
/-- the status of one PEER changes -/
theorem PS.one (hS : PS f n a) (hgo : R_gok F n a) (hP : ∀ u, u ≠ p → ∀ q, q ∈ [10, 11, 13, 14, 15, 16] → F.1 q u = f.1 q u) (hk : ∀ q j, q ∈ [26, 27, 28, 29, 30, 54, 55, 58] → F.1 q j = f.1 q j) (h3 : F.1 11 p = f.1 11 p ∧ F.1 13 p = f.1 13 p ∧ F.1 14 p = f.1 14 p) (hl : ∀ j, F.2 53 j = f.2 53 j) (hPp : p < n → PI_p1 F p) (hJp : ∀ q, q < 4 → PJ_p F q) (h34 : (f.1 34 0).toInt ≤ (F.1 34 0).toInt) : PS F n a := by
  have e : ∀ u q, q = 11 ∨ q = 13 ∨ q = 14 → F.1 q u = f.1 q u := fun u q hq => by
    by_cases z : u = p
    · rw [z]
      rcases hq with rfl | rfl | rfl
      · exact h3.1
      · exact h3.2.1
      · exact h3.2.2
    · rcases hq with rfl | rfl | rfl
      · exact hP u z 11 (by decide)
      · exact hP u z 13 (by decide)
      · exact hP u z 14 (by decide)
  refine ⟨hgo, fun c c1 c2 => (hS.2.1 c c1 c2).of (fun q hq => hk q c (by rcases hq with rfl | rfl | rfl | rfl <;> decide)) (fun j _ _ => ⟨fun _ => e j 13 (by omega), fun _ => e j 14 (by omega)⟩), fun q hq => ?_, fun i hi => (hS.2.2.2.1 i hi).of ⟨hk 54 i (by decide), hk 55 i (by decide), hk 58 i (by decide), hl i⟩ (fun u _ _ _ => ⟨e u 11 (by omega), e u 13 (by omega), e u 14 (by omega)⟩), hJp, fun c c1 c2 => (hS.2.2.2.2.2.1 c c1 c2).of (hk 30 c (by decide)) (fun j => hk 29 j (by decide)), fun i hi => ?_⟩
  · by_cases z : q = p
    · rw [z]; exact hPp (by omega)
    · exact (hS.2.2.1 q hq).of (fun k hk' => hP q z k hk') (fun c _ _ _ k hk' => hk k c (by rcases hk' with rfl | rfl | rfl <;> decide))
  · rw [hk 55 i (by decide)]
    have := hS.2.2.2.2.2.2 i hi
    omega
theorem PS.p1 (hS : PS f n a) (hp : p < n) : ∃ u : Nat, (f.1 15 p).toInt = (u : Int) ∧ u ≤ 4 ∧ ((u = 1 ∨ u = 2 ∨ u = 4) ↔ R_open (f.1 11 p)) ∧ (f.1 16 p = 0 ∨ f.1 16 p = 1) ∧ (f.1 10 p = 0 ∨ f.1 10 p = 1) := by
  obtain ⟨st, o, kk, u, ⟨t11, t11'⟩, -, -, ⟨t15, t15'⟩, -, -, -, -, -, -, -, -, -, -, q15, q16, q17⟩ := hS.2.2.1 p hp
  refine ⟨u, t15, t15', q15.trans ?_, q16, q17⟩
  unfold R_open
  rw [i32_eq (x := f.1 11 p) (n := st) t11 (by omega)]
  exact or_congr ⟨fun e => by rw [e]; rfl, fun e => ofN_inj (y := 5) (by omega) (by omega) e⟩ ⟨fun e => by rw [e]; rfl, fun e => ofN_inj (y := 6) (by omega) (by omega) e⟩
theorem PS.watch (hS : PS f n a) (hp : p < n) {h : Nat} (h34 : (f.1 34 0).toInt = (h : Int)) (hh : h < 2147483000) : PS (R_sendWatch f p) n a ∧ ((R_sendWatch f p).1 34 0).toInt = ((h + 1 : Nat) : Int) ∧ FR n a f (R_sendWatch f p) := by
  have hn4 := hS.1.2.2.1
  have o := fun q j => R_sendWatch_o (f := f) (p := p) (q := q) (j := j)
  obtain ⟨v34, v16⟩ := R_sendWatch_v (f := f) (p := p)
  have x34 : ((R_sendWatch f p).1 34 0).toInt = ((h + 1 : Nat) : Int) := by rw [v34, i32_add (c := 1) h34 (by decide) (by omega) (by omega)]; omega
  obtain ⟨u, u1, u2, u3, -, -⟩ := hS.p1 hp
  refine ⟨hS.one (p := p) (hS.1.of (R_sendWatch_ok hS.1 (by omega)) (fun q j hq => o q j ?_ ?_)) (fun w hw q hq => o q w ?_ ?_) (fun q j hq => o q j ?_ ?_) ⟨o 11 p (by decide) (by omega), o 13 p (by decide) (by omega), o 14 p (by decide) (by omega)⟩ (fun j => by rw [R_sendWatch_l]) (fun _ => (hS.2.2.1 p hp).re (fun q hq => o q p ?_ ?_) (fun c q hq => o q c ?_ ?_) (by rw [o 15 p (by decide) (by omega)]; exact u1) u2 u3 (Or.inr v16)) (fun q hq => (hS.2.2.2.2.1 q hq).of (o 22 q (by decide) (by omega)) (o 15 q (by decide) (by omega)) (o 19 q (by decide) (by omega))) (by rw [x34]; omega), x34, FR.pe hp (fun q j z1 z2 => o q j (fun z => z2 ?_) (by omega)) R_sendWatch_l⟩
  all_goals first | (simp only [List.mem_cons, List.not_mem_nil, or_false] at *; omega)
theorem PS.silent (hS : PS f n a) (hp : p < n) (h15 : f.1 15 p = 1) {h : Nat} (h34 : (f.1 34 0).toInt = (h : Int)) (hh : h < 2147483000) : PS (R_gv (rf_ui (rf_ui f 15 p 2) 17 p (f.1 1 0 + 30)) n a p) n a ∧ (f.1 34 0).toInt ≤ ((R_gv (rf_ui (rf_ui f 15 p 2) 17 p (f.1 1 0 + 30)) n a p).1 34 0).toInt ∧ ((R_gv (rf_ui (rf_ui f 15 p 2) 17 p (f.1 1 0 + 30)) n a p).1 34 0).toInt ≤ (f.1 34 0).toInt + 64 ∧ FR n a f (R_gv (rf_ui (rf_ui f 15 p 2) 17 p (f.1 1 0 + 30)) n a p) := by
  have hn4 := hS.1.2.2.1
  obtain ⟨g, hg⟩ : ∃ g, g = rf_ui (rf_ui f 15 p 2) 17 p (f.1 1 0 + 30) := ⟨_, rfl⟩
  rw [← hg]
  have o : ∀ q j, ¬ ((q = 15 ∨ q = 17) ∧ j = p) → g.1 q j = f.1 q j := fun q j z => by rw [hg, rf_ui_ne (by omega), rf_ui_ne (by omega)]
  have g15 : g.1 15 p = 2 := by rw [hg, rf_ui_ne (by omega), rf_ui_eq]
  have gl : g.2 = f.2 := by rw [hg]; rfl
  have hgo : R_gok g n a := by rw [hg]; exact (hS.1.u (by decide)).u (by decide)
  obtain ⟨r1, r2, r3, r4⟩ := hS.give (g := g) hp ⟨h, h34, hh⟩ hgo (fun u _ _ => ⟨o 11 u (by omega), o 13 u (by omega), o 14 u (by omega)⟩) (fun q j hq => o q j (by omega)) (fun j => by rw [gl]) (fun _ => ⟨o 11 p (by omega), o 13 p (by omega), o 14 p (by omega)⟩)
  obtain ⟨F, hF⟩ : ∃ F, F = R_gv g n a p := ⟨_, rfl⟩
  rw [← hF] at r1 r2 r3 r4 ⊢
  have oF : ∀ q j, R_askK q = false → ¬ (q = 18 ∧ j = p) → F.1 q j = g.1 q j := fun q j z1 z2 => by rw [hF]; exact R_gv_o z1 z2
  have oo : ∀ q j, R_askK q = false → ¬ ((q = 15 ∨ q = 17 ∨ q = 18) ∧ j = p) → F.1 q j = f.1 q j := fun q j z1 z2 => by rw [oF q j z1 (by omega), o q j (by omega)]
  have F15 : F.1 15 p = 2 := by rw [oF 15 p rfl (by omega)]; exact g15
  have hgF : R_gok F n a := by
    rw [hF]
    unfold R_gv R_inc
    exact R_gvl_gok a 0 _ (by omega) (hgo.u (by decide))
  obtain ⟨u, u1, u2, u3, u4, -⟩ := hS.p1 hp
  have hu1 : u = 1 := by rw [h15, show (1 : Int32).toInt = 1 by decide] at u1; omega
  have e : ∀ j q, q = 11 ∨ q = 13 ∨ q = 14 → F.1 q j = f.1 q j := fun j q hq => oo q j (by rcases hq with rfl | rfl | rfl <;> rfl) (by omega)
  refine ⟨⟨hgF, fun c c1 c2 => (hS.2.1 c c1 c2).of (fun q hq => oo q c (by rcases hq with rfl | rfl | rfl | rfl <;> rfl) (by omega)) (fun j _ _ => ⟨fun _ => e j 13 (by omega), fun _ => e j 14 (by omega)⟩), fun q hq => ?_, r1, fun q hq => ?_, fun c c1 c2 => (hS.2.2.2.2.2.1 c c1 c2).of (oo 30 c rfl (by omega)) (fun j => oo 29 j rfl (by omega)), r2⟩, r3, r4, ?_⟩
  · by_cases z : q = p
    · rw [z]
      refine (hS.2.2.1 p hp).re (u := 2) (fun k hk => ?_) (fun c k hk => oo k c (by rcases hk with rfl | rfl | rfl <;> rfl) (by omega)) (by rw [F15]; decide) (by omega) ⟨fun _ => u3.mp (Or.inl hu1), fun _ => Or.inr (Or.inl rfl)⟩ (by rw [oo 16 p rfl (by omega)]; exact u4)
      simp only [List.mem_cons, List.not_mem_nil, or_false] at hk
      rcases hk with rfl | rfl | rfl | rfl <;> exact oo _ p rfl (by omega)
    · refine (hS.2.2.1 q hq).of (fun k hk => ?_) (fun c _ _ _ k hk => oo k c (by rcases hk with rfl | rfl | rfl <;> rfl) (by omega))
      simp only [List.mem_cons, List.not_mem_nil, or_false] at hk
      rcases hk with rfl | rfl | rfl | rfl | rfl | rfl <;> exact oo _ q rfl (by omega)
  · by_cases z : q = p
    · rw [z]
      refine ⟨by rw [oo 22 p rfl (by omega)]; exact (hS.2.2.2.2.1 p (by omega)).1, fun w => ?_⟩
      rw [F15] at w
      exact absurd w (by decide)
    · exact (hS.2.2.2.2.1 q hq).of (oo 22 q rfl (by omega)) (oo 15 q rfl (by omega)) (oo 19 q rfl (by omega))
  · refine ⟨fun q j z1 z2 z3 => oo q j z1 (fun z => ?_), fun w j z1 z2 => ?_, fun w j z => ?_⟩
    · have := z3 (by omega)
      omega
    · rw [hF, R_gv_i z1 z2, o w j (by omega)]
    · rw [hF, R_gv_l z, gl]
theorem dropAll_op (hS : PS f n a) (hp : p < n) (ho : R_open (f.1 11 p)) : ∃ c, c < 8 ∧ (lnf f p).toInt = ((c + 1 : Nat) : Int) ∧ R_dropAll f n a p = R_drop f n a (c + 1) := by
  have hn4 := hS.1.2.2.1
  obtain ⟨st, o, kk, u, ⟨t11, t11'⟩, ⟨t13, t13'⟩, ⟨t14, t14'⟩, -, q5, q6, -, -, -, -, -, q12, q13, -⟩ := id (hS.2.2.1 p hp)
  have hst : st = 5 ∨ st = 6 := by
    rw [i32_eq (x := f.1 11 p) (n := st) t11 (by omega)] at ho
    rcases ho with z | z
    · exact Or.inl (ofN_inj (y := 5) (by omega) (by omega) z)
    · exact Or.inr (ofN_inj (y := 6) (by omega) (by omega) z)
  have nn : ∀ g : jx_F, g.1 11 p = f.1 11 p → ¬ g.1 11 p = 3 ∧ ¬ g.1 11 p = 4 := fun g e => by
    rw [e]
    rcases ho with z | z <;> rw [z] <;> decide
  rcases hst with z | z
  · obtain ⟨z1, z2⟩ := q12 z
    have e13 : f.1 13 p = 0 := (i32_z t13).mpr z1
    have e14 : ¬ f.1 14 p = 0 := fun w => z2 ((i32_z t14).mp w)
    obtain ⟨w1, w2⟩ := q6 z2
    have hpn : (f.1 27 kk).toInt = ((p + 1 : Nat) : Int) := by rw [w1, i32_ofNat (by omega)]
    refine ⟨kk - 1, by omega, ?_, ?_⟩
    · unfold lnf
      rw [if_pos e13, t14]
      omega
    · rw [show kk - 1 + 1 = kk by omega]
      have e1 : R_da1 f p = f := by unfold R_da1; rw [if_pos e13]
      have e2 : R_da2 f p = R_shut f kk := by unfold R_da2; rw [if_neg e14, i32_nat t14]
      obtain ⟨n1, n2⟩ := nn (R_shut f kk) (R_shut_o hpn (by omega) (by omega))
      obtain ⟨i1, i2⟩ := i32_p1 (p := p) (by omega) w1
      unfold R_dropAll R_drop R_drop1
      rw [e1, e2, if_neg i1, i2, if_neg n1, if_neg n2]
  · obtain ⟨z1, z2, -⟩ := q13 z
    have e13 : ¬ f.1 13 p = 0 := fun w => z1 ((i32_z t13).mp w)
    have e14 : f.1 14 p = 0 := (i32_z t14).mpr z2
    obtain ⟨w1, w2⟩ := q5 z1
    have hpn : (f.1 27 o).toInt = ((p + 1 : Nat) : Int) := by rw [w1, i32_ofNat (by omega)]
    refine ⟨o - 1, by omega, ?_, ?_⟩
    · unfold lnf
      rw [if_neg e13, t13]
      omega
    · rw [show o - 1 + 1 = o by omega]
      have e1 : R_da1 f p = R_shut f o := by unfold R_da1; rw [if_neg e13, i32_nat t13]
      have g14 : (R_shut f o).1 14 p = 0 := by rw [R_shut_own (by omega) w1 w2, rf_ui_ne (by omega), R_shut0_o (by omega)]; exact e14
      have e2 : R_da2 (R_shut f o) p = R_shut f o := by unfold R_da2; rw [if_pos g14]
      obtain ⟨n1, n2⟩ := nn (R_shut f o) (R_shut_o hpn (by omega) (by omega))
      obtain ⟨i1, i2⟩ := i32_p1 (p := p) (by omega) w1
      unfold R_dropAll R_drop R_drop1
      rw [e1, e2, if_neg i1, i2, if_neg n1, if_neg n2]
theorem dropAll_no (hS : PS f n a) (hp : p < n) (hno : ¬ R_open (f.1 11 p)) : R_dropAll f n a p = R_enter (R_da2 (R_da1 f p) p) p 0 ∧ PS (R_dropAll f n a p) n a ∧ (R_dropAll f n a p).1 34 0 = f.1 34 0 ∧ FR n a f (R_dropAll f n a p) := by
  have hn4 := hS.1.2.2.1
  obtain ⟨st, o, kk, u, ⟨t11, t11'⟩, ⟨t13, t13'⟩, ⟨t14, t14'⟩, ⟨t15, t15'⟩, q5, q6, -⟩ := id (hS.2.2.1 p hp)
  obtain ⟨-, g1, g2, g3, g4, g5, g6⟩ := da_facts hS hp t13 t14
  obtain ⟨g, hg⟩ : ∃ g, g = R_da2 (R_da1 f p) p := ⟨_, rfl⟩
  rw [← hg] at g1 g2 g3 g4 g5 g6
  have hno0 : ¬ R_open (0 : Int32) := fun z => by rcases z with z | z <;> exact absurd z (by decide)
  have e : R_dropAll f n a p = R_enter g p 0 := by
    unfold R_dropAll
    rw [← hg, R_become_nn hno0 (by rw [g5 11 p (by omega) (by omega)]; exact hno)]
  rw [← hg]
  refine ⟨e, ?_⟩
  rw [e]
  obtain ⟨F, hF⟩ : ∃ F, F = R_enter g p 0 := ⟨_, rfl⟩
  rw [← hF]
  have o1 : ∀ q j, ¬ ((q = 11 ∨ q = 12) ∧ j = p) → F.1 q j = g.1 q j := fun q j z => by rw [hF]; exact enter_o z
  have oo : ∀ q j, ¬ ((q = 26 ∨ q = 27 ∨ q = 28 ∨ q = 30) ∧ j ≠ 0 ∧ (j = o ∨ j = kk)) → ¬ ((q = 11 ∨ q = 12 ∨ q = 13 ∨ q = 14) ∧ j = p) → F.1 q j = f.1 q j := fun q j z1 z2 => by rw [o1 q j (by omega), g5 q j z1 (by omega)]
  have lF : F.2 = f.2 := by rw [hF]; exact g2
  obtain ⟨u', u1, u2, u3, u4, u5⟩ := hS.p1 hp
  have cof : ∀ c', 1 ≤ c' → c' ≤ 8 → f.1 27 c' = Int32.ofNat (p + 1) → c' = o ∨ c' = kk := fun c' h1 h2 h3 => by
    rcases hS.cof hp h1 h2 h3 with z | z
    · have := z.2
      rw [i32_eq (x := f.1 13 p) (n := o) t13 (by omega)] at this
      exact Or.inl (ofN_inj (by omega) (by omega) this).symm
    · have := z.2.1
      rw [i32_eq (x := f.1 14 p) (n := kk) t14 (by omega)] at this
      exact Or.inr (ofN_inj (by omega) (by omega) this).symm
  have foc : ∀ j, j ≠ 0 → (j = o ∨ j = kk) → f.1 27 j = Int32.ofNat (p + 1) := fun j j1 j2 => by
    rcases j2 with z | z
    · rw [z]; exact (q5 (by omega)).1
    · rw [z]; exact (q6 (by omega)).1
  refine ⟨hS.nopen (c0 := 0) hp hno (by rw [hF]; exact g1.enter) (fun w hw hw2 q hq => oo q w ?_ (by omega)) (fun q j hq => oo q j (by omega) (by omega)) (fun j => by rw [lF]) (fun c' c1 c2 h27 _ q hq => oo q c' (fun z => h27 (foc c' z.2.1 z.2.2)) (by omega)) (Or.inl rfl) (fun c' c1 c2 h => ?_) ?_ (fun q hq => (hS.2.2.2.2.1 q hq).of (oo 22 q (by omega) (by omega)) (oo 15 q (by omega) (by omega)) (oo 19 q (by omega) (by omega))) (fun c' c1 c2 => ?_) (by rw [oo 34 0 (by omega) (by omega)]; exact Int.le_refl _), oo 34 0 (by omega) (by omega), fun q j z1 z2 z3 => oo q j (by omega) (fun z => ?_), fun w j z1 z2 => oo w j (by omega) (by omega), fun w j z => by rw [lF]⟩
  · simp only [List.mem_cons, List.not_mem_nil, or_false] at hq
    omega
  · obtain ⟨v1, v2, v3, v4⟩ := g6 c' (by omega) (cof c' c1 c2 (by rcases h with h | h; exact h; omega))
    exact PI_c1.no (by rw [o1 26 c' (by omega)]; exact v1) (by rw [o1 27 c' (by omega)]; exact v2) (by rw [o1 28 c' (by omega)]; exact v3) (by rw [o1 30 c' (by omega)]; exact v4)
  · exact PI_p1.closed (u := u') (by rw [hF]; exact enter_v) (by rw [o1 13 p (by omega)]; exact g3) (by rw [o1 14 p (by omega)]; exact g4) (by rw [oo 15 p (by omega) (by omega)]; exact u1) u2 (fun z => hno (u3.mp z)) (by rw [oo 16 p (by omega) (by omega)]; exact u4) (by rw [oo 10 p (by omega) (by omega)]; exact u5)
  · by_cases z : c' = o ∨ c' = kk
    · obtain ⟨v1, v2, v3, v4⟩ := g6 c' (by omega) z
      exact Or.inl (by rw [o1 30 c' (by omega), v4]; decide)
    · exact (hS.2.2.2.2.2.1 c' c1 c2).of (oo 30 c' (by omega) (by omega)) (fun j => oo 29 j (by omega) (by omega))
  · have := z3 (by omega)
    omega
theorem PS.da (hS : PS f n a) (hp : p < n) {h : Nat} (h34 : (f.1 34 0).toInt = (h : Int)) (hh : h < 2147482000) : PS (R_dropAll f n a p) n a ∧ (f.1 34 0).toInt ≤ ((R_dropAll f n a p).1 34 0).toInt ∧ ((R_dropAll f n a p).1 34 0).toInt ≤ (f.1 34 0).toInt + 64 ∧ FR n a f (R_dropAll f n a p) := by
  by_cases ho : R_open (f.1 11 p)
  · obtain ⟨c, hc, -, e⟩ := dropAll_op hS hp ho
    rw [e]
    obtain ⟨r1, r2, r3⟩ := hS.drop (c := c + 1) (by omega) (by omega) ⟨h, h34, hh⟩
    exact ⟨r1, r2, r3, FR.drop hS (by omega) (by omega)⟩
  · obtain ⟨-, r1, r2, r3⟩ := dropAll_no hS hp ho
    exact ⟨r1, by rw [r2]; exact Int.le_refl _, by rw [r2]; omega, r3⟩
theorem PS.ring (hS : PS f n a) (hp : p < n) {h : Nat} (h34 : (f.1 34 0).toInt = (h : Int)) (hh : h < 2147482000) : PS (R_ring f n a p) n a ∧ (f.1 34 0).toInt ≤ ((R_ring f n a p).1 34 0).toInt ∧ ((R_ring f n a p).1 34 0).toInt ≤ (f.1 34 0).toInt + 64 ∧ FR n a f (R_ring f n a p) := by
  have hn4 := hS.1.2.2.1
  have wt : PS (R_sendWatch f p) n a ∧ (f.1 34 0).toInt ≤ ((R_sendWatch f p).1 34 0).toInt ∧ ((R_sendWatch f p).1 34 0).toInt ≤ (f.1 34 0).toInt + 64 ∧ FR n a f (R_sendWatch f p) := by
    obtain ⟨r1, r2, r3⟩ := hS.watch hp h34 (by omega)
    exact ⟨r1, by omega, by omega, r3⟩
  unfold R_ring
  by_cases e1 : f.1 15 p = 1
  · rw [if_pos e1]
    by_cases e16 : f.1 16 p = 0
    · rw [if_pos e16]; exact wt
    · rw [if_neg e16]; exact hS.silent hp e1 h34 (by omega)
  rw [if_neg e1]
  by_cases e2 : f.1 15 p = 2
  · rw [if_pos e2]; exact hS.da hp h34 hh
  rw [if_neg e2]
  by_cases e4 : f.1 15 p = 4
  · rw [if_pos e4]
    by_cases e16 : f.1 16 p = 0
    · rw [if_pos e16]; exact wt
    · rw [if_neg e16]; exact hS.da hp h34 hh
  rw [if_neg e4]
  have base : PS (rf_ui f 17 p (f.1 1 0 + 30)) n a ∧ (f.1 34 0).toInt ≤ ((rf_ui f 17 p (f.1 1 0 + 30)).1 34 0).toInt ∧ ((rf_ui f 17 p (f.1 1 0 + 30)).1 34 0).toInt ≤ (f.1 34 0).toInt + 64 ∧ FR n a f (rf_ui f 17 p (f.1 1 0 + 30)) := by
    have o : ∀ q j, q ≠ 17 → (rf_ui f 17 p (f.1 1 0 + 30)).1 q j = f.1 q j := fun q j z => rf_ui_ne (by omega)
    refine ⟨hS.of (hS.1.u (by decide)).1 (fun q j hq => o q j ?_) (fun _ => rfl) (fun q hq => (hS.2.2.2.2.1 q hq).of (o 22 q (by omega)) (o 15 q (by omega)) (o 19 q (by omega))) (by rw [o 34 0 (by omega)]; exact Int.le_refl _), by rw [o 34 0 (by omega)]; exact Int.le_refl _, by rw [o 34 0 (by omega)]; omega, FR.pe hp (fun q j z1 _ => rf_ui_ne (by omega)) rfl⟩
    simp only [List.mem_cons, List.not_mem_nil, or_false] at hq
    omega
  unfold R_ring0
  by_cases e10 : f.1 10 p = 0
  · rw [if_pos e10]; exact base
  rw [if_neg e10]
  by_cases e11 : f.1 11 p = 0
  · rw [if_pos e11]
    by_cases el : R_least f 8 1 = 0
    · rw [if_pos el]; exact base
    · rw [if_neg el]
      obtain ⟨l1, l2, l3⟩ := R_least_r 8 1 el
      obtain ⟨c, hc⟩ : ∃ c, R_least f 8 1 = c + 1 := ⟨R_least f 8 1 - 1, by omega⟩
      rw [hc] at l1 l2 l3 ⊢
      obtain ⟨b1, b2, b3, b4⟩ := base
      have ob := fun q j => R_beg_o (f := rf_ui f 17 p (f.1 1 0 + 30)) (p := p) (c := c) (q := q) (j := j)
      have e34 : (R_beg (rf_ui f 17 p (f.1 1 0 + 30)) p (c + 1)).1 34 0 = (rf_ui f 17 p (f.1 1 0 + 30)).1 34 0 := ob 34 0 (by simp only [List.mem_cons, List.not_mem_nil, or_false]; omega) (by omega)
      refine ⟨b1.beg hp (by omega) (by rw [rf_ui_ne (by omega)]; exact e11) (by rw [rf_ui_ne (by omega)]; exact l3), by rw [e34]; exact b2, by rw [e34]; exact b3, b4.tr (FR.pe hp (fun q j z1 z2 => ob q j (fun z => z2 ?_) (by omega)) rfl)⟩
      simp only [List.mem_cons, List.not_mem_nil, or_false] at z ⊢
      omega
  · rw [if_neg e11]; exact base
end JxPures4
