/-! WHAT HOLDS OF THE REFERENCE'S STATE: a PEER becomes open, is open no more -/
section JxPures3
variable {f g f' : jx_F} {n a p c c0 i k : Nat} {s : Int32}
/-- which connections are a PEER's -/
theorem PS.cof (hS : PS f n a) (hp : p < n) (c1 : 1 ≤ c) (c2 : c ≤ 8) (h : f.1 27 c = Int32.ofNat (p + 1)) : (f.1 28 c = 1 ∧ f.1 13 p = Int32.ofNat c) ∨ (f.1 28 c = 2 ∧ f.1 14 p = Int32.ofNat c ∧ f.1 26 c = 2) := by
  have hn4 := hS.1.2.2.1
  obtain ⟨x, q, r, ⟨t1, t1'⟩, ⟨t2, t2'⟩, ⟨t3, t3'⟩, t4, t5, t6, t7, t8⟩ := hS.2.1 c c1 c2
  have hq : q = p + 1 := by
    rw [h, i32_ofNat (by omega)] at t2
    omega
  have hr : r = 1 ∨ r = 2 := by
    have : r ≠ 0 := fun z => by have := t5.mpr z; omega
    omega
  rcases hr with e | e
  · refine Or.inl ⟨Int32.toInt_inj.mp (by rw [t3, e]; decide), ?_⟩
    have := t7 e
    rwa [hq, show p + 1 - 1 = p by omega] at this
  · obtain ⟨y1, y2⟩ := t8 e
    rw [hq, show p + 1 - 1 = p by omega] at y1
    exact Or.inr ⟨Int32.toInt_inj.mp (by rw [t3, e]; decide), y1, Int32.toInt_inj.mp (by rw [t1, y2]; decide)⟩
/-- no ASK hangs on a PEER that is not open -/
theorem PS.asks (hS : PS f n a) (hno : ¬ R_open (f.1 11 p)) (hP : ∀ u, u < n → u ≠ p → f'.1 11 u = f.1 11 u ∧ f'.1 13 u = f.1 13 u ∧ f'.1 14 u = f.1 14 u) (hk : ∀ q j, q = 54 ∨ q = 55 ∨ q = 58 → f'.1 q j = f.1 q j) (hl : ∀ j, f'.2 53 j = f.2 53 j) : ∀ i, i < a → PI_q1 f' n i := by
  intro i hi
  have hq := hS.2.2.2.1 i hi
  refine hq.of ⟨hk 54 i (by omega), hk 55 i (by omega), hk 58 i (by omega), hl i⟩ (fun u hu e1 e2 => hP u hu (fun z => hno ?_))
  obtain ⟨u', t, t1, t2, t3, t4⟩ := hq
  have : u' = p := by omega
  rw [← this]
  exact (t4 e2).1
/-- ASKS when the PEER's are given over -/
theorem PS.give (hS : PS f n a) (hp : p < n) (h34 : ∃ h : Nat, (f.1 34 0).toInt = (h : Int) ∧ h < 2147483000) (hgo : R_gok g n a) (hP : ∀ u, u < n → u ≠ p → g.1 11 u = f.1 11 u ∧ g.1 13 u = f.1 13 u ∧ g.1 14 u = f.1 14 u) (hk : ∀ q j, q = 54 ∨ q = 55 ∨ q = 58 ∨ q = 34 → g.1 q j = f.1 q j) (hl : ∀ j, g.2 53 j = f.2 53 j)
    (hpo : g.1 15 p = 2 → g.1 11 p = f.1 11 p ∧ g.1 13 p = f.1 13 p ∧ g.1 14 p = f.1 14 p) : (∀ i, i < a → PI_q1 (R_gv g n a p) n i) ∧ (∀ i, i < 64 → ((R_gv g n a p).1 55 i).toInt ≤ ((R_gv g n a p).1 34 0).toInt) ∧ (f.1 34 0).toInt ≤ ((R_gv g n a p).1 34 0).toInt ∧ ((R_gv g n a p).1 34 0).toInt ≤ (f.1 34 0).toInt + 64 := by
  have hn4 := hS.1.2.2.1
  have ha := hS.1.2.2.2.2.1
  obtain ⟨x, hx, hx2⟩ := h34
  have o : ∀ q j, q ≠ 18 → (R_inc g 18 p).1 q j = g.1 q j := fun q j h => by unfold R_inc; exact rf_ui_ne (fun e => h e.1)
  have e34 : (R_inc g 18 p).1 34 0 = f.1 34 0 := by rw [o 34 0 (by omega), hk 34 0 (by omega)]
  have hW : GW (R_inc g 18 p) n a p 0 := by
    refine ⟨fun i _ h => by omega, fun i hi _ => ?_, fun z => (R_lu_us n 0 z).2.2.1, fun i hi => by rw [o 55 i (by omega), hk 55 i (by omega), e34]; exact hS.2.2.2.2.2.2 i hi, x, by rw [e34]; exact hx, by omega⟩
    obtain ⟨u, t, t1, t2, t3, t4⟩ := hS.2.2.2.1 i hi
    refine ⟨u, t, by rw [o 54 i (by omega), hk 54 i (by omega)]; exact t1, by rw [o 55 i (by omega), hk 55 i (by omega)]; exact t2, by show 0 ≤ (g.2 53 i).toInt ∧ (g.2 53 i).toInt < _; rw [hl i]; exact t3, fun e => ?_⟩
    have e' : g.2 53 i = 0 := e
    rw [hl i] at e'
    obtain ⟨t5, t6⟩ := t4 e'
    rw [o 15 p (by omega), o 11 u (by omega), o 58 i (by omega), hk 58 i (by omega), R_conn_eq (f := g) (o 11 u (by omega)) (o 13 u (by omega)) (o 14 u (by omega))]
    by_cases hu : u = p
    · by_cases h15 : g.1 15 p = 2
      · obtain ⟨x1, x2, x3⟩ := hpo h15
        subst hu
        rw [x1, R_conn_eq (f := f) x1 x2 x3]
        exact Or.inr ⟨t5, t6⟩
      · exact Or.inl ⟨hu, h15⟩
    · obtain ⟨x1, x2, x3⟩ := hP u t1.2 hu
      rw [x1, R_conn_eq (f := f) x1 x2 x3]
      exact Or.inr ⟨t5, t6⟩
  obtain ⟨q1, q2, q3, q4⟩ := GW.all hp hn4 ha a 0 (R_inc g 18 p) (by omega) hW
  rw [e34] at q3 q4
  exact ⟨q1, q2, q3, by show ((R_gvl n p a 0 (R_inc g 18 p)).1 34 0).toInt ≤ _; omega⟩
theorem R_gv_o {u j : Nat} (hu : R_askK u = false) (h18 : ¬ (u = 18 ∧ j = p)) : (R_gv g n a p).1 u j = g.1 u j := by
  unfold R_gv
  rw [R_gvl_o hu]
  unfold R_inc
  exact rf_ui_ne h18
theorem R_bshut_o {u j : Nat} (hu : R_askK u = false) (h : ¬ ((u = 15 ∨ u = 16 ∨ u = 17 ∨ u = 18) ∧ j = p)) : (R_bshut g n a p).1 u j = g.1 u j := by
  unfold R_bshut
  rw [R_gv_o hu (by omega), rf_ui_ne (by omega), rf_ui_ne (by omega), rf_ui_ne (by omega)]
theorem R_bshut_v : (R_bshut g n a p).1 15 p = 3 ∧ (R_bshut g n a p).1 16 p = 0 := by
  unfold R_bshut
  refine ⟨?_, ?_⟩
  · rw [R_gv_o rfl (by omega), rf_ui_ne (by omega), rf_ui_ne (by omega), rf_ui_eq]
  · rw [R_gv_o rfl (by omega), rf_ui_ne (by omega), rf_ui_eq]
/-- a PEER is open no more: all that is wanted of its connections is told by g -/
theorem PS.bshut (hS : PS f n a) (hp : p < n) (h34 : ∃ h : Nat, (f.1 34 0).toInt = (h : Int) ∧ h < 2147483000) (hgo : R_gok g n a) (hP : ∀ u, u < n → u ≠ p → ∀ q, q ∈ [10, 11, 13, 14, 15, 16] → g.1 q u = f.1 q u) (hk : ∀ q j, q = 54 ∨ q = 55 ∨ q = 58 ∨ q = 34 → g.1 q j = f.1 q j) (hl : ∀ j, g.2 53 j = f.2 53 j)
    (hCo : ∀ c, 1 ≤ c → c ≤ 8 → ¬ f.1 27 c = Int32.ofNat (p + 1) → ∀ q, q = 26 ∨ q = 27 ∨ q = 28 ∨ q = 30 → g.1 q c = f.1 q c) (hC : ∀ c, 1 ≤ c → c ≤ 8 → f.1 27 c = Int32.ofNat (p + 1) → PI_c1 g n c)
    (hPp : ∃ st o k : Nat, ((g.1 11 p).toInt = (st : Int) ∧ (st = 0 ∨ st = 7)) ∧ ((g.1 13 p).toInt = (o : Int) ∧ o ≤ 8) ∧ ((g.1 14 p).toInt = (k : Int) ∧ k ≤ 8) ∧ (o ≠ 0 → g.1 27 o = Int32.ofNat (p + 1) ∧ g.1 28 o = 1) ∧ (k ≠ 0 → g.1 27 k = Int32.ofNat (p + 1) ∧ g.1 28 k = 2) ∧ (st = 0 → o = 0 ∧ k = 0) ∧ (st = 7 → (o = 0 ∧ k ≠ 0) ∨ (o ≠ 0 ∧ k = 0 ∧ g.1 26 o = 2)))
    (h10 : g.1 10 p = f.1 10 p) (hJp : ∀ q, q < 4 → PJ_p g q) (hJi : ∀ c, 1 ≤ c → c ≤ 8 → PJ_i g c) : PS (R_bshut g n a p) n a ∧ (f.1 34 0).toInt ≤ ((R_bshut g n a p).1 34 0).toInt ∧ ((R_bshut g n a p).1 34 0).toInt ≤ (f.1 34 0).toInt + 64 := by
  have hn4 := hS.1.2.2.1
  obtain ⟨m, hm⟩ : ∃ m, m = rf_ui (rf_ui (rf_ui g 15 p 3) 16 p 0) 17 p (g.1 1 0 + 30) := ⟨_, rfl⟩
  have eb : R_bshut g n a p = R_gv m n a p := by unfold R_bshut; rw [← hm]
  have om : ∀ q j, ¬ ((q = 15 ∨ q = 16 ∨ q = 17) ∧ j = p) → m.1 q j = g.1 q j := fun q j h => by rw [hm, rf_ui_ne (by omega), rf_ui_ne (by omega), rf_ui_ne (by omega)]
  have ml : m.2 = g.2 := by rw [hm]; rfl
  have m15 : m.1 15 p = 3 := by rw [hm, rf_ui_ne (by omega), rf_ui_ne (by omega), rf_ui_eq]
  have hgm : R_gok m n a := hgo.of (hgo.1.of (om 6 0 (by omega)) (fun c => om 33 c (by omega)) (fun c => om 32 c (by omega))) (fun q j hq => om q j (by simp only [List.mem_cons, List.not_mem_nil, or_false] at hq; omega))
  obtain ⟨q1, q2, q3, q4⟩ := hS.give (g := m) hp h34 hgm (fun u hu hne => ⟨by rw [om 11 u (by omega)]; exact hP u hu hne 11 (by decide), by rw [om 13 u (by omega)]; exact hP u hu hne 13 (by decide), by rw [om 14 u (by omega)]; exact hP u hu hne 14 (by decide)⟩) (fun q j hq => by rw [om q j (by omega)]; exact hk q j hq) (fun j => by rw [ml]; exact hl j) (fun z => by rw [m15] at z; exact absurd z (by decide))
  rw [← eb] at q1 q2 q3 q4
  obtain ⟨v15, v16⟩ := R_bshut_v (g := g) (n := n) (a := a) (p := p)
  have ob : ∀ u j, R_askK u = false → ¬ ((u = 15 ∨ u = 16 ∨ u = 17 ∨ u = 18) ∧ j = p) → (R_bshut g n a p).1 u j = g.1 u j := fun u j h1 h2 => R_bshut_o h1 h2
  obtain ⟨st, o, kk, x1, x2, x3, x4, x5, x6, x7⟩ := hPp
  obtain ⟨st', o', k', u', -, -, -, -, -, -, -, -, -, -, -, -, -, -, -, -, t17⟩ := hS.2.2.1 p hp
  obtain ⟨r1, r2⟩ := hS.upd (f' := R_bshut g n a p) (c0 := 0) hp (fun q hq hne k hk' => by
      rw [ob k q (by simp only [List.mem_cons, List.not_mem_nil, or_false] at hk'; rcases hk' with rfl | rfl | rfl | rfl | rfl | rfl <;> rfl) (by omega)]
      exact hP q hq hne k hk') (fun c c1 c2 h1 _ k hk' => by
      rw [ob k c (by rcases hk' with rfl | rfl | rfl | rfl <;> rfl) (by omega)]
      exact hCo c c1 c2 h1 k hk') (Or.inl rfl) (fun c c1 c2 h1 => by
      rcases h1 with h1 | h1
      · exact (hC c c1 c2 h1).of (fun q hq => ob q c (by rcases hq with rfl | rfl | rfl | rfl <;> rfl) (by omega)) (fun j _ _ => ⟨fun _ => ob 13 j rfl (by omega), fun _ => ob 14 j rfl (by omega)⟩)
      · omega) (by
      refine ⟨st, o, kk, 3, ⟨by rw [ob 11 p rfl (by omega)]; exact x1.1, by omega⟩, by rw [ob 13 p rfl (by omega)]; exact x2, by rw [ob 14 p rfl (by omega)]; exact x3, ⟨by rw [v15]; decide, by omega⟩, fun e => by rw [ob 27 o rfl (by omega), ob 28 o rfl (by omega)]; exact x4 e, fun e => by rw [ob 27 kk rfl (by omega), ob 28 kk rfl (by omega)]; exact x5 e, x6, fun e => by omega, fun e => by omega, fun e => by omega, fun e => by omega, fun e => by omega, fun e => by omega, fun e => by rw [ob 26 o rfl (by omega)]; exact x7 e, ⟨fun e => by omega, fun e => by omega⟩, Or.inl v16, by rw [ob 10 p rfl (by omega), h10]; exact t17⟩)
  refine ⟨⟨?_, r1, r2, q1, fun q hq => ?_, fun c c1 c2 => ?_, q2⟩, q3, q4⟩
  · rw [eb]
    unfold R_gv R_inc
    exact R_gvl_gok a 0 _ (by omega) (hgm.u (by decide))
  · have := hJp q hq
    unfold PJ_p at this ⊢
    by_cases e : q = p
    · subst e
      rw [v15, ob 22 q rfl (by omega)]
      exact ⟨this.1, fun z => absurd z (by decide)⟩
    · rw [ob 22 q rfl (by omega), ob 15 q rfl (by omega), ob 19 q rfl (by omega)]
      exact this
  · have := hJi c c1 c2
    unfold PJ_i R_len at this ⊢
    rw [ob 30 c rfl (by omega), ob 29 _ rfl (by omega), ob 29 _ rfl (by omega), ob 29 _ rfl (by omega)]
    exact this
end JxPures3
