/-! WHAT HOLDS OF THE REFERENCE'S STATE: PEERS, connections, ASKS -/
def PS (f : jx_F) (n a : Nat) : Prop := R_gok f n a ∧ (∀ c, 1 ≤ c → c ≤ 8 → PI_c1 f n c) ∧ (∀ p, p < n → PI_p1 f p) ∧ (∀ i, i < a → PI_q1 f n i) ∧ (∀ p, p < 4 → PJ_p f p) ∧ (∀ c, 1 ≤ c → c ≤ 8 → PJ_i f c) ∧ ∀ i, i < 64 → (f.1 55 i).toInt ≤ (f.1 34 0).toInt
section JxPures
variable {f f' : jx_F} {n a p c c0 i k : Nat} {G G' : Nat → Nat → Int32}
theorem ofN_inj {x y : Nat} (hx : x < 2147483648) (hy : y < 2147483648) (h : Int32.ofNat x = Int32.ofNat y) : x = y := by
  have := congrArg Int32.toInt h
  rw [i32_ofNat hx, i32_ofNat hy] at this
  omega
theorem ofN_0 : (0 : Int32) = Int32.ofNat 0 := rfl
theorem PI_c1.of (h : PI_c1 f n c) (h1 : ∀ q, q = 26 ∨ q = 27 ∨ q = 28 ∨ q = 30 → f'.1 q c = f.1 q c) (h13 : ∀ j, j < n → f.1 27 c = Int32.ofNat (j + 1) → (f.1 28 c = 1 → f'.1 13 j = f.1 13 j) ∧ (f.1 28 c = 2 → f'.1 14 j = f.1 14 j)) : PI_c1 f' n c := by
  obtain ⟨s, q, r, t1, ⟨t2, t2'⟩, t3, t4, t5, t6, t7, t8⟩ := h
  have hq : q ≠ 0 → f.1 27 c = Int32.ofNat (q - 1 + 1) := fun z => i32_eq (x := f.1 27 c) (n := q - 1 + 1) (by rw [t2]; omega) (by
    have := Int32.toInt_lt (f.1 27 c)
    omega)
  refine ⟨s, q, r, by rw [h1 26 (by omega)]; exact t1, ⟨by rw [h1 27 (by omega)]; exact t2, t2'⟩, by rw [h1 28 (by omega)]; exact t3, by rw [h1 30 (by omega)]; exact t4, t5, by rw [h1 30 (by omega)]; exact t6, fun e => ?_, fun e => ?_⟩
  · rw [(h13 (q - 1) (by omega) (hq (by omega))).1 (Int32.toInt_inj.mp (by rw [t3.1, e]; decide))]
    exact t7 e
  · rw [(h13 (q - 1) (by omega) (hq (by omega))).2 (Int32.toInt_inj.mp (by rw [t3.1, e]; decide))]
    exact t8 e
theorem PI_p1.of (h : PI_p1 f p) (h1 : ∀ q, q ∈ [10, 11, 13, 14, 15, 16] → f'.1 q p = f.1 q p) (h2 : ∀ c, 1 ≤ c → c ≤ 8 → f.1 27 c = Int32.ofNat (p + 1) → ∀ q, q = 26 ∨ q = 27 ∨ q = 28 → f'.1 q c = f.1 q c) : PI_p1 f' p := by
  obtain ⟨st, o, k, u, t1, t2, t3, t4, t5, t6, t7, t8, t9, t10, t11, t12, t13, t14, t15⟩ := h
  have ho : o ≠ 0 → ∀ q, q = 26 ∨ q = 27 ∨ q = 28 → f'.1 q o = f.1 q o := fun z => h2 o (by omega) t2.2 (t5 z).1
  have hk : k ≠ 0 → ∀ q, q = 26 ∨ q = 27 ∨ q = 28 → f'.1 q k = f.1 q k := fun z => h2 k (by omega) t3.2 (t6 z).1
  unfold PI_p1
  rw [h1 11 (by decide), h1 13 (by decide), h1 14 (by decide), h1 15 (by decide), h1 16 (by decide), h1 10 (by decide)]
  refine ⟨st, o, k, u, t1, t2, t3, t4, fun e => by rw [ho e 27 (by omega), ho e 28 (by omega)]; exact t5 e, fun e => by rw [hk e 27 (by omega), hk e 28 (by omega)]; exact t6 e, t7, fun e => ?_, fun e => ?_, fun e => ?_, fun e => ?_, t12, fun e => ?_, fun e => ?_, t15⟩
  · obtain ⟨x1, x2, x3⟩ := t8 e
    exact ⟨x1, x2, by rw [ho x1 26 (by omega)]; exact x3⟩
  · obtain ⟨x1, x2, x3⟩ := t9 e
    exact ⟨x1, x2, by rw [ho x1 26 (by omega)]; exact x3⟩
  · obtain ⟨x1, x2, x3⟩ := t10 e
    exact ⟨x1, x2, by rw [ho x1 26 (by omega)]; exact x3⟩
  · obtain ⟨x1, x2, x3⟩ := t11 e
    exact ⟨x1, x2, by rw [ho x1 26 (by omega)]; exact x3⟩
  · obtain ⟨x1, x2, x3⟩ := t13 e
    exact ⟨x1, x2, by rw [ho x1 26 (by omega)]; exact x3⟩
  · rcases t14 e with x | ⟨x1, x2, x3⟩
    · exact Or.inl x
    · exact Or.inr ⟨x1, x2, by rw [ho x1 26 (by omega)]; exact x3⟩
theorem PI_q1.of (h : PI_q1 f n i) (h1 : f'.1 54 i = f.1 54 i ∧ f'.1 55 i = f.1 55 i ∧ f'.1 58 i = f.1 58 i ∧ f'.2 53 i = f.2 53 i) (h2 : ∀ u : Nat, u < n → (f.1 54 i).toInt = (u : Int) → f.2 53 i = 0 → f'.1 11 u = f.1 11 u ∧ f'.1 13 u = f.1 13 u ∧ f'.1 14 u = f.1 14 u) : PI_q1 f' n i := by
  obtain ⟨u, t, t1, t2, t3, t4⟩ := h
  refine ⟨u, t, by rw [h1.1]; exact t1, by rw [h1.2.1]; exact t2, by rw [h1.2.2.2]; exact t3, fun e => ?_⟩
  rw [h1.2.2.2] at e
  obtain ⟨e1, e2, e3⟩ := h2 u t1.2 t1.1 e
  rw [e1, h1.2.2.1, R_conn_eq (f := f) e1 e2 e3]
  exact t4 e
/-- one PEER and its connections have changed, and perhaps one that was nobody's -/
theorem PS.upd (hS : PS f n a) (hp : p < n) (hP : ∀ q, q < n → q ≠ p → ∀ k, k ∈ [10, 11, 13, 14, 15, 16] → f'.1 k q = f.1 k q)
    (hCo : ∀ c, 1 ≤ c → c ≤ 8 → ¬ f.1 27 c = Int32.ofNat (p + 1) → c ≠ c0 → ∀ k, k = 26 ∨ k = 27 ∨ k = 28 ∨ k = 30 → f'.1 k c = f.1 k c)
    (h0 : c0 = 0 ∨ f.1 27 c0 = 0 ∨ f.1 27 c0 = Int32.ofNat (p + 1)) (hC : ∀ c, 1 ≤ c → c ≤ 8 → f.1 27 c = Int32.ofNat (p + 1) ∨ c = c0 → PI_c1 f' n c) (hPp : PI_p1 f' p) : (∀ c, 1 ≤ c → c ≤ 8 → PI_c1 f' n c) ∧ ∀ q, q < n → PI_p1 f' q := by
  have hn4 := hS.1.2.2.1
  refine ⟨fun c c1 c2 => ?_, fun q hq => ?_⟩
  · by_cases e : f.1 27 c = Int32.ofNat (p + 1) ∨ c = c0
    · exact hC c c1 c2 e
    · refine (hS.2.1 c c1 c2).of (hCo c c1 c2 (fun z => e (Or.inl z)) (fun z => e (Or.inr z))) (fun j hj ej => ?_)
      have hjp : j ≠ p := fun z => e (Or.inl (by rw [ej, z]))
      exact ⟨fun _ => hP j hj hjp 13 (by decide), fun _ => hP j hj hjp 14 (by decide)⟩
  · by_cases e : q = p
    · rw [e]; exact hPp
    · refine (hS.2.2.1 q hq).of (hP q hq e) (fun c c1 c2 ec k hk => hCo c c1 c2 (fun z => ?_) (fun z => ?_) k (by omega))
      · rw [ec] at z
        exact e (by have := ofN_inj (by omega) (by omega) z; omega)
      · subst z
        rcases h0 with z | z | z
        · omega
        · rw [ec, ofN_0] at z
          have := ofN_inj (by omega) (by omega) z
          omega
        · rw [ec] at z
          exact e (by have := ofN_inj (by omega) (by omega) z; omega)
theorem PI.ps (hI : PI f G k) : ∃ n a, PS f n a ∧ (∃ h : Nat, (f.1 34 0).toInt = (h : Int) ∧ 1 ≤ h ∧ h ≤ 1 + 2000000 * k) := by
  obtain ⟨n, a, h1, h2, h3, h4, h5, h6, h7, h8, h9, h10, j1, j2, j3, j4, j5⟩ := hI
  exact ⟨n, a, ⟨h1, h2, h3, h5, j1, j2, j3⟩, h9⟩
/-- the invariant again, when the states of PEERS have changed -/
theorem PI.fin (hI : PI f G k) (hS : ∀ n a, PS f n a → PS f' n a) (hp : ∀ (q p : Nat), (f.1 7 0).toInt ≤ (p : Int) → q ∈ [11, 13, 14, 15, 16, 18, 19, 20, 21, 22, 23, 24, 25] → f'.1 q p = f.1 q p) (hq : ∀ i : Nat, (f.1 49 0).toInt ≤ (i : Int) → f'.1 55 i = f.1 55 i ∧ f'.2 53 i = f.2 53 i) (hlost : f'.1 2 0 = lsum G' 8) (hclock : f'.1 1 0 = f.1 1 0)
    (hhop : (f.1 34 0).toInt ≤ (f'.1 34 0).toInt ∧ (f'.1 34 0).toInt ≤ (f.1 34 0).toInt + 2000000) (hk : ∀ q j, q ∈ [35, 40, 44, 59, 64] → f'.1 q j = f.1 q j) (hl : ∀ q j, q ∈ [37, 38, 39, 45] → f'.2 q j = f.2 q j) : PI f' G' (k + 1) := by
  obtain ⟨n, a, h1, h2, h3, h4, h5, h6, h7, ⟨t, h8, h8'⟩, ⟨h, h9, h9', h9''⟩, ⟨x, h10, h11⟩, j1, j2, j3, j4, j5⟩ := hI
  obtain ⟨s1, s2, s3, s4, s5, s6, s7⟩ := hS n a ⟨h1, h2, h3, h5, j1, j2, j3⟩
  refine ⟨n, a, s1, s2, s3, fun p p1 p2 q hq' => ?_, s4, fun i i1 i2 => ?_, hlost, ⟨t, by rw [hclock]; exact h8, by omega⟩, ⟨(f'.1 34 0).toInt.toNat, by omega, by omega, by omega⟩, ⟨x, by rw [hk 35 0 (by decide)]; exact h10, fun i i1 i2 => by rw [hl 38 i (by decide), hl 39 i (by decide)]; exact h11 i i1 i2⟩, s5, s6, s7, fun i hi => ?_, j5.of (hk 35 0 (by decide)) (hk 40 0 (by decide)) (fun s _ => hk 44 s (by decide)) (fun s _ => hl 45 s (by decide)) (fun i _ => ⟨hl 37 i (by decide), hl 38 i (by decide)⟩)⟩
  · rw [hp q p (by have := h1.2.1; omega) hq']
    exact h4 p p1 p2 q hq'
  · obtain ⟨e1, e2⟩ := hq i (by have := h1.2.2.2.1; omega)
    rw [e1, e2]
    exact h6 i i1 i2
  · rw [hk 59 0 (by decide)] at hi
    have := j4 i hi
    unfold PJ_k at this ⊢
    rw [hk 64 i (by decide), hclock]
    exact this
theorem PS.gq {h : Nat} (hS : PS f n a) (h34 : (f.1 34 0).toInt = (h : Int)) (hh : h < 2147483640) : GQ f n a 0 := by
  intro i _ hi
  obtain ⟨u, t, t1, t2, t3, -⟩ := hS.2.2.2.1 i hi
  have := hS.2.2.2.2.2.2 i (by have := hS.1.2.2.2.2.1; omega)
  exact ⟨⟨u, t1⟩, ⟨t, t2.1, t2.2, by omega⟩, t3⟩
theorem PS.gl {q : Nat} (hS : PS f n a) (hq : q < n) (ho : R_open (f.1 11 q)) : GL f q := by
  obtain ⟨st, o, kk, u, ⟨t1, t1'⟩, ⟨t2, t2'⟩, ⟨t3, t3'⟩, t4, t5, t6, t7, t8, t9, t10, t11, t12, t13, t14, t15⟩ := hS.2.2.1 q hq
  rcases ho with e | e
  · have est : st = 5 := by
      rw [e] at t1
      have : (5 : Int32).toInt = 5 := by decide
      omega
    obtain ⟨x1, x2⟩ := t12 est
    have o0 : f.1 13 q = 0 := (i32_z t2).mpr x1
    have k0 : ¬ f.1 14 q = 0 := fun z => x2 ((i32_z t3).mp z)
    have el : lnf f q = f.1 14 q := by unfold lnf; rw [if_pos o0]
    obtain ⟨y1, y2⟩ := t6 x2
    obtain ⟨s, q', r, ⟨z1, z1'⟩, ⟨z2, -⟩, ⟨z3, -⟩, z4, z5, z6, z7, z8⟩ := hS.2.1 kk (by omega) t3'
    have r2 : r = 2 := by
      rw [y2] at z3
      have : (2 : Int32).toInt = 2 := by decide
      omega
    refine ⟨kk - 1, by omega, by rw [el, t3]; omega, ?_, fun z => ?_⟩
    · rw [el]
      unfold R_conn
      rw [if_neg (fun z => z.elim (fun z => by rw [e] at z; exact absurd z (by decide)) k0)]
    · rw [show kk - 1 + 1 = kk by omega] at z
      rw [z] at z1
      have : (0 : Int32).toInt = 0 := by decide
      have := (z8 r2).2
      omega
  · have est : st = 6 := by
      rw [e] at t1
      have : (6 : Int32).toInt = 6 := by decide
      omega
    obtain ⟨x1, x2, x3⟩ := t13 est
    have o0 : ¬ f.1 13 q = 0 := fun z => x1 ((i32_z t2).mp z)
    have el : lnf f q = f.1 13 q := by unfold lnf; rw [if_neg o0]
    refine ⟨o - 1, by omega, by rw [el, t2]; omega, ?_, fun z => ?_⟩
    · rw [el]
      unfold R_conn
      rw [if_pos (Or.inl e)]
    · rw [show o - 1 + 1 = o by omega, x3] at z
      exact absurd z (by decide)
/-- a connection is given anew to nobody -/
theorem PS.fresh {s : Int32} (hS : PS f n a) (hc : c < 8) (h26 : f.1 26 (c + 1) = 0) (hs : s = 2) : PS (R_fresh f (c + 1) s) n a := by
  have o := fresh_o (f := f) (c := c) (s := s)
  obtain ⟨v26, v27, v28, v30, v32, v33⟩ := fresh_v (f := f) (c := c) (s := s)
  have no : ∀ q : Nat, ¬ (26 ≤ q ∧ q ≤ 33) → ∀ j, (R_fresh f (c + 1) s).1 q j = f.1 q j := fun q hq j => o q j (fun e => by have := e.1; simp only [List.mem_cons, List.not_mem_nil, or_false] at this; omega)
  have z0 : (0 : Int32).toInt = ((0 : Nat) : Int) := by decide
  obtain ⟨sg, sc, sp, sq, s5, s6, s7⟩ := hS
  obtain ⟨x, q, r, ⟨t1, t1'⟩, ⟨t2, t2'⟩, ⟨t3, t3'⟩, t4, -⟩ := sc (c + 1) (by omega) (by omega)
  have x0 : x = 0 := by rw [h26] at t1; omega
  have q0 : q = 0 := (t4 x0).1
  have h27 : f.1 27 (c + 1) = 0 := (i32_z t2).mpr q0
  refine ⟨sg.of ⟨by rw [no 6 (by omega)]; exact sg.1.1, fun c' hc' => ?_⟩ (fun k j hk => no k (by simp only [List.mem_cons, List.not_mem_nil, or_false] at hk; omega) j), fun c' c1 c2 => ?_, fun p hp => ?_, fun i hi => (sq i hi).of ⟨no 54 (by omega) i, no 55 (by omega) i, no 58 (by omega) i, rfl⟩ (fun u _ _ _ => ⟨no 11 (by omega) u, no 13 (by omega) u, no 14 (by omega) u⟩), fun p hp => ?_, fun c' c1 c2 => ?_, fun i hi => by rw [no 55 (by omega), no 34 (by omega)]; exact s7 i hi⟩
  · by_cases e : c' = c + 1
    · rw [e, v32, v33]
      exact ⟨⟨0, z0, by omega⟩, 0, z0, by omega⟩
    · rw [o 33 c' (fun z => e z.2), o 32 c' (fun z => e z.2)]
      exact sg.1.2 c' hc'
  · by_cases e : c' = c + 1
    · subst e
      refine ⟨2, 0, 0, ⟨by rw [v26, hs]; decide, by omega⟩, ⟨by rw [v27]; exact z0, by omega⟩, ⟨by rw [v28]; exact z0, by omega⟩, fun z => by omega, ⟨fun _ => rfl, fun _ => rfl⟩, fun z => by omega, fun z => by omega, fun z => by omega⟩
    · exact (sc c' c1 c2).of (fun q _ => o q c' (fun z => e z.2)) (fun j _ _ => ⟨fun _ => no 13 (by omega) j, fun _ => no 14 (by omega) j⟩)
  · refine (sp p hp).of (fun q hq => no q (by simp only [List.mem_cons, List.not_mem_nil, or_false] at hq; omega) p) (fun c' c1 c2 ec q _ => o q c' (fun z => ?_))
    rw [z.2, h27, ofN_0] at ec
    have := ofN_inj (by omega) (by have := sg.2.2.1; omega) ec
    omega
  · have := s5 p hp
    unfold PJ_p at this ⊢
    rw [no 22 (by omega), no 15 (by omega), no 19 (by omega)]
    exact this
  · by_cases e : c' = c + 1
    · subst e
      exact Or.inl (by rw [v30]; decide)
    · have := s6 c' c1 c2
      unfold PJ_i R_len at this ⊢
      rw [o 30 c' (fun z => e z.2), o 29 _ (fun z => by have := z.1; revert this; decide), o 29 _ (fun z => by have := z.1; revert this; decide), o 29 _ (fun z => by have := z.1; revert this; decide)]
      exact this
end JxPures
