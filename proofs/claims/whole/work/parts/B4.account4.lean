/-! THE PAIR account, together -/
section JxAccount4
variable {th : Nat → Nat} {B b d : Nat} {xl : List Int32} {σ σ' : jx_S} {f f' : jx_F} {A : Nat → Nat → Nat} {G : Nat → Nat → Int32} {T T' : Nat → Nat} {n v : Int64} {x k E' : Nat}
theorem rf_ul_ne {f : jx_F} {k j a c : Nat} {x : Int64} (h : ¬ (a = k ∧ c = j)) : (rf_ul f k j x).2 a c = f.2 a c := if_neg h
theorem rf_ul_eq {f : jx_F} {k j : Nat} {x : Int64} : (rf_ul f k j x).2 k j = x := if_pos ⟨rfl, rfl⟩
theorem lg_lt {x y : Int64} : lg_cmp x y < 0 ↔ x.toInt < y.toInt := by
  unfold lg_cmp
  by_cases h1 : x > y
  · rw [if_pos h1]
    have h2 := Int64.lt_iff_toInt_lt.mp h1
    constructor
    · intro h; exact absurd h (by decide)
    · intro h; omega
  · rw [if_neg h1]
    have h3 : ¬ y.toInt < x.toInt := fun h => h1 (Int64.lt_iff_toInt_lt.mpr h)
    by_cases h2 : x = y
    · rw [if_pos h2, h2]
      constructor
      · intro h; exact absurd h (by decide)
      · intro h; omega
    · rw [if_neg h2]
      have : ¬ x.toInt = y.toInt := fun e => h2 (Int64.toInt_inj.mp e)
      constructor
      · intro h; omega
      · intro h; decide
theorem lg_gt {x y : Int64} : 0 < lg_cmp x y ↔ y.toInt < x.toInt := by
  unfold lg_cmp
  by_cases h1 : x > y
  · rw [if_pos h1]
    have h2 := Int64.lt_iff_toInt_lt.mp h1
    constructor
    · intro h; exact h2
    · intro h; decide
  · rw [if_neg h1]
    have h3 : ¬ y.toInt < x.toInt := fun h => h1 (Int64.lt_iff_toInt_lt.mpr h)
    refine ⟨fun h => ?_, fun h => absurd h h3⟩
    by_cases h2 : x = y
    · rw [if_pos h2] at h; exact absurd h (by decide)
    · rw [if_neg h2] at h; exact absurd h (by decide)
theorem lg_ge0 {x : Int64} (h : ¬ lg_cmp x 0 < 0) : 0 ≤ x.toInt := by
  rw [lg_lt] at h
  have e : (0 : Int64).toInt = 0 := by decide
  omega
theorem lg_leT {x : Int64} (h : ¬ 0 < lg_cmp x 1152921504606846976) : x.toInt ≤ 1152921504606846976 := by
  rw [lg_gt] at h
  have e : (1152921504606846976 : Int64).toInt = 1152921504606846976 := by decide
  omega
theorem msum_no {i : Nat} : ∀ {m : Nat}, (∀ s, s < m → ¬ (f.1 44 s).toInt = (i : Int)) → msum f i m = 0
  | 0, _ => rfl
  | m + 1, h => by
    unfold msum
    rw [msum_no (fun s hs => h s (by omega)), if_neg (h m (by omega))]
    rfl
/-- two states that differ only where the call has written -/
theorem R_acc_o : ∀ q j, ¬ (q = 35 ∧ j = 0) → (fN (R_acc f x n v)).1 q j = (fN f).1 q j := by
  intro q j hq
  show (if _ then _ else _) = (if _ then _ else _)
  split
  · rfl
  · rename_i hs
    unfold R_acc
    rw [rf_ui_ne (by omega)]
    show (rf_ui f 0 0 0).1 q j = _
    exact rf_ui_ne (fun e => hs (by rw [e.1]; rfl))
theorem R_acc_l : ∀ q j, ¬ (q = 36 ∧ j = x) → ¬ (q = 37 ∧ j = x) → (fN (R_acc f x n v)).2 q j = (fN f).2 q j := by
  intro q j h1 h2
  show (if _ then _ else _) = (if _ then _ else _)
  split
  · rfl
  · unfold R_acc
    show (rf_ul (rf_ul (rf_ui f 0 0 0) 36 x n) 37 x v).2 q j = _
    rw [rf_ul_ne (by omega), rf_ul_ne (by omega)]
    rfl
theorem RelC.acc (hn0 : ¬ n = 0) (hR : RelC th B b xl σ (fN f) A G T) (hI : PI (fN f) G k) (hx : (f.1 35 0).toInt = (x : Int)) (hx16 : x < 16) (ha1 : al_at th B σ' T' (B + 7) E' 73 ((List.range x).map (A 10) ++ [σ.2.1])) (ha2 : σ'.1 σ.2.1 = some (.inr (10, [.long n, .long v, .long 0, .long 0]))) (ha3 : T' σ.2.1 = 3000 + x) (hch : chg (fun a => a = B + 7 ∨ (a = A 70 3 ∧ B + 102 ≤ a)) σ σ' T T') (hr : σ.2.1 + 1 ≤ σ'.2.1) : RelC th B b xl σ' (fN (R_acc f x n v)) (fun k i => if k = 10 ∧ i = x then σ.2.1 else if k = 70 ∧ i = 3 then E' else A k i) G T' := by
  have o := R_acc_o (f := f) (x := x) (n := n) (v := v)
  have l := R_acc_l (f := f) (x := x) (n := n) (v := v)
  have hxf : ((fN f).1 35 0).toInt = (x : Int) := hx
  have hB := hR.1.2.2.2.2.1
  have hx35 : ((fN (R_acc f x n v)).1 35 0).toInt = ((x + 1 : Nat) : Int) := by
    have e : (fN (R_acc f x n v)).1 35 0 = f.1 35 0 + 1 := by
      rw [fN_i rfl]
      unfold R_acc
      exact rf_ui_eq
    rw [e, i32_add (c := 1) hx (by decide) (by omega) (by omega)]
    omega
  have hE : ∀ a t, dy B σ T a t → t ≠ 73 → ¬ (a = B + 7 ∨ (a = A 70 3 ∧ B + 102 ≤ a)) := by
    intro a t hd ht hw
    have h1 := hd.1
    rcases hw with hw | ⟨hw, -⟩
    · omega
    · obtain ⟨n', e1, e2, ⟨-, e3⟩, e4⟩ := hR.2.2.2.2.2.2.1
      rcases e3 with ⟨e3, -⟩ | ⟨e3, -⟩
      · have := hR.1.2.2.2.1 1 (by omega)
        omega
      · have h2 := e3.2.2
        rw [← hw, hd.2.2] at h2
        exact ht h2
  have nA : ∀ q i, q ≠ 10 → ¬ (q = 70 ∧ i = 3) → (if q = 10 ∧ i = x then σ.2.1 else if q = 70 ∧ i = 3 then E' else A q i) = A q i := fun q i h1 h2 => by rw [if_neg (fun e => h1 e.1), if_neg h2]
  have nA10 : ∀ i, i ≠ x → (if 10 = 10 ∧ i = x then σ.2.1 else if 10 = 70 ∧ i = 3 then E' else A 10 i) = A 10 i := fun i h1 => by rw [if_neg (fun e => h1 e.2), if_neg (by omega)]
  have hX : σ'.1 B = some (cx_e B (fN (R_acc f x n v)) (A 0 0) (G 0 0)) := by
    rw [hch.1 B (by omega) (by rintro (e | e) <;> omega), hR.1.2.2.2.2.2.1]
    unfold cx_e
    rw [o 4 0 (by omega), o 1 0 (by omega), o 34 0 (by omega)]
  have hlow : ∀ a, a < B → ¬ (a = B + 7 ∨ (a = A 70 3 ∧ B + 102 ≤ a)) := fun a ha e => by rcases e with e | e <;> omega
  have hfix : ∀ a, a < B + 102 → a ≠ B + 7 → ¬ (a = B + 7 ∨ (a = A 70 3 ∧ B + 102 ≤ a)) := fun a h1 h2 e => by rcases e with e | e <;> omega
  refine ⟨hR.1.mv hch hlow ⟨hfix _ (by omega) (by omega), hfix _ (by omega) (by omega), hfix _ (by omega) (by omega), hfix _ (by omega) (by omega)⟩ (fun a hd => hE a _ hd (by omega)) ?_ (fun q j q1 q2 => o q j (by omega)) (nA 0 0 (by omega) (by omega)), hR.2.1.mv hch hB ⟨hfix _ (by omega) (by omega), hfix _ (by omega) (by omega), hfix _ (by omega) (by omega)⟩ (fun a hd => hE a _ hd (by omega)) (fun q j hq => o q j (by omega)) (nA 4 0 (by omega) (by omega)), fun c hc => (hR.2.2.1 c hc).mv hc hch hB ⟨hfix _ (by omega) (by omega), hfix _ (by omega) (by omega), hfix _ (by omega) (by omega)⟩ (fun a t hd ht => hE a t hd (by omega)) (fun q hq => o q _ (by simp only [List.mem_cons, List.not_mem_nil, or_false] at hq; omega)) (fun j hj => o 29 _ (by omega)) (fun j hj => o 31 _ (by omega)) ⟨nA 51 c (by omega) (by omega), nA 52 c (by omega) (by omega), fun i => nA 6 i (by omega) (by omega)⟩ rfl, hR.2.2.2.1.mv hch hB (hfix _ (by omega) (by omega)) (fun a t hd ht => hE a t hd (by omega)) (fun q j q1 q2 => o q j (by omega)) (fun q i hq => nA q i (by omega) (by omega)) (fun _ => rfl), hR.2.2.2.2.1.mv hch hB (hfix _ (by omega) (by omega)) (fun a t hd ht => hE a t hd (by omega)) (fun q j hq => o q j (by simp only [List.mem_cons, List.not_mem_nil, or_false] at hq; omega)) (fun j => l 53 j (by omega) (by omega)) (fun q i hq => nA q i (by omega) (by omega)), hR.2.2.2.2.2.1.mv hch hB (hfix _ (by omega) (by omega)) (fun a t hd ht => hE a t hd (by omega)) (fun q j q1 q2 => o q j (by omega)) (fun q i hq => nA q i (by omega) (by omega)), ?_, hR.2.2.2.2.2.2.2.mv hch hB (hfix _ (by omega) (by omega)) (fun a t hd ht => hE a t hd (by omega)) (fun q j q1 q2 => o q j (by omega)) (fun q j hq => l q j (by omega) (by omega)) (by rw [o 7 0 (by omega)]; exact Int.le_refl _) (by rw [hx35, hxf]; omega) (fun q i hq => nA q i (by omega) (by omega)) (fun i hi => nA10 i (by omega)) (fun i hi => nA 6 i (by omega) (by omega))⟩
  · exact hX
  · obtain ⟨n', e1, e2, -, e4⟩ := hR.2.2.2.2.2.2.1
    have en : n' = x := by omega
    subst en
    obtain ⟨-, -, -, -, -, -, -, -, -, -, -, ⟨x2, g1, g2⟩, -⟩ := hI
    have ex2 : x2 = n' := by omega
    subst ex2
    refine ⟨x2 + 1, hx35, by omega, ?_, fun i hi => ?_⟩
    · have em : (List.range (x2 + 1)).map (fun i => if 10 = 10 ∧ i = x2 then σ.2.1 else if 10 = 70 ∧ i = 3 then E' else A 10 i) = (List.range x2).map (A 10) ++ [σ.2.1] := by
        rw [List.range_succ, List.map_append]
        congr 1
        · refine List.map_congr_left (fun i hi => nA10 i ?_)
          have := List.mem_range.mp hi
          omega
        · show [if 10 = 10 ∧ x2 = x2 then σ.2.1 else _] = _
          rw [if_pos ⟨rfl, rfl⟩]
      show al_at th B σ' T' (B + 7) (if 70 = 10 ∧ 3 = x2 then _ else if 70 = 70 ∧ 3 = 3 then E' else _) 73 ((List.range (x2 + 1)).map (fun i => if 10 = 10 ∧ i = x2 then σ.2.1 else if 10 = 70 ∧ i = 3 then E' else A 10 i))
      rw [em, if_neg (by omega), if_pos ⟨rfl, rfl⟩]
      exact ha1
    · show dy B σ' T' (if 10 = 10 ∧ i = x2 then σ.2.1 else if 10 = 70 ∧ i = 3 then E' else A 10 i) (3000 + i) ∧ σ'.1 (if 10 = 10 ∧ i = x2 then σ.2.1 else if 10 = 70 ∧ i = 3 then E' else A 10 i) = some (ca_e (fN (R_acc f x2 n v)) i) ∧ ¬ (fN (R_acc f x2 n v)).2 36 i = 0
      by_cases e : i = x2
      · rw [if_pos ⟨rfl, e⟩, e]
        have e36' : (fN (R_acc f x2 n v)).2 36 x2 = n := by
          rw [fN_l rfl]
          exact (rf_ul_ne (f := rf_ul (rf_ui f 0 0 0) 36 x2 n) (k := 37) (j := x2) (a := 36) (c := x2) (x := v) (by omega)).trans (rf_ul_eq (f := rf_ui f 0 0 0))
        refine ⟨⟨hB, by omega, ha3⟩, ?_, by rw [e36']; exact hn0⟩
        rw [ha2]
        unfold ca_e
        have z := g2 x2 (Nat.le_refl _) hx16
        rw [l 38 x2 (by omega) (by omega), l 39 x2 (by omega) (by omega), z.1, z.2, fN_l rfl, fN_l rfl]
        unfold R_acc
        have e36 : (rf_ui (rf_ul (rf_ul (rf_ui f 0 0 0) 36 x2 n) 37 x2 v) 35 0 (f.1 35 0 + 1)).2 36 x2 = n := (rf_ul_ne (f := rf_ul (rf_ui f 0 0 0) 36 x2 n) (k := 37) (j := x2) (a := 36) (c := x2) (x := v) (by omega)).trans (rf_ul_eq (f := rf_ui f 0 0 0))
        have e37 : (rf_ui (rf_ul (rf_ul (rf_ui f 0 0 0) 36 x2 n) 37 x2 v) 35 0 (f.1 35 0 + 1)).2 37 x2 = v := rf_ul_eq
        rw [e36, e37]
      · rw [nA10 i e]
        obtain ⟨d1, d2, d0⟩ := e4 i (by omega)
        refine ⟨hch.mv d1, ?_, by rw [l 36 i (by omega) (by omega)]; exact d0⟩
        rw [hch.eqv d1 (hE _ _ d1 (by omega)), d2]
        unfold ca_e
        rw [l 36 i (by omega) (by omega), l 37 i (by omega) (by omega), l 38 i (by omega) (by omega), l 39 i (by omega) (by omega)]
theorem PI.acc (hI : PI (fN f) G k) (hx : (f.1 35 0).toInt = (x : Int)) (hx16 : x < 16) (hbad : ¬ acBad n v) : PI (fN (R_acc f x n v)) G k := by
  have o := R_acc_o (f := f) (x := x) (n := n) (v := v)
  have l := R_acc_l (f := f) (x := x) (n := n) (v := v)
  have hxf : ((fN f).1 35 0).toInt = (x : Int) := hx
  have hx35 : ((fN (R_acc f x n v)).1 35 0).toInt = ((x + 1 : Nat) : Int) := by
    have e : (fN (R_acc f x n v)).1 35 0 = f.1 35 0 + 1 := by
      rw [fN_i rfl]
      unfold R_acc
      exact rf_ui_eq
    rw [e, i32_add (c := 1) hx (by decide) (by omega) (by omega)]
    omega
  have hI0 := hI
  obtain ⟨n', a, hg, -, -, -, -, -, -, -, -, ⟨x2, g1, g2⟩, -, -, -, -, ⟨x3, m, m1, m2, m3, m4⟩⟩ := hI
  have ex2 : x2 = x := by omega
  have ex3 : x3 = x := by omega
  subst ex2 ex3
  refine hI0.of' ⟨?_, fun c hc => ?_⟩ (fun q j hq => o q j (by simp only [List.mem_cons, List.not_mem_nil, or_false] at hq; omega)) (fun j => l 53 j (by omega) (by omega)) ⟨x3 + 1, hx35, fun i i1 i2 => ?_⟩ ⟨x3 + 1, m, hx35, by rw [o 40 0 (by omega)]; exact m2, fun s hs => ?_, fun i hi => ?_⟩
  · rw [o 6 0 (by omega)]; exact hg.1.1
  · rw [o 33 c (by omega), o 32 c (by omega)]; exact hg.1.2 c hc
  · rw [l 38 i (by omega) (by omega), l 39 i (by omega) (by omega)]; exact g2 i (by omega) i2
  · rw [o 44 s (by omega), l 45 s (by omega) (by omega)]
    obtain ⟨i, e1, e2, e3⟩ := m3 s hs
    exact ⟨i, e1, by omega, e3⟩
  · rw [l 38 i (by omega) (by omega), msum_eq (f := fN f) (fun s hs => o 44 s (by omega)) (fun s hs => l 45 s (by omega) (by omega))]
    by_cases e : i = x3
    · have z : (fN f).2 38 i = 0 := (g2 i (by omega) (by omega)).1
      have e37 : (fN (R_acc f x3 n v)).2 37 i = v := by
        rw [fN_l rfl, e]
        unfold R_acc
        exact rf_ul_eq
      have hb2 : ¬ lg_cmp v 0 < 0 := fun h => hbad (Or.inr (Or.inr (Or.inl h)))
      have hb3 : ¬ 0 < lg_cmp v 1152921504606846976 := fun h => hbad (Or.inr (Or.inr (Or.inr h)))
      rw [e37, z, msum_no (fun s hs h => ?_)]
      · refine ⟨?_, ?_, rfl, ?_⟩
        · exact lg_ge0 hb2
        · exact lg_leT hb3
        · exact lg_ge0 hb2
      · obtain ⟨i', e1, e2, e3⟩ := m3 s hs
        omega
    · rw [l 37 i (by omega) (by omega)]
      exact m4 i (by omega)
theorem pair_account (hR : Rel th B b xl σ f A G T) (hI : PI (fN f) G k) (h1 : σ.2.1 + 2 * ngr A B 8 ≤ B + 118 + 100 * k) (h2 : σ.2.2 + 2600 * ngr A B 8 ≤ 81000 + 13000 * k) (hQ : KQ f) : lawp_15 th b B (B + 39) xl σ (Inv th B b xl (k + 1)) := by
  intro n v
  have hX := hR.2.1.2.2.2.2.2.1
  have hL := hR.2.1.2.2.2.2.2.2.2.2.2.1
  have hB := hR.2.1.2.2.2.2.1
  obtain ⟨x, hx, hx16, hal, ha⟩ := hR.2.2.2.2.2.2.2.1
  have hx : (f.1 35 0).toInt = (x : Int) := hx
  have hr := fun σ0 => r_account (th := th) (σ0 := σ0) (m := B + 39) (d := 28) (n := n) (b := v) hx hx16
  by_cases hbad : acBad n v
  · refine pair_look (w := -2) rfl hR (inv_look hR hI h1 h2 hQ) ((k_account_bad (d := 0) hbad).up (by omega)) (fun σ0 => (hr σ0).mp ?_)
    rintro r f1 (⟨-, h3, h4⟩ | ⟨h3, -⟩)
    · exact ⟨h3, h4⟩
    · exact absurd hbad h3
  · have eR : R_ac (fN f) n x 0 = R_ac f n x 0 := R_ac_N x 0
    by_cases hno : R_ac f n x 0 ≠ 16
    · refine pair_look (w := -3) rfl hR (inv_look hR hI h1 h2 hQ) (((k_account_no (d := 0) hX hL hx16 hal (fun i hi => (ha i hi).2.1) hbad (Or.inl (by rw [eR]; exact hno))).up (by omega)).mp ?_) (fun σ0 => (hr σ0).mp ?_)
      · rintro r σ1 ⟨⟨-, h3⟩ | ⟨h3, -⟩, h4⟩
        · exact ⟨h3, h4⟩
        · exact absurd h3 (by rw [eR]; exact hno)
      · rintro r f1 (⟨h3, -⟩ | ⟨-, ⟨-, h3, h4⟩ | ⟨h3, -⟩⟩)
        · exact absurd h3 hbad
        · exact ⟨h3, h4⟩
        · exact absurd h3 hno
    · have hno : R_ac f n x 0 = 16 := Decidable.not_not.mp hno
      by_cases h16 : x = 16
      · refine pair_look (w := -4) rfl hR (inv_look hR hI h1 h2 hQ) (((k_account_no (d := 0) hX hL hx16 hal (fun i hi => (ha i hi).2.1) hbad (Or.inr h16)).up (by omega)).mp ?_) (fun σ0 => (hr σ0).mp ?_)
        · rintro r σ1 ⟨⟨h3, -⟩ | ⟨-, h3⟩, h4⟩
          · exact absurd hno (by rw [eR] at h3; exact h3)
          · exact ⟨h3, h4⟩
        · rintro r f1 (⟨h3, -⟩ | ⟨-, ⟨h3, -⟩ | ⟨-, ⟨-, h3, h4⟩ | ⟨h3, -⟩⟩⟩)
          · exact absurd h3 hbad
          · exact absurd hno h3
          · exact ⟨h3, h4⟩
          · omega
      · have hlt : x < 16 := by omega
        have hth := hR.2.1.2.2.2.1 1 (by omega)
        have hS := hR.2.1.2.2.1.2.1
        refine pair_i (w := Int32.ofNat (x + 1)) (f := f) (f' := R_acc f x n v) rfl (((k_account (d := 0) hX hL hB hth hS hlt hal (fun i hi => ⟨(ha i hi).1, (ha i hi).2.1⟩) hbad (by rw [eR]; exact hno)).up (by omega)).mp ?_) (fun σ0 => (hr σ0).mp ?_)
        · rintro r σ1 ⟨rfl, E', T', a1, a2, a3, a4, a5, a6, a7⟩
          have hRC := RelC.acc (k := k) (fun z => hbad (Or.inl (by rw [z]; decide))) hR.2 hI hx hlt a1 a2 a3 a4 a5
          have hrf : σ1 = rf σ1 (B + 39) f := rf_keep hR.1 (fun u u1 u2 => a4.1 u (by omega) (fun e => by rcases e with e | e <;> omega))
          have hng : ngr (fun k i => if k = 10 ∧ i = x then σ.2.1 else if k = 70 ∧ i = 3 then E' else A k i) B 8 = ngr A B 8 := ngr_eq (fun c => by rw [if_neg (by omega), if_neg (by omega)]) 8
          refine ⟨rfl, hrf, (show σ.2.1 ≤ σ1.2.1 by omega), _, G, T', hRC, R_acc f x n v, _, G, T', ⟨rf_rf.symm, hRC.rf⟩, (hI.acc hx hlt hbad).up, ?_, ?_, hQ.of (fun q j hq => by unfold R_acc; rw [rf_ui_ne (by omega)]; exact rf_ui_ne (by omega))⟩
          · show σ1.2.1 + 2 * ngr _ B 8 ≤ _
            rw [hng]; omega
          · show σ1.2.2 + 2600 * ngr _ B 8 ≤ _
            rw [hng]; omega
        · rintro r f1 (⟨h3, -⟩ | ⟨-, ⟨h3, -⟩ | ⟨-, ⟨h3, -⟩ | ⟨-, h3, h4⟩⟩⟩)
          · exact absurd h3 hbad
          · exact absurd hno h3
          · omega
          · refine ⟨?_, h4⟩
            rw [h3, i32_eq (x := f.1 35 0 + 1) (n := x + 1) (by rw [i32_add (c := 1) hx (by decide) (by omega) (by omega)]; omega) (by omega)]
end JxAccount4
