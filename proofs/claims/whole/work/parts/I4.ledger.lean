/-! THE LEDGER: a SESSION is released, removed -/
def R_acn (f : jx_F) (s : Nat) : Nat := (f.1 44 s).toNatClampNeg
/-- what is reserved for a SESSION is free again -/
def R_rsv (f : jx_F) (s : Nat) : jx_F := rf_ul f 38 (R_acn f s) (f.2 38 (R_acn f s) - f.2 45 s)
def R_rel (f : jx_F) (s : Nat) : jx_F := rf_ul (R_rsv f s) 45 s 0
section JxLedger
variable {th : Nat → Nat} {B b m d s n ac : Nat} {xl : List Int32} {σ σ' σ0 : jx_S} {f f' : jx_F} {A A' : Nat → Nat → Nat} {G : Nat → Nat → Int32} {T T' : Nat → Nat} {W : Nat → Prop}
theorem i64_sub {i q : Int64} {a c : Int} (hi : i.toInt = a) (hq : q.toInt = c) (h1 : -9223372036854775808 ≤ a - c) (h2 : a - c < 9223372036854775808) : (i - q).toInt = a - c := by
  rw [Int64.toInt_sub, hi, hq]
  unfold Int.bmod
  have e : ((2 ^ 64 : Nat) : Int) = 18446744073709551616 := by decide
  rw [e]
  simp only
  split <;> omega
theorem i64_add {i q : Int64} {a c : Int} (hi : i.toInt = a) (hq : q.toInt = c) (h1 : -9223372036854775808 ≤ a + c) (h2 : a + c < 9223372036854775808) : (i + q).toInt = a + c := by
  rw [Int64.toInt_add, hi, hq]
  unfold Int.bmod
  have e : ((2 ^ 64 : Nat) : Int) = 18446744073709551616 := by decide
  rw [e]
  simp only
  split <;> omega
/-- one SESSION and its ACCOUNT change -/
theorem RelC.sa (hR : RelC th B b xl σ f A G T) (hm : (f.1 40 0).toInt = (m : Int)) (hs : s < m) (hac : (ac : Int) < (f.1 35 0).toInt) (hch : chg W σ σ' T T') (hW : ∀ a, W a → a = A 8 s ∨ a = A 10 ac) (hS1 : rl_s1 B σ' f' A' T' s) (hA1 : σ'.1 (A 10 ac) = some (ca_e f' ac))
    (hf : ∀ q j, ¬ ((q = 41 ∨ q = 42 ∨ q = 43) ∧ 41 * s ≤ j ∧ j < 41 * s + 41) → ¬ ((q = 44 ∨ q = 47 ∨ q = 48) ∧ j = s) → q < 65 → q ≠ 0 → q ≠ 2 → f'.1 q j = f.1 q j) (hl : ∀ q j, ¬ ((q = 45 ∨ q = 46) ∧ j = s) → ¬ ((37 ≤ q ∧ q ≤ 39) ∧ j = ac) → f'.2 q j = f.2 q j) (hA : ∀ q i, ¬ ((q = 81 ∨ q = 82 ∨ q = 83) ∧ i = s) → A' q i = A q i) : RelC th B b xl σ' f' A' G T' := by
  have hB := hR.1.2.2.2.2.1
  obtain ⟨x, a1, a2, a3, a4⟩ := id hR.2.2.2.2.2.2.1
  obtain ⟨n, s1, s2, s3, s4, s5⟩ := id hR.2.2.2.2.2.2.2
  have en : n = m := by omega
  rw [en] at s3 s4 s5
  have d8 := (s5 s hs).1
  have d10 := (a4 ac (by omega)).1
  have nw : ∀ a t, dy B σ T a t → t ≠ 8 → t ≠ 3000 + ac → ¬ W a := fun a t h1 h2 h3 h => by
    rcases hW a h with e | e
    · rw [e] at h1; exact absurd h1.2.2 (by rw [d8.2.2]; omega)
    · rw [e] at h1; exact absurd h1.2.2 (by rw [d10.2.2]; omega)
  have lo : ∀ a, a < B + 102 → ¬ W a := fun a h1 h => by
    have := d8.1
    have := d10.1
    rcases hW a h with e | e <;> omega
  have k0 : ∀ q j, q < 65 → q ≠ 0 → q ≠ 2 → ¬ (41 ≤ q ∧ q ≤ 48) → f'.1 q j = f.1 q j := fun q j z1 z2 z3 z4 => hf q j (by omega) (by omega) z1 z2 z3
  refine hR.ses hch (fun a h => ?_) (fun q j z1 z2 z3 z4 => k0 q j z2 z3 z4 (by omega)) (fun j => hl 53 j (by omega) (by omega)) (fun q i z => hA q i (by omega)) ⟨x, by rw [k0 35 0 (by omega) (by omega) (by omega) (by omega)]; exact a1, a2, ?_, fun i hi => ?_⟩ ⟨m, by rw [k0 40 0 (by omega) (by omega) (by omega) (by omega)]; exact hm, by omega, ?_, fun k k' k1 k2 k3 => ?_, fun k hk => ?_⟩
  · rcases hW a h with e | e
    · exact Or.inr ⟨8, by rw [e]; exact d8, Or.inr (Or.inl rfl)⟩
    · exact Or.inr ⟨3000 + ac, by rw [e]; exact d10, Or.inr (Or.inr ⟨by omega, by omega⟩)⟩
  · have := hch.al (by omega) (lo _ (by omega)) (fun a z => nw a _ z (by omega) (by omega)) a3
    rw [hA 70 3 (by omega), show (List.range x).map (A' 10) = (List.range x).map (A 10) from List.map_congr_left (fun i _ => hA 10 i (by omega))]
    exact this
  · rw [hA 10 i (by omega)]
    obtain ⟨e1, e2, e0⟩ := a4 i hi
    refine ⟨hch.mv e1, ?_, by rw [hl 36 i (by omega) (by omega)]; exact e0⟩
    by_cases e : i = ac
    · rw [e]; exact hA1
    · rw [hch.eqv e1 (nw _ _ e1 (by omega) (by omega)), e2]
      unfold ca_e
      rw [hl 36 i (by omega) (by omega), hl 37 i (by omega) (by omega), hl 38 i (by omega) (by omega), hl 39 i (by omega) (by omega)]
  · have := hch.al (by omega) (lo _ (by omega)) (fun a z => nw a _ z (by omega) (by omega)) s3
    rw [hA 70 4 (by omega), show (List.range m).map (A' 8) = (List.range m).map (A 8) from List.map_congr_left (fun i _ => hA 8 i (by omega))]
    exact this
  · rw [hA 8 k (by omega), hA 8 k' (by omega)] at k3
    exact s4 k k' k1 k2 k3
  · by_cases e : k = s
    · rw [e]; exact hS1
    · refine (s5 k hk).sh hch (fun z => ?_) (fun a z => nw a _ z (by omega) (by omega)) (fun q hq => hf q k (by omega) (by omega) (by omega) (by omega) (by omega)) (fun q hq => hl q k (by omega) (by omega)) (fun q j hq hj => Or.inl (hf q _ (by omega) (by omega) (by omega) (by omega) (by omega))) (by rw [k0 7 0 (by omega) (by omega) (by omega) (by omega)]; exact Int.le_refl _) (by rw [k0 35 0 (by omega) (by omega) (by omega) (by omega)]; exact Int.le_refl _) (fun q hq => hA q k (by omega)) (fun i => hA 10 i (by omega)) (fun i => hA 6 i (by omega))
      rcases hW _ z with z | z
      · exact e (s4 k s hk hs z)
      · have := (s5 k hk).1.2.2
        rw [z, d10.2.2] at this
        omega
/-- what a SESSION has of the heap -/
theorem RelC.sob (hR : RelC th B b xl σ f A G T) (hm : (f.1 40 0).toInt = (m : Int)) (hs : s < m) : ((R_acn f s : Nat) : Int) < (f.1 35 0).toInt ∧ (f.1 44 s).toInt = ((R_acn f s : Nat) : Int) ∧ σ.1 (A 8 s) = some (cs_e f A s) ∧ σ.1 (A 10 (R_acn f s)) = some (ca_e f (R_acn f s)) ∧ A 8 s ≠ A 10 (R_acn f s) ∧ B + 102 ≤ A 8 s ∧ B + 102 ≤ A 10 (R_acn f s) ∧ A 8 s < σ.2.1 ∧ A 10 (R_acn f s) < σ.2.1 := by
  obtain ⟨r1, r2, ⟨i, r3, r4⟩, -⟩ := hR.se (s := s) (by omega)
  have e : R_acn f s = i := i32_nat r3
  obtain ⟨x, a1, a2, a3, a4⟩ := id hR.2.2.2.2.2.2.1
  obtain ⟨a5, a6, -⟩ := a4 i (by omega)
  rw [e]
  refine ⟨by omega, r3, r2, a6, fun z => ?_, r1.1, a5.1, r1.2.1, a5.2.1⟩
  have h1 := r1.2.2
  rw [z, a5.2.2] at h1
  omega
theorem k_release (hR : RelC th B b xl σ f A G T) (hm : (f.1 40 0).toInt = (m : Int)) (hs : s < m) : jc th (d + 1) 145 [.ref (A 8 s)] σ (fun r σ' => r = none ∧ RelC th B b xl σ' (R_rel f s) A G T ∧ kp B σ σ' ∧ ∀ q, q ≠ A 8 s → q ≠ A 10 (R_acn f s) → σ'.1 q = σ.1 q) := by
  obtain ⟨b1, b2, b3, b4, b5, b6, b7, b8, b9⟩ := hR.sob hm hs
  have hrs := hR.se (s := s) (by omega)
  obtain ⟨ac, hac⟩ : ∃ ac, ac = R_acn f s := ⟨_, rfl⟩
  have b3' : σ.1 (A 8 s) = some (.inr (8, [.ref (A 81 s), .ref (A 10 ac), .long (f.2 45 s), .long (f.2 46 s), .ref (A 82 s), .ref (A 83 s), va_rf (cp_ref A (f.1 47 s)), .int (f.1 48 s)])) := by rw [b3, hac]; rfl
  rw [← hac] at b1 b2 b4 b5 b7 b9
  have oF : (R_rel f s).1 = f.1 := rfl
  have lF : ∀ q j, ¬ (q = 45 ∧ j = s) → ¬ (q = 38 ∧ j = ac) → (R_rel f s).2 q j = f.2 q j := fun q j z1 z2 => by
    unfold R_rel R_rsv
    rw [rf_ul_ne z1, rf_ul_ne (by rw [← hac]; exact z2)]
  have v45 : (R_rel f s).2 45 s = 0 := rf_ul_eq
  have v38 : (R_rel f s).2 38 ac = f.2 38 ac - f.2 45 s := by
    unfold R_rel R_rsv
    rw [rf_ul_ne (by omega), ← hac, rf_ul_eq]
  refine cl_go dt_145 60 [] dt_145_k rfl ?_
  intro C J hC hJ
  conv => whnf
  refine ⟨_, jx_getF_of (b3') rfl, ?_⟩
  conv => whnf
  refine ⟨_, jx_getF_of (b4) rfl, ?_⟩
  conv => whnf
  refine ⟨_, jx_getF_of (b3') rfl, ?_⟩
  conv => whnf
  refine putK b4 rfl (fit_l _) (fun s1 p1 o1 n1 => ?_)
  conv => whnf
  have c3 := (o1 _ b5).trans b3'
  refine putK c3 rfl (fit_l _) (fun s2 p2 o2 n2 => ?_)
  conv => whnf
  have hch : chg (fun a => a = A 8 s ∨ a = A 10 ac) σ s2 T T := ⟨fun a _ hw => (o2 a (fun z => hw (Or.inl z))).trans (o1 a (fun z => hw (Or.inr z))), by rw [n2, n1]; exact Nat.le_refl _, fun _ _ => rfl⟩
  refine ⟨rfl, hR.sa (ac := ac) hm hs b1 hch (fun a h => h) ?_ ?_ (fun q j _ _ _ _ _ => by rw [oF]) (fun q j z1 z2 => lF q j (by omega) (by omega)) (fun _ _ _ => rfl), ⟨by rw [n2, n1], fun a z1 z2 => (o2 a (by omega)).trans (o1 a (by omega))⟩, fun q z1 z2 => (o2 q z1).trans (o1 q (by rw [hac]; exact z2))⟩
  · obtain ⟨q1, q2, q3, q4, ⟨k5, q5, q6, q7⟩, ⟨k8, q8, q9, q10⟩, ⟨k11, q11, q12, q13⟩⟩ := hrs
    have nw : ∀ a, dy B σ T a 81 → ¬ (a = A 8 s ∨ a = A 10 ac) := fun a hd z => by
      rcases z with z | z
      · have h1 := q1.2.2
        rw [← z, hd.2.2] at h1
        omega
      · obtain ⟨x, a1, a2, a3, a4⟩ := id hR.2.2.2.2.2.2.1
        have h1 := (a4 ac (by omega)).1.2.2
        rw [← z, hd.2.2] at h1
        omega
    refine ⟨hch.mv q1, ?_, q3, q4, ⟨k5, q5, q6, hch.ro nw q7⟩, ⟨k8, q8, q9, hch.ro nw q10⟩, ⟨k11, q11, q12, hch.ro nw q13⟩⟩
    rw [p2]
    unfold cs_e
    rw [oF, v45, lF 46 s (by omega) (by omega), show (f.1 44 s).toNatClampNeg = ac by rw [hac]; rfl]
    rfl
  · rw [(o2 _ (fun z => b5 z.symm)), p1]
    unfold ca_e
    rw [v38, lF 36 ac (by omega) (by omega), lF 37 ac (by omega) (by omega), lF 39 ac (by omega) (by omega)]
    rfl
/-- a SESSION is removed from the list -/
theorem k_rmS {i : Int32} (hR : RelC th B b xl σ f A G T) (hm : (f.1 40 0).toInt = (m : Int)) (hs : s < m) (hi : i.toInt = (s : Int)) : jc th (d + 3) 115 [.ref (B + 8), .int i] σ (fun r σ' => (∃ x, r = some (.ref x)) ∧ ∃ A', RelC th B b xl σ' (R_forget f m s) A' G T ∧ (∀ q i, ¬ (q = 8 ∨ q = 81 ∨ q = 82 ∨ q = 83) → A' q i = A q i) ∧ kp B σ σ' ∧ ∀ q, q ≠ B + 8 → q ≠ A 70 4 → σ'.1 q = σ.1 q) := by
  obtain ⟨x, a1, a2, a3, a4⟩ := id hR.2.2.2.2.2.2.1
  obtain ⟨n0, m1, m2, hal, hinj, hse⟩ := id hR.2.2.2.2.2.2.2
  have en : n0 = m := by omega
  rw [en] at hal hinj hse m2
  have hB := hR.1.2.2.2.2.1
  refine (k_remove (d := d) (k := s) (x := A 8 s) hal (by omega) hi (by simp [hs]) (fun j y hy => ?_)).mp ?_
  · obtain ⟨hj, e⟩ := List.getElem?_eq_some_iff.mp hy
    rw [List.length_map, List.length_range] at hj
    have e2 : A 8 j = y := by simpa using e
    obtain ⟨q1, q2, -⟩ := hse j hj
    rw [e2] at q1 q2
    exact ⟨by have := q1.1; omega, _, _, q2, by decide⟩
  · rintro r σ1 ⟨rfl, h1, h2, h3⟩
    obtain ⟨A', hA'⟩ : ∃ A' : Nat → Nat → Nat, A' = fun q i => if (q = 8 ∨ q = 81 ∨ q = 82 ∨ q = 83) ∧ s ≤ i then A q (i + 1) else A q i := ⟨_, rfl⟩
    have a9 : ∀ q i, (q = 8 ∨ q = 81 ∨ q = 82 ∨ q = 83) → s ≤ i → A' q i = A q (i + 1) := fun q i h hi => by rw [hA']; exact if_pos ⟨h, hi⟩
    have aO : ∀ q i, ¬ ((q = 8 ∨ q = 81 ∨ q = 82 ∨ q = 83) ∧ s ≤ i) → A' q i = A q i := fun q i h => by rw [hA']; exact if_neg h
    have hE : A 70 4 ≠ th 1 ∧ dy B σ T (A 70 4) 74 := by
      rcases hal.2 with ⟨-, e1⟩ | ⟨e1, -⟩
      · have := congrArg List.length e1
        rw [List.length_map, List.length_range] at this
        simp at this
        omega
      · have := hR.1.2.2.2.1 1 (by omega)
        have := e1.1
        exact ⟨by omega, e1⟩
    have hch : chg (fun a => a = B + 8 ∨ a = A 70 4) σ σ1 T T := ⟨fun a _ hw => h2 a (fun z => hw (Or.inl z)) (fun z => hw (Or.inr z)), by rw [h3]; exact Nat.le_refl _, fun _ _ => rfl⟩
    have nw : ∀ a t, dy B σ T a t → t ≠ 74 → ¬ (a = B + 8 ∨ a = A 70 4) := fun a t hd ht z => by
      have := hd.1
      rcases z with z | z
      · omega
      · have h4 := hE.2.2.2
        rw [← z, hd.2.2] at h4
        exact ht h4
    have hE4 := hE.2.1
    refine ⟨⟨_, rfl⟩, A', hR.ses (A' := A') hch (fun a h => ?_) (fun q j z _ _ _ => fg_o z) (fun j => fg_l (by omega)) (fun q i z => aO q i (by omega)) ⟨x, by rw [fg_o (by omega)]; exact a1, a2, ?_, fun i hi => ?_⟩ ⟨m - 1, ?_, by omega, ?_, fun k k' k1 k2 k3 => ?_, fun k hk => ?_⟩, fun q i z => aO q i (by omega), ⟨h3, fun a z1 z2 => h2 a (by omega) (by omega)⟩, h2⟩
    · rcases h with e | e
      · exact Or.inl e
      · exact Or.inr ⟨74, by rw [e]; exact hE.2, Or.inl rfl⟩
    · have := hch.al (by omega) (by omega) (fun a z => nw a _ z (by omega)) a3
      rw [aO 70 3 (by omega), show (List.range x).map (A' 10) = (List.range x).map (A 10) from List.map_congr_left (fun i _ => aO 10 i (by omega))]
      exact this
    · rw [aO 10 i (by omega)]
      obtain ⟨e1, e2, e0⟩ := a4 i hi
      refine ⟨hch.mv e1, ?_, by rw [fg_l (by omega)]; exact e0⟩
      rw [hch.eqv e1 (nw _ _ e1 (by omega)), e2]
      unfold ca_e
      rw [fg_l (by omega), fg_l (by omega), fg_l (by omega), fg_l (by omega)]
    · rw [fg_40]
      exact i32_59 (n := m - 1) (by rw [hm]; omega)
    · have e : ((List.range m).map (A 8)).eraseIdx s = (List.range (m - 1)).map (A' 8) := by
        refine List.ext_getElem? (fun i => ?_)
        rw [List.getElem?_eraseIdx, List.getElem?_map, List.getElem?_map, List.getElem?_map]
        by_cases z : i < s
        · rw [if_pos z, List.getElem?_range (by omega), List.getElem?_range (by omega)]
          show some (A 8 i) = some (A' 8 i)
          rw [aO 8 i (by omega)]
        · rw [if_neg z]
          by_cases z2 : i < m - 1
          · rw [List.getElem?_range (by omega), List.getElem?_range (by omega)]
            show some (A 8 (i + 1)) = some (A' 8 i)
            rw [a9 8 i (by omega) (by omega)]
          · rw [List.getElem?_eq_none (by rw [List.length_range]; omega), List.getElem?_eq_none (by rw [List.length_range]; omega)]
            rfl
      rw [← e, aO 70 4 (by omega)]
      exact h1
    · have inj : ∀ k, k < m - 1 → ∃ j, j < m ∧ A' 8 k = A 8 j ∧ (j = k ∧ k < s ∨ j = k + 1 ∧ s ≤ k) := fun k hk => by
        by_cases z : s ≤ k
        · exact ⟨k + 1, by omega, a9 8 k (by omega) z, Or.inr ⟨rfl, z⟩⟩
        · exact ⟨k, by omega, aO 8 k (by omega), Or.inl ⟨rfl, by omega⟩⟩
      obtain ⟨j, j1, j2, j3⟩ := inj k k1
      obtain ⟨j', j1', j2', j3'⟩ := inj k' k2
      rw [j2, j2'] at k3
      have := hinj j j' j1 j1' k3
      omega
    · by_cases z : s ≤ k
      · exact (hse (k + 1) (by omega)).sh hch (nw _ _ (hse (k + 1) (by omega)).1 (by omega)) (fun a y => nw a _ y (by omega)) (fun q hq => fg_i hq z (by omega)) (fun q hq => fg_2 hq z (by omega)) (fun q j hq hj => Or.inr (fg_4 hq z (by omega) hj)) (by rw [fg_o (by omega)]; exact Int.le_refl _) (by rw [fg_o (by omega)]; exact Int.le_refl _) (fun q hq => a9 q k hq z) (fun i => aO 10 i (by omega)) (fun i => aO 6 i (by omega))
      · exact (hse k (by omega)).sh hch (nw _ _ (hse k (by omega)).1 (by omega)) (fun a y => nw a _ y (by omega)) (fun q hq => fg_io hq (by omega)) (fun q hq => fg_2o hq (by omega)) (fun q j hq hj => Or.inl (fg_4o hq (by omega) hj)) (by rw [fg_o (by omega)]; exact Int.le_refl _) (by rw [fg_o (by omega)]; exact Int.le_refl _) (fun q hq => aO q k (by omega)) (fun i => aO 10 i (by omega)) (fun i => aO 6 i (by omega))
/-- places behind the last SESSION say nothing -/
theorem RelC.tl (hR : RelC th B b xl σ f A G T) (hm : (f.1 40 0).toInt = (m : Int)) (hf : f'.1 = f.1) (hl : ∀ q j, ¬ ((q = 45 ∨ q = 46) ∧ m ≤ j) → f'.2 q j = f.2 q j) : RelC th B b xl σ f' A G T := by
  obtain ⟨x, a1, a2, a3, a4⟩ := id hR.2.2.2.2.2.2.1
  obtain ⟨n0, m1, m2, hal, hinj, hse⟩ := id hR.2.2.2.2.2.2.2
  have hch : chg (fun _ => False) σ σ T T := ⟨fun _ _ _ => rfl, Nat.le_refl _, fun _ _ => rfl⟩
  refine hR.ses hch (fun a h => absurd h (fun z => z)) (fun q j _ _ _ _ => by rw [hf]) (fun j => hl 53 j (by omega)) (fun _ _ _ => rfl) ⟨x, by rw [hf]; exact a1, a2, a3, fun i hi => ?_⟩ ⟨n0, by rw [hf]; exact m1, m2, hal, hinj, fun k hk => (hse k hk).sh hch (fun z => z) (fun _ _ z => z) (fun q _ => by rw [hf]) (fun q hq => hl q k (by omega)) (fun q j _ _ => Or.inl (by rw [hf])) (by rw [hf]; exact Int.le_refl _) (by rw [hf]; exact Int.le_refl _) (fun _ _ => rfl) (fun _ => rfl) (fun _ => rfl)⟩
  obtain ⟨e1, e2, e0⟩ := a4 i hi
  refine ⟨e1, ?_, by rw [hl 36 i (by omega)]; exact e0⟩
  rw [e2]
  unfold ca_e
  rw [hl 36 i (by omega), hl 37 i (by omega), hl 38 i (by omega), hl 39 i (by omega)]
end JxLedger
