/-! THE CLASS reads all attributes -/
section JxMsgread2
variable {th : Nat → Nat} {d dd X R L k n p s D : Nat} {σ σ' σ2 : jx_S} {o h : Nat → Int32} {w z c kv x y av ew dv : Int32} {Q : Option Value → jx_S → Prop} {e : Nat} {ev : Int32}
theorem k_ra_x (hM : MB σ X R L o w z c ev) (hw : ¬ w = 0) (hQ : Q none σ) : cl_fj th D 86 3 [(0, .ref X), (2, .int ew), (3, .int dv), (4, .int av)] [] σ Q := by
  refine cl_at dt_86 40 [] dt_86_k ?_
  intro C J hC hJ
  conv => whnf
  refine ⟨fun (h1 : ew ≤ av) => ?_, fun (h1 : ¬ ew ≤ av) => ?_⟩
  · conv => whnf
    exact hQ
  · conv => whnf
    refine ⟨_, jx_getF_of (hM.1) rfl, ?_⟩
    conv => whnf
    refine jx_yes (hw) ?_
    conv => whnf
    exact hQ
theorem scs_le : ∀ (k d p e s : Nat), (scs o k d p e s).2 ≤ s ∨ (scs o k d p e s).2 < e
  | 0, _, _, _, _ => Or.inl (Nat.le_refl _)
  | k + 1, d, p, e, s => by
    by_cases hep : e ≤ p
    · rw [ss_end hep]; exact Or.inl (Nat.le_refl _)
    · cases hx : ck1 o d p e with
      | some y => rw [ss_flt hep hx]; exact Or.inl (Nat.le_refl _)
      | none =>
        obtain ⟨c1, c2, c3, -⟩ := ck1_ok hx
        by_cases h5 : knd o p = 5
        · have i1 := scs_le k (d + 1) (p + 8) (p + sz o p) s
          by_cases ht : (scs o k (d + 1) (p + 8) (p + sz o p) s).1 = none
          · rw [ss_n5n hep hx h5 ht]
            have i2 := scs_le k d (p + pad (sz o p)) e (scs o k (d + 1) (p + 8) (p + sz o p) s).2
            omega
          · rw [ss_n5s hep hx h5 ht]
            omega
        · rw [ss_nk hep hx h5]
          have i2 := scs_le k d (p + pad (sz o p)) e (if knd o p ≠ 0 ∧ w4 o p = 263 ∧ d = 0 ∧ s = 0 then p else s)
          have : (if knd o p ≠ 0 ∧ w4 o p = 263 ∧ d = 0 ∧ s = 0 then p else s) ≤ s ∨ (if knd o p ≠ 0 ∧ w4 o p = 263 ∧ d = 0 ∧ s = 0 then p else s) < e := by
            split
            · exact Or.inr (by omega)
            · exact Or.inl (Nat.le_refl _)
          omega
theorem one_le (h : ¬ e ≤ p) : (one o k d p e s).2 ≤ s ∨ (one o k d p e s).2 < e := by
  unfold one
  split
  · exact Or.inl (Nat.le_refl _)
  · rename_i hx
    obtain ⟨c1, c2, c3, -⟩ := ck1_ok hx
    split
    · have := scs_le (o := o) k (d + 1) (p + 8) (p + sz o p) s
      omega
    · split
      · exact Or.inr (by omega)
      · exact Or.inl (Nat.le_refl _)
theorem ra_of (hl : ∀ (p e s : Nat) (σ : jx_S) (Q : Option Value → jx_S → Prop), MB σ X R L o 0 0 0 (Int32.ofNat s) → e ≤ L → p ≤ 1000 → p ≠ 0 → s ≤ 1000 → e - p < k → (∀ σ', RS X R L o σ (scs o k d p e s) σ' → Q none σ') → cl_fj th D 86 3 [(0, .ref X), (2, .int (Int32.ofNat e)), (3, .int (Int32.ofNat d)), (4, .int (Int32.ofNat p))] [] σ Q) : RA th X R L o k d (D + 1) := by
  intro p e s σ hM he hp hp0 hs hk
  refine cl_go dt_86 20 [(3, [0, 2, 3, 4])] dt_86_k rfl ?_
  intro C J hC hJ
  conv => whnf
  exact hJ _ _ _ _ (hl p e s σ _ hM he hp hp0 hs hk (fun σ' h => ⟨rfl, h⟩))
theorem k_ra_l : ∀ (k d p e s : Nat) (σ : jx_S) (Q : Option Value → jx_S → Prop), d ≤ 3 → MB σ X R L o 0 0 0 (Int32.ofNat s) → e ≤ L → p ≤ 1000 → p ≠ 0 → s ≤ 1000 → e - p < k → (∀ σ', RS X R L o σ (scs o k d p e s) σ' → Q none σ') → cl_fj th (2 * (3 - d) + dd + 2) 86 3 [(0, .ref X), (2, .int (Int32.ofNat e)), (3, .int (Int32.ofNat d)), (4, .int (Int32.ofNat p))] [] σ Q
  | 0, _, _, _, _, _, _, _, _, _, _, _, _, h, _ => by omega
  | k + 1, d, p, e, s, σ, Q, hd, hM, he, hp, hp0, hs, hk, hQ => by
    have hL := hM.2.1
    have hpi : (Int32.ofNat p).toInt = (p : Int) := i32_ofNat (by omega)
    by_cases hep : e ≤ p
    · rw [ss_end hep] at hQ
      refine cl_at dt_86 60 [] dt_86_k ?_
      intro C J hC hJ
      conv => whnf
      refine jx_yes (show Int32.ofNat e ≤ Int32.ofNat p by rw [nle (by omega) (by omega)]; exact hep) ?_
      conv => whnf
      exact hQ _ (RS.non hM (fun _ _ => rfl) rfl)
    · have hIH : d < 3 → RA th X R L o k (d + 1) (2 * (3 - d) + dd + 1) := fun d3 => by
        have := ra_of (k := k) (d := d + 1) (fun p e s σ Q hM he hp hp0 hs hk hQ => k_ra_l k (d + 1) p e s σ Q (by omega) hM he hp hp0 hs hk hQ)
        rw [show 2 * (3 - (d + 1)) + dd + 2 + 1 = 2 * (3 - d) + dd + 1 by omega] at this
        exact this
      have ko := k_rone (th := th) hIH hM he (p := p) (by omega) hp0 hs hd hk
      rw [scs_one hep] at hQ
      refine cl_at dt_86 60 [(3, [0, 2, 3, 4])] dt_86_k ?_
      intro C J hC hJ
      conv => whnf
      refine jx_no (show ¬ Int32.ofNat e ≤ Int32.ofNat p by rw [nle (by omega) (by omega)]; exact hep) ?_
      conv => whnf
      refine ⟨_, jx_getF_of (hM.1) rfl, ?_⟩
      conv => whnf
      refine jx_no (show ¬ ¬ (0 : Int32) = 0 by decide) ?_
      conv => whnf
      refine ⟨jx_isC_of hM.1, hC _ _ _ _ (ko.mp ?_)⟩
      rintro r s1 ⟨rfl, hrs⟩
      obtain ⟨⟨w, z, c, hr, hM1⟩, hfr, hf2⟩ := hrs
      conv => whnf
      refine ⟨jx_isC_of hM1.1, ?_⟩
      rcases hr with ⟨hr, rfl, rfl, rfl⟩ | ⟨x, hr, rfl, rfl, rfl⟩
      · obtain ⟨c1, c2, c3, -⟩ := ck1_ok (one_n hr)
        have hpd := pad_le (n := sz o p)
        refine hC _ _ _ _ (((k_word (d := 0) (k := p + 4) hM1 (i32_k1 (j := 4) hpi (by decide) (by omega)) (by omega)).up (by omega)).mp ?_)
        rintro r s2 ⟨rfl, hs2⟩
        rw [hs2]
        conv => whnf
        have kp := k_padded (th := th) (d := 0) (σ := s1) (n := sz o p) sz_lt
        rw [← w4_sz, if_neg (by omega)] at kp
        refine hC _ _ _ _ ((kp.up (by omega)).mp ?_)
        rintro r s3 ⟨rfl, hs3⟩
        rw [hs3]
        conv => whnf
        have ea : Int32.ofNat p + Int32.ofNat (pad (sz o p)) = Int32.ofNat (p + pad (sz o p)) := i32_eq (by rw [i32_add hpi (i32_ofNat (by omega)) (by omega) (by omega)]; omega) (by omega)
        rw [show (fun x y : Int32 => x + y) (Int32.ofNat p) (Int32.ofNat (pad (sz o p))) = Int32.ofNat (p + pad (sz o p)) from ea]
        rw [if_pos hr] at hQ
        have ol := one_le (o := o) (k := k) (d := d) (s := s) hep
        refine hJ _ _ _ _ (k_ra_l k d _ _ _ s1 Q hd hM1 he (by omega) (by omega) (by omega) (by omega) (fun σ' h => hQ σ' ⟨h.1, fun q hq => by rw [h.2.1 q hq, hfr q hq], by rw [h.2.2, hf2]⟩))
      · have n0 : ¬ x.1 = 0 := by
          have : (scs o (k + 1) d p e s).1 = some x := by rw [scs_one hep, if_neg (by rw [hr]; simp), hr]
          rcases scs_x _ _ _ _ _ _ this with z | z | z <;> rw [z] <;> decide
        refine hC _ _ _ _ (((k_wordX (d := 0) (k := p + 4) hM1 (i32_k1 (j := 4) hpi (by decide) (by omega))).up (by omega)).mp ?_)
        rintro r s2 ⟨⟨v, rfl⟩, hs2⟩
        rw [hs2]
        conv => whnf
        obtain ⟨m, hm, em⟩ := and24_ex v
        have kp := k_padded (th := th) (d := 0) (σ := s1) (n := m) hm
        rw [← em] at kp
        refine hC _ _ _ _ ((kp.up (by omega)).mp ?_)
        rintro r s3 ⟨rfl, hs3⟩
        rw [hs3]
        conv => whnf
        rw [if_neg (by rw [hr]; simp)] at hQ
        exact hJ _ _ _ _ (k_ra_x hM1 n0 (hQ s1 ⟨⟨_, _, _, Or.inr ⟨x, hr, rfl, rfl, rfl⟩, hM1⟩, hfr, hf2⟩))
theorem k_readAll (hM : MB σ X R L o 0 0 0 0) (hL : 20 ≤ L) : jc th (dd + 9) 86 [.ref X, .int 20, .int (Int32.ofNat L), .int 0] σ (fun r σ' => r = none ∧ RS X R L o σ (scs o 700 0 20 L 0) σ') := by
  have h6 := hM.2.1
  have := ra_of (th := th) (k := 700) (d := 0) (fun p e s σ Q hM he hp hp0 hs hk hQ => k_ra_l (dd := dd) 700 0 p e s σ Q (by omega) hM he hp hp0 hs hk hQ) 20 L 0 σ hM (Nat.le_refl _) (by omega) (by omega) (by omega) (by omega)
  rw [show 2 * (3 - 0) + dd + 2 + 1 = dd + 9 by omega] at this
  exact this
/-- the first one behind the first one -/
theorem fst_2 : ∀ l : List Nat, (∀ q, q ∈ l → q ≠ 0) → fst o x l ≠ 0 → ∀ l1 l2 : List Nat, l = l1 ++ fst o x l :: l2 → (∀ q, q ∈ l1 → hit o x q = false) → (fst o x l2 = 0 ↔ ¬ 1 < cnt o x l) := by
  intro l hl h0 l1 l2 e h1
  have hm := (fst_mem l h0).2
  have hl2 : ∀ q, q ∈ l2 → q ≠ 0 := fun q hq => hl q (by rw [e]; exact List.mem_append_right _ (List.mem_cons_of_mem _ hq))
  rw [fst_0 l2 hl2]
  obtain ⟨a, ha⟩ : ∃ a, a = fst o x l := ⟨_, rfl⟩
  rw [← ha] at e hm
  have c0 : ∀ l1 : List Nat, (∀ q, q ∈ l1 → hit o x q = false) → cnt o x (l1 ++ a :: l2) = 1 + cnt o x l2 := by
    intro l1
    induction l1 with
    | nil =>
      intro _
      show (if hit o x a = true then 1 else 0) + cnt o x l2 = _
      rw [if_pos hm]
    | cons q l1 ih =>
      intro hq
      show (if hit o x q = true then 1 else 0) + cnt o x (l1 ++ a :: l2) = _
      rw [hq q List.mem_cons_self, if_neg (by simp), ih (fun q' h' => hq q' (List.mem_cons_of_mem _ h')), Nat.zero_add]
  rw [e, c0 l1 h1]
  omega
/-- the places behind the first one -/
theorem tps_from : ∀ (k p : Nat), wf o k p e → e - p < k → p ≠ 0 → fst o x (tps o k p e) ≠ 0 → ∃ k' l1, wf o k' (fst o x (tps o k p e) + pad (sz o (fst o x (tps o k p e)))) e ∧ e - (fst o x (tps o k p e) + pad (sz o (fst o x (tps o k p e)))) < k' ∧ tps o k p e = l1 ++ fst o x (tps o k p e) :: tps o k' (fst o x (tps o k p e) + pad (sz o (fst o x (tps o k p e)))) e ∧ ∀ q, q ∈ l1 → hit o x q = false
  | 0, p, _, h, _, _ => by omega
  | k + 1, p, hw, hk, hp, h0 => by
    by_cases hep : e ≤ p
    · rw [tp_end hep] at h0
      exact absurd rfl h0
    · unfold wf at hw
      obtain ⟨a1, a2, a3, a4⟩ := hw.resolve_left hep
      have hpd := pad_le (n := sz o p)
      rw [tp_s hep] at h0 ⊢
      rw [fst_cons] at h0 ⊢
      cases hh : hit o x p with
      | true =>
        rw [if_pos rfl]
        exact ⟨k, [], a4, by omega, rfl, fun q hq => absurd hq List.not_mem_nil⟩
      | false =>
        rw [hh, if_neg (by simp)] at h0
        rw [if_neg (by simp)]
        obtain ⟨k', l1, b1, b2, b3, b4⟩ := tps_from k (p + pad (sz o p)) a4 (by omega) (by omega) h0
        refine ⟨k', p :: l1, b1, b2, ?_, fun q hq => ?_⟩
        · rw [List.cons_append, ← b3]
        · rcases List.mem_cons.mp hq with rfl | hq
          · exact hh
          · exact b4 q hq
theorem k_isTwice (hM : MB σ X R L o w z c ev) (hw : wf o 700 20 L) : jc th (dd + 3) 94 [.ref X, .int x] σ (fun r σ' => ((r = some (.int 1) ∧ 1 < cnt o x (top o L)) ∨ (r = some (.int 0) ∧ ¬ 1 < cnt o x (top o L))) ∧ σ' = σ) := by
  have h6 := hM.2.1
  have hl : ∀ q, q ∈ top o L → q ≠ 0 := fun q hq => by have := (tps_in 700 20 L hw q hq).1; omega
  refine cl_go dt_94 40 [] dt_94_k rfl ?_
  intro C J hC hJ
  conv => whnf
  refine ⟨_, jx_getF_of (hM.1) rfl, ?_⟩
  conv => whnf
  refine ⟨jx_isC_of hM.1, hC _ _ _ _ ((k_find (dd := dd) (k := 700) (p := 20) (x := x) hM (Nat.le_refl L) hw (by omega) (by omega)).mp ?_)⟩
  rintro r s1 ⟨rfl, hs1⟩
  rw [hs1]
  obtain ⟨a, ha⟩ : ∃ a, a = fst o x (tps o 700 20 L) := ⟨_, rfl⟩
  rw [← ha]
  conv => whnf
  by_cases a0 : a = 0
  · refine jx_yes (show Int32.ofNat a = 0 by rw [a0]; rfl) ?_
    conv => whnf
    refine ⟨by decide, Or.inr ⟨rfl, ?_⟩, rfl⟩
    have := (fst_0 (o := o) (c := x) (top o L) hl).mp (by rw [← a0]; exact ha.symm)
    omega
  · have h0 : fst o x (tps o 700 20 L) ≠ 0 := by rw [← ha]; exact a0
    obtain ⟨q1, q2, q3, q4⟩ := tps_in 700 20 L hw a (by rw [ha]; exact (fst_mem _ h0).1)
    obtain ⟨k', l1, b1, b2, b3, b4⟩ := tps_from (x := x) 700 20 hw (by omega) (by omega) h0
    have f2 := fst_2 (o := o) (x := x) (top o L) hl h0 _ _ b3 b4
    rw [← ha] at b1 b2 f2
    have hpd := pad_le (n := sz o a)
    have hai : (Int32.ofNat a).toInt = (a : Int) := i32_ofNat (by omega)
    refine jx_no (show ¬ Int32.ofNat a = 0 from ofN_ne a0 (by omega)) ?_
    conv => whnf
    refine ⟨jx_isC_of hM.1, hC _ _ _ _ (((k_word (d := 0) (k := a + 4) hM (i32_k1 (j := 4) hai (by decide) (by omega)) (by omega)).up (by omega)).mp ?_)⟩
    rintro r s2 ⟨rfl, hs2⟩
    rw [hs2]
    conv => whnf
    have kp := k_padded (th := th) (d := 0) (σ := σ) (n := sz o a) sz_lt
    rw [← w4_sz, if_neg (by omega)] at kp
    refine hC _ _ _ _ ((kp.up (by omega)).mp ?_)
    rintro r s3 ⟨rfl, hs3⟩
    rw [hs3]
    conv => whnf
    refine ⟨_, jx_getF_of (hM.1) rfl, ?_⟩
    conv => whnf
    have ea : Int32.ofNat a + Int32.ofNat (pad (sz o a)) = Int32.ofNat (a + pad (sz o a)) := i32_eq (by rw [i32_add hai (i32_ofNat (by omega)) (by omega) (by omega)]; omega) (by omega)
    have kf := k_find (th := th) (dd := dd) (x := x) hM (Nat.le_refl L) b1 b2 (by omega)
    rw [← ea] at kf
    refine ⟨jx_isC_of hM.1, hC _ _ _ _ (kf.mp ?_)⟩
    rintro r s4 ⟨rfl, hs4⟩
    rw [hs4]
    conv => whnf
    have hle : fst o x (tps o k' (a + pad (sz o a)) L) < 2147483648 := by
      by_cases y0 : fst o x (tps o k' (a + pad (sz o a)) L) = 0
      · omega
      · have := tps_in k' _ L b1 _ (fst_mem _ y0).1
        omega
    by_cases y0 : fst o x (tps o k' (a + pad (sz o a)) L) = 0
    · refine jx_yes (show Int32.ofNat (fst o x (tps o k' (a + pad (sz o a)) L)) = 0 by rw [y0]; rfl) ?_
      conv => whnf
      exact ⟨by decide, Or.inr ⟨rfl, f2.mp y0⟩, rfl⟩
    · refine jx_no (show ¬ Int32.ofNat (fst o x (tps o k' (a + pad (sz o a)) L)) = 0 from ofN_ne y0 hle) ?_
      conv => whnf
      refine ⟨by decide, Or.inl ⟨rfl, ?_⟩, rfl⟩
      have := fun y => y0 (f2.mpr y)
      omega
end JxMsgread2
