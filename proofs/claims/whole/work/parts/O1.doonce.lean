/-! THE CLASS: a CREDIT that is done once -/
/-- what the class tells and what the reference tells -/
def TE (f : jx_F) (gr en : Int64) : Prop := ((gr = -1 ∧ f.1 89 0 = 0) ∨ (¬ gr = -1 ∧ f.1 89 0 = 1 ∧ gr = f.2 90 0)) ∧ ((en = -1 ∧ f.1 91 0 = -1) ∨ (en = 0 ∧ f.1 91 0 = 0) ∨ (en = 1 ∧ f.1 91 0 = 1))
section JxDoonce
variable {th : Nat → Nat} {B b d m s ac i n k bb L X S H Z nA mm : Nat} {xl : List Int32} {σ σ' : jx_S} {f f' f0 g : jx_F} {A A' : Nat → Nat → Nat} {G : Nat → Nat → Int32} {T T' : Nat → Nat} {W : Nat → Prop} {o : Nat → Int32} {pe : Value} {t : Int32} {gr en : Int64}
theorem RelC.sa7 (hR : RelC th B b xl σ f A G T) (hm : (f.1 40 0).toInt = (m : Int)) (hs : s < m) (hac : (ac : Int) < (f.1 35 0).toInt) (hch : chg W σ σ' T T') (hW : ∀ a, W a → a = A 8 s ∨ a = A 10 ac ∨ dy B σ T a 7) (hS1 : rl_s1 B σ' f' A' T' s) (hA1 : σ'.1 (A 10 ac) = some (ca_e f' ac))
    (hf : ∀ q j, ¬ ((q = 41 ∨ q = 42 ∨ q = 43) ∧ 41 * s ≤ j ∧ j < 41 * s + 41) → ¬ ((q = 44 ∨ q = 47 ∨ q = 48) ∧ j = s) → q < 65 → q ≠ 0 → q ≠ 2 → f'.1 q j = f.1 q j) (hl : ∀ q j, ¬ ((q = 45 ∨ q = 46) ∧ j = s) → ¬ ((37 ≤ q ∧ q ≤ 39) ∧ j = ac) → q ≤ 53 → f'.2 q j = f.2 q j) (hA : ∀ q i, ¬ ((q = 81 ∨ q = 82 ∨ q = 83) ∧ i = s) → A' q i = A q i) : RelC th B b xl σ' f' A' G T' := by
  have hB := hR.1.2.2.2.2.1
  obtain ⟨x, a1, a2, a3, a4⟩ := id hR.2.2.2.2.2.2.1
  obtain ⟨n, s1, s2, s3, s4, s5⟩ := id hR.2.2.2.2.2.2.2
  have en : n = m := by omega
  rw [en] at s3 s4 s5
  have d8 := (s5 s hs).1
  have d10 := (a4 ac (by omega)).1
  have nw : ∀ a t, dy B σ T a t → t ≠ 8 → t ≠ 3000 + ac → t ≠ 7 → ¬ W a := fun a t h1 h2 h3 h4 h => by
    rcases hW a h with e | e | e
    · rw [e] at h1; exact absurd h1.2.2 (by rw [d8.2.2]; omega)
    · rw [e] at h1; exact absurd h1.2.2 (by rw [d10.2.2]; omega)
    · have := e.2.2
      have := h1.2.2
      omega
  have lo : ∀ a, a < B + 102 → ¬ W a := fun a h1 h => by
    have := d8.1
    have := d10.1
    rcases hW a h with e | e | e
    · omega
    · omega
    · have := e.1; omega
  have k0 : ∀ q j, q < 65 → q ≠ 0 → q ≠ 2 → ¬ (41 ≤ q ∧ q ≤ 48) → f'.1 q j = f.1 q j := fun q j z1 z2 z3 z4 => hf q j (by omega) (by omega) z1 z2 z3
  refine hR.led hch (fun a h => ?_) (fun q j z1 z2 z3 z4 => k0 q j z2 z3 z4 (by omega)) (fun j => hl 53 j (by omega) (by omega) (by omega)) (fun q i z => hA q i (by omega)) ⟨x, by rw [k0 35 0 (by omega) (by omega) (by omega) (by omega)]; exact a1, a2, ?_, fun i hi => ?_⟩ ⟨m, by rw [k0 40 0 (by omega) (by omega) (by omega) (by omega)]; exact hm, by omega, ?_, fun k k' k1 k2 k3 => ?_, fun k hk => ?_⟩
  · rcases hW a h with e | e | e
    · exact Or.inr ⟨8, by rw [e]; exact d8, Or.inr (Or.inl rfl)⟩
    · exact Or.inr ⟨3000 + ac, by rw [e]; exact d10, Or.inr (Or.inr (Or.inr ⟨by omega, by omega⟩))⟩
    · exact Or.inr ⟨7, e, Or.inr (Or.inr (Or.inl rfl))⟩
  · have := hch.al (by omega) (lo _ (by omega)) (fun a z => nw a _ z (by omega) (by omega) (by omega)) a3
    rw [hA 70 3 (by omega), show (List.range x).map (A' 10) = (List.range x).map (A 10) from List.map_congr_left (fun i _ => hA 10 i (by omega))]
    exact this
  · rw [hA 10 i (by omega)]
    obtain ⟨e1, e2, e0⟩ := a4 i hi
    refine ⟨hch.mv e1, ?_, by rw [hl 36 i (by omega) (by omega) (by omega)]; exact e0⟩
    by_cases e : i = ac
    · rw [e]; exact hA1
    · rw [hch.eqv e1 (nw _ _ e1 (by omega) (by omega) (by omega)), e2]
      unfold ca_e
      rw [hl 36 i (by omega) (by omega) (by omega), hl 37 i (by omega) (by omega) (by omega), hl 38 i (by omega) (by omega) (by omega), hl 39 i (by omega) (by omega) (by omega)]
  · have := hch.al (by omega) (lo _ (by omega)) (fun a z => nw a _ z (by omega) (by omega) (by omega)) s3
    rw [hA 70 4 (by omega), show (List.range m).map (A' 8) = (List.range m).map (A 8) from List.map_congr_left (fun i _ => hA 8 i (by omega))]
    exact this
  · rw [hA 8 k (by omega), hA 8 k' (by omega)] at k3
    exact s4 k k' k1 k2 k3
  · by_cases e : k = s
    · rw [e]; exact hS1
    · refine (s5 k hk).sh hch (fun z => ?_) (fun a z => nw a _ z (by omega) (by omega) (by omega)) (fun q hq => hf q k (by omega) (by omega) (by omega) (by omega) (by omega)) (fun q hq => hl q k (by omega) (by omega) (by omega)) (fun q j hq hj => Or.inl (hf q _ (by omega) (by omega) (by omega) (by omega) (by omega))) (by rw [k0 7 0 (by omega) (by omega) (by omega) (by omega)]; exact Int.le_refl _) (by rw [k0 35 0 (by omega) (by omega) (by omega) (by omega)]; exact Int.le_refl _) (fun q hq => hA q k (by omega)) (fun i => hA 10 i (by omega)) (fun i => hA 6 i (by omega))
      rcases hW _ z with z | z | z
      · exact e (s4 k s hk hs z)
      · have := (s5 k hk).1.2.2
        rw [z, d10.2.2] at this
        omega
      · have := (s5 k hk).1.2.2
        have := z.2.2
        omega

/-- one ACCOUNT changes -/
theorem RelC.acct (hR : RelC th B b xl σ f A G T) (hac : (ac : Int) < (f.1 35 0).toInt) (hch : chg W σ σ' T T') (hW : ∀ a, W a → a = A 10 ac ∨ dy B σ T a 7) (hA1 : σ'.1 (A 10 ac) = some (ca_e f' ac)) (hf : ∀ q j, q < 65 → f'.1 q j = f.1 q j) (hl : ∀ q j, ¬ ((37 ≤ q ∧ q ≤ 39) ∧ j = ac) → q ≠ 90 → f'.2 q j = f.2 q j) : RelC th B b xl σ' f' A G T' := by
  have hB := hR.1.2.2.2.2.1
  obtain ⟨x, a1, a2, a3, a4⟩ := id hR.2.2.2.2.2.2.1
  have d10 := (a4 ac (by omega)).1
  have nw : ∀ a t, dy B σ T a t → t ≠ 3000 + ac → t ≠ 7 → ¬ W a := fun a t h1 h3 h4 h => by
    rcases hW a h with e | e
    · rw [e] at h1; exact absurd h1.2.2 (by rw [d10.2.2]; omega)
    · have := e.2.2
      have := h1.2.2
      omega
  have lo : ∀ a, a < B + 102 → ¬ W a := fun a h1 h => by
    have := d10.1
    rcases hW a h with e | e
    · omega
    · have := e.1; omega
  refine hR.led hch (fun a h => ?_) (fun q j _ z2 _ _ => hf q j z2) (fun j => hl 53 j (by omega) (by omega)) (fun q i z => rfl) ⟨x, by rw [hf 35 0 (by omega)]; exact a1, a2, ?_, fun i hi => ?_⟩ (hR.2.2.2.2.2.2.2.mv hch hB (lo _ (by omega)) (fun a t h ht => nw a t h (by omega) (by omega)) (fun q j z1 z2 => hf q j (by omega)) (fun q j hq => hl q j (by omega) (by omega)) (by rw [hf 7 0 (by omega)]; exact Int.le_refl _) (by rw [hf 35 0 (by omega)]; exact Int.le_refl _) (fun _ _ _ => rfl) (fun _ _ => rfl) (fun _ _ => rfl))
  · rcases hW a h with e | e
    · exact Or.inr ⟨3000 + ac, by rw [e]; exact d10, Or.inr (Or.inr (Or.inr ⟨by omega, by omega⟩))⟩
    · exact Or.inr ⟨7, e, Or.inr (Or.inr (Or.inl rfl))⟩
  · exact hch.al (by omega) (lo _ (by omega)) (fun a z => nw a _ z (by omega) (by omega)) a3
  · obtain ⟨e1, e2, e0⟩ := a4 i hi
    refine ⟨hch.mv e1, ?_, by rw [hl 36 i (by omega) (by omega)]; exact e0⟩
    by_cases e : i = ac
    · rw [e]; exact hA1
    · rw [hch.eqv e1 (nw _ _ e1 (by omega) (by omega)), e2]
      unfold ca_e
      rw [hl 36 i (by omega) (by omega), hl 37 i (by omega) (by omega), hl 38 i (by omega) (by omega), hl 39 i (by omega) (by omega)]
theorem R_ac_z {v : Int64} : ∀ (r k : Nat), (∀ i, k ≤ i → i < k + r → ¬ f.2 36 i = v) → R_ac f v r k = 16
  | 0, _, _ => rfl
  | r + 1, k, h => by
    unfold R_ac
    rw [if_neg (h k (Nat.le_refl _) (by omega))]
    exact R_ac_z r (k + 1) (fun i h1 h2 => h i (by omega) (by omega))
theorem sub_eq (hR : RelC th B b xl σ f A G T) (hE : CRE o L bb f) (hn : (f.1 35 0).toInt = (nA : Int)) : R_ac f (c_who o L) nA 0 = R_sub f nA := by
  obtain ⟨x, a1, a2, a3, a4⟩ := id hR.2.2.2.2.2.2.1
  have e := hE.1.2.2.2.2.2.2
  unfold R_sub c_who
  rw [e]
  cases hac : acc o (C_fin o L 443 444) with
  | some v => rfl
  | none =>
    show R_ac f 0 nA 0 = 16
    exact R_ac_z nA 0 (fun i h1 h2 => (a4 i (by omega)).2.2)
theorem i64_lt {x y : Int64} : x < y ↔ x.toInt < y.toInt := Int64.lt_iff_toInt_lt
theorem mxl_un {x : Int32} (h : 0 ≤ (c_un o L x 0).toInt) : mxl (c_un o L x (-1)) 0 = c_un o L x 0 := by
  unfold c_un at h ⊢
  by_cases e : C_fin o L x 421 = 0
  · rw [if_pos e, if_pos e]
    decide
  · rw [if_neg e] at h ⊢
    rw [if_neg e]
    unfold mxl
    by_cases z : (0 : Int64) < w8 o (C_fin o L x 421 + 8)
    · rw [if_pos z]
    · rw [if_neg z]
      rw [i64_lt] at z
      apply Int64.toInt_inj.mp
      have e0 : (0 : Int64).toInt = 0 := by decide
      omega
theorem c_un_m {x : Int32} (h : 0 ≤ (c_un o L x 0).toInt) {v : Int64} : (if c_un o L x (-1) = -1 then v else c_un o L x (-1)) = c_un o L x v := by
  unfold c_un at h ⊢
  by_cases e : C_fin o L x 421 = 0
  · rw [if_pos e, if_pos e, if_pos rfl]
  · rw [if_neg e] at h ⊢
    rw [if_neg e, if_neg (fun z => ?_)]
    rw [z] at h
    have e0 : (-1 : Int64).toInt = -1 := by decide
    omega
theorem u32_k {x : Int32} {k : Int64} (hk : (k.toInt32).toInt64 &&& 4294967295 = k) : x.toInt64 &&& 4294967295 = k ↔ x = k.toInt32 := by
  constructor
  · intro h
    have := u32_back x
    rw [h] at this
    exact this.symm
  · intro h
    rw [h]
    exact hk
theorem act_k (h : 0 ≤ (c_act o L).toInt) (hE : CRE o L bb f) {k : Int64} (hk : (k.toInt32).toInt64 &&& 4294967295 = k) : c_act o L = k ↔ R_n4 f 8 = k.toInt32 := by
  unfold c_act at h ⊢
  by_cases e : fst o 436 (top o L) = 0
  · rw [if_pos e] at h
    have e0 : (-1 : Int64).toInt = -1 := by decide
    omega
  · rw [if_neg e, hE.1.2.2.2.1 e]
    exact u32_k hk
theorem k_doOnce (hR : RelC th B b xl σ f A G T) (hE : CRE o L bb f) (hX : CX B σ T X S H Z pe t o L gr en) (hn : (f.1 35 0).toInt = (nA : Int)) (hu : 0 ≤ (c_un o L 437 0).toInt) (hac : 0 ≤ (c_act o L).toInt) (hT : TE f gr en) : jc th (d + 5) 139 [.ref (B + 6), .ref X] σ (fun r σ' => r = some (.int (R_evt f nA (R_n4 f 8) (R_un f 83 0)).1) ∧ ∃ gr' en', RelC th B b xl σ' (R_evt f nA (R_n4 f 8) (R_un f 83 0)).2 A G T ∧ CX B σ' T X S H Z pe t o L gr' en' ∧ TE (R_evt f nA (R_n4 f 8) (R_un f 83 0)).2 gr' en' ∧ σ'.2 = σ.2 ∧ chg (fun a => (∃ i, i < nA ∧ a = A 10 i) ∨ a = X) σ σ' T T) := by
  have hL := hR.1.2.2.2.2.2.2.2.2.2.1
  obtain ⟨x, a1, a2, a3, a4⟩ := id hR.2.2.2.2.2.2.1
  have ex : x = nA := by omega
  subst ex
  have hB := hR.1.2.2.2.2.1
  obtain ⟨hXd, hx, r1, r2, r3⟩ := id hX
  have hk := k_accountNumbered (th := th) (d := d) (v := c_who o L) hL a2 a3 (fun i hi => (a4 i hi).2.1)
  rw [sub_eq hR hE hn] at hk
  have eu : mxl (c_un o L 437 (-1)) 0 = R_un f 83 0 := by rw [mxl_un hu, hE.1.2.2.2.2.1]; rfl
  obtain ⟨v, hv⟩ : ∃ v, v = R_un f 83 0 := ⟨_, rfl⟩
  obtain ⟨av, hav⟩ : ∃ av, av = R_n4 f 8 := ⟨_, rfl⟩
  have a2e := act_k hac hE (k := 2) (by decide)
  have a0e := act_k hac hE (k := 0) (by decide)
  rw [show (2 : Int64).toInt32 = 2 by decide] at a2e
  rw [show (0 : Int64).toInt32 = 0 by decide] at a0e
  rw [← hv] at eu ⊢
  rw [← hav] at a2e a0e ⊢
  refine cl_go dt_139 90 [(26, [1, 2, 3])] dt_139_k rfl ?_
  intro C J hC hJ
  conv => whnf
  refine ⟨_, jx_getF_of (hx) rfl, ?_⟩
  conv => whnf
  refine ⟨jx_isC_of hL, hC _ _ _ _ ((hk.up (by omega)).mp ?_)⟩
  rintro r s1 ⟨hr, hs1⟩
  rw [hs1]
  rcases hr with ⟨e1, rfl⟩ | ⟨e1, rfl⟩
  · obtain ⟨i, hi⟩ : ∃ i, i = R_sub f x := ⟨_, rfl⟩
    have hix : i < x := by
      have := R_ac_r (f := f) (v := c_who o L) x 0
      rw [sub_eq hR hE hn] at this
      have := this e1
      omega
    have eD : R_evt f x av v = if av = 2 then (2001, rf_ui f 91 0 (if v.toInt ≤ (R_fre f i).toInt then 0 else 1)) else if av = 0 then (if (R_fre f i).toInt < v.toInt then (4012, f) else (2001, R_chg f i v)) else if 1152921504606846976 < (f.2 37 i + v).toInt then (5012, f) else (2001, R_bck f i v) := by
      unfold R_evt
      rw [if_neg e1, ← hi]
    rw [eD] at hJ ⊢
    rw [← hi] at e1 ⊢
    obtain ⟨dA, oA, -⟩ := a4 i hix
    have oA' : σ.1 (A 10 i) = some (.inr (10, [.long (f.2 36 i), .long (f.2 37 i), .long (f.2 38 i), .long (f.2 39 i)])) := oA
    have hne : A 10 i ≠ X := fun z => by
      have h1 := dA.2.2
      rw [z, hXd.2.2] at h1
      omega
    have t26 : ∀ y : Int64, y = v → cl_fj th (d + 4) 139 26 [(1, .ref X), (2, .ref (A 10 i)), (3, .long y)] [] σ (fun r σ' => r = some (.int (if av = 2 then (2001, rf_ui f 91 0 (if v.toInt ≤ (R_fre f i).toInt then 0 else 1)) else if av = 0 then (if (R_fre f i).toInt < v.toInt then (4012, f) else (2001, R_chg f i v)) else if 1152921504606846976 < (f.2 37 i + v).toInt then (5012, f) else (2001, R_bck f i v) : Int32 × jx_F).1) ∧ ∃ gr' en', RelC th B b xl σ' (if av = 2 then (2001, rf_ui f 91 0 (if v.toInt ≤ (R_fre f i).toInt then 0 else 1)) else if av = 0 then (if (R_fre f i).toInt < v.toInt then (4012, f) else (2001, R_chg f i v)) else if 1152921504606846976 < (f.2 37 i + v).toInt then (5012, f) else (2001, R_bck f i v) : Int32 × jx_F).2 A G T ∧ CX B σ' T X S H Z pe t o L gr' en' ∧ TE (if av = 2 then (2001, rf_ui f 91 0 (if v.toInt ≤ (R_fre f i).toInt then 0 else 1)) else if av = 0 then (if (R_fre f i).toInt < v.toInt then (4012, f) else (2001, R_chg f i v)) else if 1152921504606846976 < (f.2 37 i + v).toInt then (5012, f) else (2001, R_bck f i v) : Int32 × jx_F).2 gr' en' ∧ σ'.2 = σ.2 ∧ chg (fun a => (∃ i, i < x ∧ a = A 10 i) ∨ a = X) σ σ' T T) := by
      intro y hy
      rw [hy]
      refine cl_at dt_139 90 [] dt_139_k ?_
      intro C J hC hJ
      conv => whnf
      refine ⟨_, jx_getF_of (hx) rfl, ?_⟩
      conv => whnf
      refine ⟨fun (h2 : ¬ lg_cmp (c_act o L) 2 = 0) => ?_, fun (h2 : ¬ ¬ lg_cmp (c_act o L) 2 = 0) => ?_⟩
      · have n2 : ¬ av = 2 := fun y => h2 (lg_cmp_z.mpr (a2e.mpr y))
        rw [if_neg n2]
        conv => whnf
        refine ⟨_, jx_getF_of (hx) rfl, ?_⟩
        conv => whnf
        refine ⟨fun (h3 : ¬ lg_cmp (c_act o L) 0 = 0) => ?_, fun (h3 : ¬ ¬ lg_cmp (c_act o L) 0 = 0) => ?_⟩
        · have n0 : ¬ av = 0 := fun y => h3 (lg_cmp_z.mpr (a0e.mpr y))
          rw [if_neg n0]
          conv => whnf
          refine ⟨_, jx_getF_of (oA') rfl, ?_⟩
          conv => whnf
          refine ⟨fun (h4 : lg_cmp (f.2 37 i + v) 1152921504606846976 ≤ 0) => ?_, fun (h4 : ¬ lg_cmp (f.2 37 i + v) 1152921504606846976 ≤ 0) => ?_⟩
          · rw [if_neg (show ¬ (1152921504606846976 : Int) < (f.2 37 i + v).toInt from fun y => absurd ((lg_gtK c60).mpr y) (Int32.not_lt.mpr h4))]
            conv => whnf
            refine ⟨jx_isC_of oA', hC _ _ _ _ (((k_chargeA (d := d) (v := -v) oA').up (by omega)).mp ?_)⟩
            rintro r s2 ⟨rfl, p2, o2, n2'⟩
            conv => whnf
            have hch : chg (fun a => a = A 10 i) σ s2 T T := ⟨fun a _ hw => o2 a hw, by rw [n2']; exact Nat.le_refl _, fun _ _ => rfl⟩
            have hch2 : chg (fun a => (∃ i, i < x ∧ a = A 10 i) ∨ a = X) σ s2 T T := ⟨fun a _ hw => o2 a (fun y => hw (Or.inl ⟨i, hix, y⟩)), by rw [n2']; exact Nat.le_refl _, fun _ _ => rfl⟩
            refine ⟨rfl, gr, en, hR.acct (ac := i) (f' := R_bck f i v) (by omega) hch (fun a h => Or.inl h) ?_ (fun _ _ _ => rfl) (fun q j y1 _ => ?_), hX.mv hch (fun y => hne y.symm) (fun a y1 y2 => ?_), hT, n2', hch2⟩
            · rw [p2]
              unfold ca_e R_bck
              rw [rf_ul_ne (by omega), rf_ul_ne (by omega), rf_ul_ne (by omega), rf_ul_eq, rf_ul_ne (by omega), rf_ul_ne (by omega), rf_ul_eq, Int64.sub_neg, ← Int64.sub_eq_add_neg]
            · unfold R_bck
              rw [rf_ul_ne (by omega), rf_ul_ne (by omega)]
            · have h1 := dA.2.2
              have y2 : a = A 10 i := y2
              rw [← y2, y1.2.2] at h1
              omega
          · rw [if_pos (show (1152921504606846976 : Int) < (f.2 37 i + v).toInt from (lg_gtK c60).mp (Int32.not_le.mp h4))]
            conv => whnf
            exact ⟨rfl, gr, en, hR, hX, hT, rfl, ⟨fun _ _ _ => rfl, Nat.le_refl _, fun _ _ => rfl⟩⟩
        · have e0 : av = 0 := a0e.mp (lg_cmp_z.mp (Decidable.not_not.mp h3))
          rw [if_pos e0]
          conv => whnf
          refine ⟨jx_isC_of oA', hC _ _ _ _ (((k_free (d := d) oA').up (by omega)).mp ?_)⟩
          rintro r s3 ⟨rfl, hs3⟩
          rw [hs3]
          conv => whnf
          refine ⟨fun (h4 : lg_cmp v (f.2 37 i - f.2 38 i) ≤ 0) => ?_, fun (h4 : ¬ lg_cmp v (f.2 37 i - f.2 38 i) ≤ 0) => ?_⟩
          · rw [if_neg (fun y : (R_fre f i).toInt < v.toInt => absurd (lg_gt.mpr y) (Int32.not_lt.mpr h4))]
            conv => whnf
            refine ⟨jx_isC_of oA', hC _ _ _ _ (((k_chargeA (d := d) (v := v) oA').up (by omega)).mp ?_)⟩
            rintro r s2 ⟨rfl, p2, o2, n2'⟩
            conv => whnf
            have hch : chg (fun a => a = A 10 i) σ s2 T T := ⟨fun a _ hw => o2 a hw, by rw [n2']; exact Nat.le_refl _, fun _ _ => rfl⟩
            have hch2 : chg (fun a => (∃ i, i < x ∧ a = A 10 i) ∨ a = X) σ s2 T T := ⟨fun a _ hw => o2 a (fun y => hw (Or.inl ⟨i, hix, y⟩)), by rw [n2']; exact Nat.le_refl _, fun _ _ => rfl⟩
            refine ⟨rfl, gr, en, hR.acct (ac := i) (f' := R_chg f i v) (by omega) hch (fun a h => Or.inl h) ?_ (fun _ _ _ => rfl) (fun q j y1 _ => ?_), hX.mv hch (fun y => hne y.symm) (fun a y1 y2 => ?_), hT, n2', hch2⟩
            · rw [p2]
              unfold ca_e R_chg
              rw [rf_ul_ne (by omega), rf_ul_ne (by omega), rf_ul_ne (by omega), rf_ul_eq, rf_ul_ne (by omega), rf_ul_ne (by omega), rf_ul_eq]
            · unfold R_chg
              rw [rf_ul_ne (by omega), rf_ul_ne (by omega)]
            · have h1 := dA.2.2
              have y2 : a = A 10 i := y2
              rw [← y2, y1.2.2] at h1
              omega
          · rw [if_pos (show (R_fre f i).toInt < v.toInt from lg_gt.mp (Int32.not_le.mp h4))]
            conv => whnf
            exact ⟨rfl, gr, en, hR, hX, hT, rfl, ⟨fun _ _ _ => rfl, Nat.le_refl _, fun _ _ => rfl⟩⟩
      · have e2 : av = 2 := a2e.mp (lg_cmp_z.mp (Decidable.not_not.mp h2))
        rw [if_pos e2]
        have fin : ∀ (s2 : jx_S) (en' : Int64) (y : Int32), (en' = 0 ∧ y = 0) ∨ (en' = 1 ∧ y = 1) → s2.1 X = some (.inr (7, [.ref S, .ref H, .ref Z, pe, .int t, .long (c_typ o L), .long (c_cnt o L), .long (c_who o L), .long (c_act o L), .int (c_ur o L), .long (c_un o L 437 (-1)), .long (c_un o L 446 (-1)), .long gr, .long en'])) → (∀ q, q ≠ X → s2.1 q = σ.1 q) → s2.2 = σ.2 → ∃ gr' en', RelC th B b xl s2 (rf_ui f 91 0 y) A G T ∧ CX B s2 T X S H Z pe t o L gr' en' ∧ TE (rf_ui f 91 0 y) gr' en' ∧ s2.2 = σ.2 ∧ chg (fun a => (∃ i, i < x ∧ a = A 10 i) ∨ a = X) σ s2 T T := by
          intro s2 en' y hy p2 o2 n2
          have hch : chg (fun a => a = X) σ s2 T T := ⟨fun a _ hw => o2 a hw, by rw [n2]; exact Nat.le_refl _, fun _ _ => rfl⟩
          refine ⟨gr, en', (hR.w7 hch (fun a h => by rw [show a = X from h]; exact hXd)).eqf (fun q j y1 y2 y3 => rf_ui_ne (by omega)) (fun q j _ _ => rfl), ⟨hch.mv hXd, p2, hch.ro ?_ r1, hch.ro ?_ r2, hch.ro ?_ r3⟩, ⟨?_, ?_⟩, n2, ⟨fun a _ hw => o2 a (fun w => hw (Or.inr w)), by rw [n2]; exact Nat.le_refl _, fun _ _ => rfl⟩⟩
          · exact fun a y1 y2 => by have h1 := hXd.2.2; rw [← (show a = X from y2), y1.2.2] at h1; omega
          · exact fun a y1 y2 => by have h1 := hXd.2.2; rw [← (show a = X from y2), y1.2.2] at h1; omega
          · exact fun a y1 y2 => by have h1 := hXd.2.2; rw [← (show a = X from y2), y1.2.2] at h1; omega
          · have := hT.1
            rw [rf_ui_ne (by omega)]
            exact this
          · rw [rf_ui_eq]
            rcases hy with ⟨rfl, rfl⟩ | ⟨rfl, rfl⟩
            · exact Or.inr (Or.inl ⟨rfl, rfl⟩)
            · exact Or.inr (Or.inr ⟨rfl, rfl⟩)
        conv => whnf
        refine ⟨jx_isC_of oA', hC _ _ _ _ (((k_free (d := d) oA').up (by omega)).mp ?_)⟩
        rintro r s3 ⟨rfl, hs3⟩
        rw [hs3]
        conv => whnf
        refine ⟨fun (h4 : 0 < lg_cmp v (f.2 37 i - f.2 38 i)) => ?_, fun (h4 : ¬ 0 < lg_cmp v (f.2 37 i - f.2 38 i)) => ?_⟩
        · rw [if_neg (fun y : v.toInt ≤ (R_fre f i).toInt => absurd (lg_gt.mp h4) (show ¬ (R_fre f i).toInt < v.toInt by omega))]
          conv => whnf
          refine putK hx rfl (fit_l _) (fun s4 p4 o4 n4 => ?_)
          conv => whnf
          exact ⟨rfl, fin s4 1 1 (Or.inr ⟨rfl, rfl⟩) p4 o4 n4⟩
        · rw [if_pos (show v.toInt ≤ (R_fre f i).toInt from Int.not_lt.mp (fun y => h4 (lg_gt.mpr y)))]
          conv => whnf
          refine putK hx rfl (fit_l _) (fun s4 p4 o4 n4 => ?_)
          conv => whnf
          exact ⟨rfl, fin s4 0 0 (Or.inl ⟨rfl, rfl⟩) p4 o4 n4⟩
    conv => whnf
    refine ⟨_, jx_getF_of (hx) rfl, ?_⟩
    conv => whnf
    exact hJ _ _ _ _ (t26 _ eu)
  · have eD : R_evt f x av v = (5030, f) := by unfold R_evt; rw [if_pos e1]
    rw [eD]
    conv => whnf
    exact ⟨rfl, gr, en, hR, hX, hT, rfl, ⟨fun _ _ _ => rfl, Nat.le_refl _, fun _ _ => rfl⟩⟩
end JxDoonce
