/-! THE CLASS: a CREDIT that begins -/
section JxBegin
variable {th : Nat → Nat} {B b d m s ac i n k bb L X S H Z nA mm p N E' : Nat} {xl : List Int32} {σ σ' : jx_S} {f f' F : jx_F} {A A' : Nat → Nat → Nat} {G : Nat → Nat → Int32} {T T' : Nat → Nat} {o : Nat → Int32} {t pv : Int32} {gr en gg : Int64} {pe : Value}
theorem beg0_row41 : (R_beg0 f mm i).1 41 (41 * mm) = vp_nar .byte (f.1 78 0) ∧ ∀ j, j < (f.1 78 0).toNatClampNeg → (R_beg0 f mm i).1 41 (41 * mm + 1 + j) = vp_nar .byte (f.1 29 (R_hSk f 0 + j)) := by
  obtain ⟨c1, c2⟩ := cpT_v (f := rf_ui f 40 0 (f.1 40 0 + 1)) (k := 0) (S := R_hSk f 0) (q := 41) (at' := 41 * mm) (N := (f.1 78 0).toNatClampNeg) (by omega)
  have e : ∀ j, (R_beg0 f mm i).1 41 j = (R_cpT (rf_ui f 40 0 (f.1 40 0 + 1)) 0 (R_hSk f 0) 41 (41 * mm) (f.1 78 0).toNatClampNeg).1 41 j := fun j => by
    unfold R_beg0
    rw [rf_ui_ne (by omega)]
  rw [rf_ui_ne (by omega)] at c1
  refine ⟨by rw [e, c1], fun j hj => ?_⟩
  have := c2 j hj
  rw [rf_ui_ne (by omega)] at this
  rw [e, this]
/-- a SESSION is there -/
theorem RelC.beg (hR : RelC th B b xl σ f A G T) (hm : (f.1 40 0).toInt = (mm : Int)) (hm16 : mm < 16) (hac : (ac : Int) < (f.1 35 0).toInt) (hE : CRE o L bb f) (hl0 : c_len o L 263 ≤ 40) (hl1 : c_len o L 264 ≤ 40) (hl2 : c_len o L 296 ≤ 40) (hX : CX B σ T X S H Z pe t o L gr en) (hp : (p : Int) < (f.1 7 0).toInt) (hp4 : p < 4) (hpv : pv = Int32.ofNat p) (hN : N = σ.2.1) (hch : chg (fun a => a = B + 8 ∨ a = A 70 4 ∧ B + 102 ≤ a ∨ a = A 10 ac ∨ a = X) σ σ' T T') (hNl : N < σ'.2.1) (hTN : T' N = 8)
    (hF : F = R_grnt (R_of (R_beg0 f mm ac) mm pv) mm ac) (hal : al_at th B σ' T' (B + 8) E' 74 ((List.range mm).map (A 8) ++ [N]))
    (h8 : σ'.1 N = some (.inr (8, [.ref S, .ref (A 10 ac), .long (F.2 45 mm), .long (c_cnt o L), .ref H, .ref Z, .ref (A 6 p), .int (f.1 1 0 + 600)]))) (h10 : σ'.1 (A 10 ac) = some (ca_e F ac)) : RelC th B b xl σ' F (fun q j => if q = 8 ∧ j = mm then N else if q = 81 ∧ j = mm then S else if q = 82 ∧ j = mm then H else if q = 83 ∧ j = mm then Z else if q = 70 ∧ j = 4 then E' else A q j) G T' := by
  have hB := hR.1.2.2.2.2.1
  obtain ⟨x, a1, a2, a3, a4⟩ := id hR.2.2.2.2.2.2.1
  obtain ⟨n0, s1, s2, s3, s4, s5⟩ := id hR.2.2.2.2.2.2.2
  have en0 : n0 = mm := by omega
  rw [en0] at s3 s4 s5
  have d10 := (a4 ac (by omega)).1
  have hXd := hX.1
  obtain ⟨F0, hF0⟩ : ∃ F0, F0 = R_of (R_beg0 f mm ac) mm pv := ⟨_, rfl⟩
  rw [← hF0] at hF
  have e780 : (f.1 78 0).toNatClampNeg ≤ 40 := by rw [(hE.2 0 (by omega)).2.1, i32_nat (n := c_len o L (kc 0)) (i32_ofNat (by have : c_len o L (kc 0) = c_len o L 263 := rfl; omega))]; exact hl0
  have ob : ∀ q j, q ≠ 40 → ¬ (q = 41 ∧ 41 * mm ≤ j ∧ j < 41 * mm + 41) → ¬ (q = 44 ∧ j = mm) → (R_beg0 f mm ac).1 q j = f.1 q j := fun q j z1 z2 z3 => beg0_o (by omega)
  have hEb : CRE o L bb (R_beg0 f mm ac) := hE.eq (fun q j hq => ob q j (by omega) (by omega) (by omega))
  have e781 : ((R_beg0 f mm ac).1 78 1).toNatClampNeg ≤ 40 := by rw [(hEb.2 1 (by omega)).2.1, i32_nat (n := c_len o L (kc 1)) (i32_ofNat (by have : c_len o L (kc 1) = c_len o L 264 := rfl; omega))]; exact hl1
  have e782 : ((R_beg0 f mm ac).1 78 2).toNatClampNeg ≤ 40 := by rw [(hEb.2 2 (by omega)).2.1, i32_nat (n := c_len o L (kc 2)) (i32_ofNat (by have : c_len o L (kc 2) = c_len o L 296 := rfl; omega))]; exact hl2
  have oF : ∀ q j, q ≠ 89 → F.1 q j = F0.1 q j := fun q j z => by rw [hF, grnt_o (by omega)]
  have oF0 : ∀ q j, q ≠ 42 → q ≠ 43 → ¬ ((q = 47 ∨ q = 48) ∧ j = mm) → F0.1 q j = (R_beg0 f mm ac).1 q j := fun q j z1 z2 z3 => by rw [hF0, of_o z1 z2 z3]
  have oFo : ∀ q j, q ≠ 89 → q ≠ 40 → ¬ ((q = 41 ∨ q = 42 ∨ q = 43) ∧ 41 * mm ≤ j ∧ j < 41 * mm + 41) → ¬ ((q = 44 ∨ q = 47 ∨ q = 48) ∧ j = mm) → F.1 q j = f.1 q j := fun q j z1 z2 z3 z4 => by
    rw [oF q j z1, hF0]
    by_cases e : q = 42 ∨ q = 43
    · rw [of_42o e e781 e782 (by omega), ob q j (by omega) (by omega) (by omega)]
    · rw [of_o (by omega) (by omega) (by omega), ob q j (by omega) (by omega) (by omega)]
  have lF : ∀ q j, ¬ ((q = 45 ∨ q = 46) ∧ j = mm) → ¬ (q = 38 ∧ j = ac) → q ≠ 90 → F.2 q j = f.2 q j := fun q j z1 z2 z3 => by
    rw [hF, grnt_l (by omega) z2 (by omega), hF0, of_l (by omega)]
    rfl
  have F47 : F.1 47 mm = Int32.ofNat (p + 1) := by rw [oF 47 mm (by omega), hF0, of_47, hpv]; exact nadd rfl (by omega)
  have F40 : (F.1 40 0).toInt = ((mm + 1 : Nat) : Int) := by
    rw [oF 40 0 (by omega), oF0 40 0 (by omega) (by omega) (by omega), beg0_40, i32_add (c := 1) hm (by decide) (by omega) (by omega)]
    omega
  have dW : ∀ a t, dy B σ T a t → t ≠ 74 → t ≠ 3000 + ac → t ≠ 7 → ¬ (a = B + 8 ∨ a = A 70 4 ∧ B + 102 ≤ a ∨ a = A 10 ac ∨ a = X) := fun a t h1 h2 h3 h4 h => by
    rcases h with e | ⟨e, e'⟩ | e | e
    · have := h1.1; omega
    · obtain ⟨-, hE4⟩ := s3
      rcases hE4 with ⟨z, -⟩ | ⟨z, -⟩
      · have := hR.1.2.2.2.1 1 (by omega)
        omega
      · have h5 := z.2.2
        rw [← e, h1.2.2] at h5
        exact h2 h5
    · rw [e] at h1; exact absurd h1.2.2 (by rw [d10.2.2]; omega)
    · rw [e] at h1; exact absurd h1.2.2 (by rw [hXd.2.2]; omega)
  have lo : ∀ a, a < B + 102 → a ≠ B + 8 → ¬ (a = B + 8 ∨ a = A 70 4 ∧ B + 102 ≤ a ∨ a = A 10 ac ∨ a = X) := fun a h1 h2 h => by
    have := d10.1
    have := hXd.1
    omega
  obtain ⟨r1, r2, r3⟩ := hX.2.2
  have nw81 : ∀ a, dy B σ T a 81 → ¬ (a = B + 8 ∨ a = A 70 4 ∧ B + 102 ≤ a ∨ a = A 10 ac ∨ a = X) := fun a hd => dW a 81 hd (by omega) (by omega) (by omega)
  have b8m : ∀ (A'' : Nat → Nat → Nat), A'' = (fun q j => if q = 8 ∧ j = mm then N else if q = 81 ∧ j = mm then S else if q = 82 ∧ j = mm then H else if q = 83 ∧ j = mm then Z else if q = 70 ∧ j = 4 then E' else A q j) → A'' 8 mm = N ∧ A'' 81 mm = S ∧ A'' 82 mm = H ∧ A'' 83 mm = Z ∧ A'' 70 4 = E' ∧ ∀ q j, ¬ ((q = 8 ∨ q = 81 ∨ q = 82 ∨ q = 83) ∧ j = mm) → ¬ (q = 70 ∧ j = 4) → A'' q j = A q j := by
    intro A'' h
    rw [h]
    refine ⟨if_pos ⟨rfl, rfl⟩, ?_, ?_, ?_, ?_, fun q j z1 z2 => ?_⟩
    · exact (if_neg (by omega)).trans (if_pos ⟨rfl, rfl⟩)
    · exact (if_neg (by omega)).trans ((if_neg (by omega)).trans (if_pos ⟨rfl, rfl⟩))
    · exact (if_neg (by omega)).trans ((if_neg (by omega)).trans ((if_neg (by omega)).trans (if_pos ⟨rfl, rfl⟩)))
    · exact (if_neg (by omega)).trans ((if_neg (by omega)).trans ((if_neg (by omega)).trans ((if_neg (by omega)).trans (if_pos ⟨rfl, rfl⟩))))
    · exact (if_neg (by omega)).trans ((if_neg (by omega)).trans ((if_neg (by omega)).trans ((if_neg (by omega)).trans (if_neg (by omega)))))
  obtain ⟨A'', hA''⟩ : ∃ A'' : Nat → Nat → Nat, A'' = (fun q j => if q = 8 ∧ j = mm then N else if q = 81 ∧ j = mm then S else if q = 82 ∧ j = mm then H else if q = 83 ∧ j = mm then Z else if q = 70 ∧ j = 4 then E' else A q j) := ⟨_, rfl⟩
  rw [← hA'']
  obtain ⟨c8, c81, c82, c83, c70, co⟩ := b8m A'' hA''
  refine hR.led hch (fun a h => ?_) (fun q j z1 z2 z3 z4 => oFo q j (by omega) (by omega) (by omega) (by omega)) (fun j => lF 53 j (by omega) (by omega) (by omega)) (fun q j z => co q j (by omega) (by omega)) ⟨x, by rw [oFo 35 0 (by omega) (by omega) (by omega) (by omega)]; exact a1, a2, ?_, fun i hi => ?_⟩ ⟨mm + 1, F40, by omega, ?_, fun k k' k1 k2 k3 => ?_, fun k hk => ?_⟩
  · rcases h with e | ⟨e, e'⟩ | e | e
    · exact Or.inl e
    · obtain ⟨-, hE4⟩ := s3
      rcases hE4 with ⟨z, -⟩ | ⟨z, -⟩
      · have := hR.1.2.2.2.1 1 (by omega)
        omega
      · exact Or.inr ⟨74, by rw [e]; exact z, Or.inl rfl⟩
    · exact Or.inr ⟨3000 + ac, by rw [e]; exact d10, Or.inr (Or.inr (Or.inr ⟨by omega, by omega⟩))⟩
    · exact Or.inr ⟨7, by rw [e]; exact hXd, Or.inr (Or.inr (Or.inl rfl))⟩
  · have := hch.al (by omega) (lo _ (by omega) (by omega)) (fun a z => dW a _ z (by omega) (by omega) (by omega)) a3
    rw [co 70 3 (by omega) (by omega), show (List.range x).map (A'' 10) = (List.range x).map (A 10) from List.map_congr_left (fun i _ => co 10 i (by omega) (by omega))]
    exact this
  · rw [co 10 i (by omega) (by omega)]
    obtain ⟨e1, e2, e0⟩ := a4 i hi
    refine ⟨hch.mv e1, ?_, by rw [lF 36 i (by omega) (by omega) (by omega)]; exact e0⟩
    by_cases e : i = ac
    · rw [e]; exact h10
    · rw [hch.eqv e1 (dW _ _ e1 (by omega) (by omega) (by omega)), e2]
      unfold ca_e
      rw [lF 36 i (by omega) (by omega) (by omega), lF 37 i (by omega) (by omega) (by omega), lF 38 i (by omega) (by omega) (by omega), lF 39 i (by omega) (by omega) (by omega)]
  · rw [c70, show (List.range (mm + 1)).map (A'' 8) = (List.range mm).map (A 8) ++ [N] from ?_]
    · exact hal
    · rw [List.range_succ, List.map_append]
      congr 1
      · exact List.map_congr_left (fun j hj => co 8 j (by have := List.mem_range.mp hj; omega) (by omega))
      · show [A'' 8 mm] = [N]
        rw [c8]
  · by_cases z : k = mm
    · by_cases z' : k' = mm
      · omega
      · rw [z, c8, co 8 k' (by omega) (by omega)] at k3
        have := (s5 k' (by omega)).1.2.1
        omega
    · by_cases z' : k' = mm
      · rw [z', c8, co 8 k (by omega) (by omega)] at k3
        have := (s5 k (by omega)).1.2.1
        omega
      · rw [co 8 k (by omega) (by omega), co 8 k' (by omega) (by omega)] at k3
        exact s4 k k' (by omega) (by omega) k3
  · by_cases z : k = mm
    · rw [z]
      refine ⟨?_, ?_, ⟨ac, ?_, ?_⟩, ⟨p, by rw [F47]; exact i32_ofNat (by omega), by rw [oFo 7 0 (by omega) (by omega) (by omega) (by omega)]; exact hp⟩, ?_, ?_, ?_⟩
      · rw [c8]; exact ⟨by omega, hNl, hTN⟩
      · rw [c8, h8]
        unfold cs_e
        have e44 : (F.1 44 mm).toNatClampNeg = ac := by rw [oF 44 mm (by omega), oF0 44 mm (by omega) (by omega) (by omega), beg0_44]; exact i32_nat (i32_ofNat (by omega))
        have e46 : F.2 46 mm = c_cnt o L := by rw [hF, grnt_l (by omega) (by omega) (by omega), hF0, of_46, cnt_c hEb]
        have e48 : F.1 48 mm = f.1 1 0 + 600 := by rw [oF 48 mm (by omega), hF0, of_48, ob 1 0 (by omega) (by omega) (by omega)]
        have ecp : va_rf (cp_ref A'' (Int32.ofNat (p + 1))) = .ref (A 6 p) := by
          unfold cp_ref
          rw [if_neg (ofN_ne (by omega) (by omega)), i32_nat (n := p + 1) (i32_ofNat (by omega)), show p + 1 - 1 = p by omega, co 6 p (by omega) (by omega)]
          rfl
        rw [e44, e46, e48, F47, ecp, c81, c82, c83, co 10 ac (by omega) (by omega)]
      · rw [oF 44 mm (by omega), oF0 44 mm (by omega) (by omega) (by omega), beg0_44]
        exact i32_ofNat (by omega)
      · rw [oFo 35 0 (by omega) (by omega) (by omega) (by omega)]
        exact hac
      · rw [c81]
        refine row_v (k := 0) (q := 41) hE (by omega) hl0 (hch.ro nw81 r1) ?_ (fun j hj => ?_)
        · rw [oF 41 _ (by omega), oF0 41 _ (by omega) (by omega) (by omega)]
          exact beg0_row41.1
        · rw [oF 41 _ (by omega), oF0 41 _ (by omega) (by omega) (by omega)]
          exact beg0_row41.2 j hj
      · rw [c82]
        exact row_v (k := 1) (q := 42) hEb (by omega) hl1 (hch.ro nw81 r2) (by rw [oF 42 _ (by omega), hF0]; exact of_row42.1) (fun j hj => by rw [oF 42 _ (by omega), hF0]; exact of_row42.2 j hj)
      · rw [c83]
        exact row_v (k := 2) (q := 43) hEb (by omega) hl2 (hch.ro nw81 r3) (by rw [oF 43 _ (by omega), hF0]; exact of_row43.1) (fun j hj => by rw [oF 43 _ (by omega), hF0]; exact of_row43.2 j hj)
    · exact (s5 k (by omega)).sh hch (dW _ _ (s5 k (by omega)).1 (by omega) (by omega) (by omega)) nw81 (fun q hq => oFo q k (by omega) (by omega) (by omega) (by omega)) (fun q hq => lF q k (by omega) (by omega) (by omega)) (fun q j hq hj => Or.inl (oFo q _ (by omega) (by omega) (by omega) (by omega))) (by rw [oFo 7 0 (by omega) (by omega) (by omega) (by omega)]; exact Int.le_refl _) (by rw [oFo 35 0 (by omega) (by omega) (by omega) (by omega)]; exact Int.le_refl _) (fun q hq => co q k (by omega) (by omega)) (fun i => co 10 i (by omega) (by omega)) (fun i => co 6 i (by omega) (by omega))
theorem k_beginL (hR : RelC th B b xl σ f A G T) (hE : CRE o L bb f) (hX : CX B σ T X S H Z (.ref (A 6 p)) (f.1 1 0) o L gr en) (hm : (f.1 40 0).toInt = (mm : Int)) (hn : (f.1 35 0).toInt = (nA : Int)) (hM : MI f) (hu3 : 0 ≤ (c_un o L 437 0).toInt) (hT : TE f gr en) (hl0 : c_len o L 263 ≤ 40) (hl1 : c_len o L 264 ≤ 40) (hl2 : c_len o L 296 ≤ 40) (hp : (p : Int) < (f.1 7 0).toInt) (hp4 : p < 4) (hpv : pv = Int32.ofNat p) : jc th (d + 7) 130 [.ref (B + 6), .ref X] σ (fun r σ' => r = some (.int (R_fst f nA mm pv).1) ∧ ∃ A' T' gr' en', RelC th B b xl σ' (R_fst f nA mm pv).2 A' G T' ∧ CX B σ' T' X S H Z (.ref (A 6 p)) (f.1 1 0) o L gr' en' ∧ TE (R_fst f nA mm pv).2 gr' en' ∧ σ'.2.1 ≤ σ.2.1 + 2 ∧ σ'.2.2 ≤ σ.2.2 + 208 ∧ (∀ q i, ¬ (q = 8 ∨ q = 81 ∨ q = 82 ∨ q = 83 ∨ (q = 70 ∧ i = 4)) → A' q i = A q i) ∧ chg (WL B σ T) σ σ' T T') := by
  have hL := hR.1.2.2.2.2.2.2.2.2.2.1
  have hB := hR.1.2.2.2.2.1
  have hth := hR.1.2.2.2.1 1 (by omega)
  have hS1 := hR.1.2.2.1.2.1
  obtain ⟨x, a1, a2, a3, a4⟩ := id hR.2.2.2.2.2.2.1
  have ex : x = nA := by omega
  subst ex
  obtain ⟨n0, m1, m2, hal, hinj, hse⟩ := id hR.2.2.2.2.2.2.2
  have en0 : n0 = mm := by omega
  rw [en0] at hal hse m2
  have hal0 := hal
  obtain ⟨⟨mc, hl'⟩, hE74⟩ := hal
  rw [List.length_map, List.length_range] at hl'
  obtain ⟨hXd, hx, r1, r2, r3⟩ := id hX
  have hpl := k_placeOf (th := th) (d := d) hR hE hl0 hm r1
  have hk := k_accountNumbered (th := th) (d := d) (v := c_who o L) hL a2 a3 (fun i hi => (a4 i hi).2.1)
  rw [sub_eq hR hE hn] at hk
  have eU3 : R_un f 83 0 = c_un o L 437 0 := hE.1.2.2.2.2.1 0
  have eU3k : R_un f 83 1000 = c_un o L 437 1000 := hE.1.2.2.2.2.1 1000
  refine cl_go dt_130 90 [] dt_130_k rfl ?_
  intro C J hC hJ
  conv => whnf
  refine ⟨_, jx_getF_of (hx) rfl, ?_⟩
  conv => whnf
  refine ⟨jx_isC_of hL, hC _ _ _ _ ((hk.up (by omega)).mp ?_)⟩
  rintro r s1 ⟨hr, hs1⟩
  rw [hs1]
  rcases hr with ⟨e1, rfl⟩ | ⟨e1, rfl⟩
  · obtain ⟨i, hi⟩ : ∃ i, i = R_sub f x := ⟨_, rfl⟩
    have hix : i < x := by
      have := R_ac_r (f := f) (v := c_who o L) x 0
      rw [sub_eq hR hE hn] at this
      have := this e1
      omega
    have hf0 : R_fst f x mm pv = if ¬ R_so f mm 0 = 16 ∨ mm = 16 then (5012, f) else if R_fre f i = 0 then (4012, f) else (2001, R_grnt (R_of (R_beg0 f mm i) mm pv) mm i) := by
      unfold R_fst
      rw [if_neg e1, ← hi]
    rw [← hi] at e1 ⊢
    obtain ⟨dA, oA, -⟩ := a4 i hix
    have oA' : σ.1 (A 10 i) = some (.inr (10, [.long (f.2 36 i), .long (f.2 37 i), .long (f.2 38 i), .long (f.2 39 i)])) := oA
    have hne : A 10 i ≠ X := fun z => by
      have h1 := dA.2.2
      rw [z, hXd.2.2] at h1
      omega
    conv => whnf
    refine ⟨_, jx_getF_of (hx) rfl, ?_⟩
    conv => whnf
    refine ⟨jx_isC_of hL, hC _ _ _ _ ((hpl.up (by omega)).mp ?_)⟩
    rintro r s2 ⟨hr2, hs2⟩
    rw [hs2]
    rcases hr2 with ⟨e2, rfl⟩ | ⟨e2, rfl⟩
    · rw [if_pos (Or.inl e2)] at hf0
      have sm := R_so_r (f := f) mm 0 e2
      conv => whnf
      refine ⟨fun (_ : 0 ≤ Int32.ofNat (R_so f mm 0)) => ?_, fun (h2 : ¬ 0 ≤ Int32.ofNat (R_so f mm 0)) => absurd (Int32.le_iff_toInt_le.mpr (by rw [i32_ofNat (by omega)]; exact Int.natCast_nonneg _)) h2⟩
      conv => whnf
      rw [hf0]
      exact ⟨rfl, A, T, gr, en, hR, hX, hT, by omega, by omega, fun _ _ _ => rfl, ⟨fun _ _ _ => rfl, Nat.le_refl _, fun _ _ => rfl⟩⟩
    · conv => whnf
      refine jx_no (show ¬ (0 : Int32) ≤ -1 by decide) ?_
      conv => whnf
      refine ⟨_, jx_getF_of (hL) rfl, ?_⟩
      conv => whnf
      refine ⟨jx_isC_of hl', hC _ _ _ _ (((k_size (d := d) hl').up (by omega)).mp ?_)⟩
      rintro r s3 ⟨rfl, hs3⟩
      rw [hs3]
      conv => whnf
      refine ⟨fun (h3 : Int32.ofNat mm < 16) => ?_, fun (h3 : ¬ Int32.ofNat mm < 16) => ?_⟩
      · have hm16 : mm < 16 := by
          rw [Int32.lt_iff_toInt_lt, i32_ofNat (by omega), show (16 : Int32).toInt = 16 by decide] at h3
          omega
        rw [if_neg (fun z => z.elim (fun z => z e2) (fun z => by omega))] at hf0
        conv => whnf
        refine ⟨jx_isC_of oA', hC _ _ _ _ (((k_free (d := d) oA').up (by omega)).mp ?_)⟩
        rintro r s4 ⟨rfl, hs4⟩
        rw [hs4]
        conv => whnf
        refine ⟨fun (h4 : ¬ lg_cmp (f.2 37 i - f.2 38 i) 0 = 0) => ?_, fun (h4 : ¬ ¬ lg_cmp (f.2 37 i - f.2 38 i) 0 = 0) => ?_⟩
        · rw [if_neg (show ¬ R_fre f i = 0 from fun z => h4 (lg_cmp_z.mpr z))] at hf0
          obtain ⟨N, hN⟩ : ∃ N, N = σ.2.1 := ⟨_, rfl⟩
          conv => whnf
          obtain ⟨σ1, hσ1⟩ : ∃ σ1, σ1 = jx_mk σ (.inr (8, tb_df 8)) 8 := ⟨_, rfl⟩
          rw [← hσ1]
          have h18 : σ1.1 N = some (.inr (8, [.null, .null, .long 0, .long 0, .null, .null, .null, .int 0])) := by rw [hσ1, hN]; exact jx_mk_eq
          have o1 : ∀ a, a ≠ N → σ1.1 a = σ.1 a := fun a h => by rw [hσ1]; exact jx_mk_ne (by rw [← hN]; exact h)
          have n1 : σ1.2.1 = N + 1 ∧ σ1.2.2 = σ.2.2 + 8 := by rw [hσ1, hN]; exact ⟨rfl, rfl⟩
          have lX : X < N := by rw [hN]; exact hXd.2.1
          have lA : A 10 i < N := by rw [hN]; exact dA.2.1
          have hx1 := (o1 X (by omega)).trans hx
          rw [← hN]
          refine hC _ _ _ _ (((k_sesInit (d := d) (a := A 10 i) h18 hx1 (by omega) rfl rfl rfl rfl).up (by omega)).mp ?_)
          rintro r s5 ⟨rfl, p5, o5, n5⟩
          have hx5 := (o5 X (by omega)).trans hx1
          have a5 := (o5 (A 10 i) (by omega)).trans ((o1 _ (by omega)).trans oA')
          conv => whnf
          refine ⟨jx_isC_of p5, hC _ _ _ _ (((k_reserve (d := d) p5 a5 hx5 (by omega) (by omega) hne).up (by omega)).mp ?_)⟩
          rintro r s6 ⟨rfl, GG, hGG, p6, q6, x6, o6, n6⟩
          rw [show f.2 37 i - f.2 38 i = R_fre f i from rfl, c_un_m hu3, mnl_v, ← eU3k] at hGG
          have eGw : R_gw f i = GG := by rw [hGG]; rfl
          have N6 : s6.2 = σ1.2 := by rw [n6, n5]
          have o6' : ∀ a, a ≠ N → a ≠ A 10 i → a ≠ X → s6.1 a = σ.1 a := fun a h1 h2 h3 => (o6 a h1 h2 h3).trans ((o5 a h1).trans (o1 a h1))
          obtain ⟨T2, hT2⟩ : ∃ T2 : Nat → Nat, T2 = fun a => if a = N then 8 else T a := ⟨_, rfl⟩
          have hT2o : ∀ a, a ≠ N → T2 a = T a := fun a h => by rw [hT2]; exact if_neg h
          have hT2N : T2 N = 8 := by rw [hT2]; exact if_pos rfl
          have hch6 : chg (fun a => a = A 10 i ∨ a = X) σ s6 T T2 := ⟨fun a h hw => o6' a (by omega) (fun z => hw (Or.inl z)) (fun z => hw (Or.inr z)), by rw [N6, n1.1]; omega, fun a h => hT2o a (by omega)⟩
          have nd : ∀ a t, dy B σ T a t → t ≠ 7 → t ≠ 3000 + i → ¬ (a = A 10 i ∨ a = X) := fun a t h1 h2 h3 h => by
            rcases h with h | h
            · rw [h] at h1; exact absurd h1.2.2 (by rw [dA.2.2]; omega)
            · rw [h] at h1; exact absurd h1.2.2 (by rw [hXd.2.2]; omega)
          have hal6 : al_at th B s6 T2 (B + 8) (A 70 4) 74 ((List.range mm).map (A 8)) := hch6.al (by omega) (by have := dA.1; have := hXd.1; omega) (fun a h => nd a 74 h (by omega) (by omega)) hal0
          have hL6 : s6.1 (B + 6) = _ := (o6' (B + 6) (by omega) (by have := dA.1; omega) (by have := hXd.1; omega)).trans hL
          have hadd := k_add (th := th) (d := d) (x := N) hal6 (by rw [N6, n1.1]; omega) (by omega) (by omega) hth (by rw [o6' _ (by omega) (by have := dA.1; omega) (by have := hXd.1; omega)]; exact hS1) p6 (by rw [N6, n1.1]; omega) (by decide) (by omega) (by rw [List.length_map, List.length_range]; omega) (fun j y hy => by
            obtain ⟨hj, e⟩ := List.getElem?_eq_some_iff.mp hy
            rw [List.length_map, List.length_range] at hj
            have e2 : A 8 j = y := by simpa using e
            obtain ⟨d8, o8, -⟩ := hse j hj
            rw [e2] at d8 o8
            have h5 := d8.1
            have h6 := d8.2.1
            refine ⟨by omega, by rw [N6, n1.1]; omega, _, _, (o6' y (by omega) (fun z => ?_) (fun z => ?_)).trans o8, by decide⟩
            · have h1 := dA.2.2
              rw [← z, d8.2.2] at h1
              omega
            · have h1 := hXd.2.2
              rw [← z, d8.2.2] at h1
              omega)
          have hl6 : s6.1 (B + 8) = _ := (o6' (B + 8) (by omega) (by have := dA.1; omega) (by have := hXd.1; omega)).trans hl'
          conv => whnf
          refine ⟨_, jx_getF_of (hL6) rfl, ?_⟩
          conv => whnf
          refine ⟨jx_isC_of hl6, hC _ _ _ _ ((hadd.up (by omega)).mp ?_)⟩
          rintro r s7 ⟨rfl, E', T', b1, b2, b3, b4, b5, b6⟩
          rw [N6, n1.1] at b3 b5 b6
          rw [N6, n1.2] at b4
          conv => whnf
          rw [hf0]
          have hE70 : ¬ (A 70 4 = N) := fun z => by
            rcases hE74 with ⟨e, -⟩ | ⟨e, -⟩
            · omega
            · have := e.2.1; omega
          have hE10 : ¬ (A 10 i = A 70 4 ∧ B + 102 ≤ A 10 i) := fun z => by
            rcases hE74 with ⟨e, -⟩ | ⟨e, -⟩
            · omega
            · have h1 := e.2.2
              rw [← z.1, dA.2.2] at h1
              omega
          have hEX : ¬ (X = A 70 4 ∧ B + 102 ≤ X) := fun z => by
            rcases hE74 with ⟨e, -⟩ | ⟨e, -⟩
            · omega
            · have h1 := e.2.2
              rw [← z.1, hXd.2.2] at h1
              omega
          have k7 : ∀ a, a < N + 1 → a ≠ B + 8 → ¬ (a = A 70 4 ∧ B + 102 ≤ a) → s7.1 a = s6.1 a := fun a h1 h2 h3 => b2.1 a (by rw [N6, n1.1]; exact h1) (fun z => z.elim h2 h3)
          have hch7 : chg (fun a => a = B + 8 ∨ a = A 70 4 ∧ B + 102 ≤ a ∨ a = A 10 i ∨ a = X) σ s7 T T' := ⟨fun a h1 hw => by
            rw [k7 a (by omega) (fun z => hw (Or.inl z)) (fun z => hw (Or.inr (Or.inl z)))]
            exact o6' a (by omega) (fun z => hw (Or.inr (Or.inr (Or.inl z)))) (fun z => hw (Or.inr (Or.inr (Or.inr z)))), by have := b2.2.1; rw [N6, n1.1] at this; omega, fun a h1 => by rw [b6 a (by omega), hT2o a (by omega)]⟩
          obtain ⟨F, hF⟩ : ∃ F, F = R_grnt (R_of (R_beg0 f mm i) mm pv) mm i := ⟨_, rfl⟩
          obtain ⟨F0, hF0⟩ : ∃ F0, F0 = R_of (R_beg0 f mm i) mm pv := ⟨_, rfl⟩
          have oF0 : ∀ q j, q ≠ 40 → q ≠ 41 → q ≠ 42 → q ≠ 43 → q ≠ 44 → q ≠ 47 → q ≠ 48 → F0.1 q j = f.1 q j := fun q j z1 z2 z3 z4 z5 z6 z7 => by rw [hF0, of_o z3 z4 (by omega), beg0_o (by omega)]
          have lF0 : ∀ q j, q ≠ 46 → F0.2 q j = f.2 q j := fun q j z => by rw [hF0, of_l (by omega)]; rfl
          have eGF : R_gw F0 i = GG := by
            rw [← eGw]
            unfold R_gw R_fre
            rw [un_eq (f := f) (fun q j hq => oF0 q j (by omega) (by omega) (by omega) (by omega) (by omega) (by omega) (by omega)), lF0 37 i (by omega), lF0 38 i (by omega)]
          have F45 : F.2 45 mm = GG := by rw [hF, grnt_45, ← hF0, eGF]
          have g0 := (gw_v hM hn hix (un_0 (by rw [eU3]; exact hu3))).1
          rw [eGw] at g0
          have RR := hR.beg (F := F) (N := N) (E' := E') (T' := T') hm hm16 (ac := i) (by omega) hE hl0 hl1 hl2 hX hp hp4 hpv hN hch7 (by have := b2.2.1; rw [N6, n1.1] at this; omega) (by rw [b6 N (by omega)]; exact hT2N) hF b1 (by rw [k7 N (by omega) (by omega) (fun z => hE70 z.1.symm), p6, F45]) (by
            rw [k7 (A 10 i) (by omega) (by have := dA.1; omega) hE10, q6]
            unfold ca_e
            rw [hF, ← hF0, grnt_38, eGF, grnt_l (by omega) (by omega) (by omega), grnt_l (by omega) (by omega) (by omega), grnt_l (by omega) (by omega) (by omega), lF0 36 i (by omega), lF0 37 i (by omega), lF0 38 i (by omega), lF0 39 i (by omega)])
          rw [← hF]
          have nw81 : ∀ a, dy B σ T a 81 → ¬ (a = B + 8 ∨ a = A 70 4 ∧ B + 102 ≤ a ∨ a = A 10 i ∨ a = X) := fun a hd z => by
            rcases z with z | z | z
            · have := hd.1; omega
            · rcases hE74 with ⟨e, -⟩ | ⟨e, -⟩
              · omega
              · have h1 := e.2.2
                rw [← z.1, hd.2.2] at h1
                omega
            · exact nd a 81 hd (by omega) (by omega) z
          refine ⟨rfl, _, T', GG, en, RR, ⟨hch7.mv hXd, ?_, hch7.ro nw81 r1, hch7.ro nw81 r2, hch7.ro nw81 r3⟩, ⟨Or.inr ⟨fun z => ?_, by rw [hF]; exact grnt_89, ?_⟩, ?_⟩, by omega, by omega, fun q j z => ?_, hch7.mono (fun a _ h => ?_)⟩
          · rw [k7 X (by omega) (by have := hXd.1; omega) hEX]
            exact x6
          · rw [z] at g0
            exact absurd g0 (by decide)
          · rw [hF, grnt_90, ← hF0, eGF]
          · have e91 : F.1 91 0 = f.1 91 0 := by rw [hF, grnt_o (by omega), ← hF0, oF0 _ _ (by omega) (by omega) (by omega) (by omega) (by omega) (by omega) (by omega)]
            rw [e91]
            exact hT.2
          · show (if _ then _ else if _ then _ else if _ then _ else if _ then _ else if _ then _ else _) = _
            rw [if_neg (by omega), if_neg (by omega), if_neg (by omega), if_neg (by omega), if_neg (by omega)]
          · rcases h with h | h | h | h
            · exact Or.inl h
            · rcases hE74 with ⟨e, -⟩ | ⟨e, -⟩
              · omega
              · exact Or.inr ⟨74, by rw [h.1]; exact e, Or.inl rfl⟩
            · exact Or.inr ⟨3000 + i, by rw [h]; exact dA, Or.inr (Or.inr (Or.inr ⟨by omega, by omega⟩))⟩
            · exact Or.inr ⟨7, by rw [h]; exact hXd, Or.inr (Or.inr (Or.inl rfl))⟩
        · rw [if_pos (show R_fre f i = 0 from lg_cmp_z.mp (Decidable.not_not.mp h4))] at hf0
          conv => whnf
          rw [hf0]
          exact ⟨rfl, A, T, gr, en, hR, hX, hT, by omega, by omega, fun _ _ _ => rfl, ⟨fun _ _ _ => rfl, Nat.le_refl _, fun _ _ => rfl⟩⟩
      · have hm16 : mm = 16 := by
          rw [Int32.lt_iff_toInt_lt, i32_ofNat (by omega), show (16 : Int32).toInt = 16 by decide] at h3
          omega
        rw [if_pos (Or.inr hm16)] at hf0
        conv => whnf
        rw [hf0]
        exact ⟨rfl, A, T, gr, en, hR, hX, hT, by omega, by omega, fun _ _ _ => rfl, ⟨fun _ _ _ => rfl, Nat.le_refl _, fun _ _ => rfl⟩⟩
  · have hf0 : R_fst f x mm pv = (5030, f) := by unfold R_fst; rw [if_pos e1]
    conv => whnf
    rw [hf0]
    exact ⟨rfl, A, T, gr, en, hR, hX, hT, by omega, by omega, fun _ _ _ => rfl, ⟨fun _ _ _ => rfl, Nat.le_refl _, fun _ _ => rfl⟩⟩
end JxBegin
