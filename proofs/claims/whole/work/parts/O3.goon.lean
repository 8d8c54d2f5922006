/-! THE CLASS: a CREDIT that goes on, or ends -/
def WL (B : Nat) (σ : jx_S) (T : Nat → Nat) (a : Nat) : Prop := a = B + 8 ∨ ∃ t, dy B σ T a t ∧ (t = 74 ∨ t = 8 ∨ t = 7 ∨ (3000 ≤ t ∧ t < 3016))
section JxGoon
variable {th : Nat → Nat} {B b d m s ac i n k bb L X S H Z nA mm p : Nat} {xl : List Int32} {σ σ' σ'' : jx_S} {f f' f0 g F : jx_F} {A A' : Nat → Nat → Nat} {G : Nat → Nat → Int32} {T T' T'' : Nat → Nat} {W W' : Nat → Prop} {o : Nat → Int32} {pe : Value} {t pv : Int32} {gr en gg cc : Int64}
theorem chg.mono (h : chg W σ σ' T T') (hW : ∀ a, a < σ.2.1 → W a → W' a) : chg W' σ σ' T T' := ⟨fun a h1 h2 => h.1 a h1 (fun z => h2 (hW a h1 z)), h.2⟩
theorem WL.tr (h : chg (WL B σ T) σ σ' T T') (h' : chg (WL B σ' T') σ' σ'' T' T'') : chg (WL B σ T) σ σ'' T T'' := by
  refine ⟨fun a h1 h2 => ?_, Nat.le_trans h.2.1 h'.2.1, fun a h1 => ?_⟩
  · rw [h'.1 a (Nat.lt_of_lt_of_le h1 h.2.1) (fun z => h2 ?_), h.1 a h1 h2]
    rcases z with z | ⟨t, ⟨z1, z2, z3⟩, z4⟩
    · exact Or.inl z
    · exact Or.inr ⟨t, ⟨z1, h1, by rw [← h.2.2 a h1]; exact z3⟩, z4⟩
  · rw [h'.2.2 a (Nat.lt_of_lt_of_le h1 h.2.1), h.2.2 a h1]
theorem ro_eqv {a n : Nat} {o o' : Nat → Int32} (h : ro_at B σ T a n o) (e : ∀ j, j < n → o' j = o j) : ro_at B σ T a n o' := by
  obtain ⟨h1, hh, h2, h3⟩ := h
  exact ⟨h1, hh, h2, fun j hj => ⟨by rw [e j hj]; exact (h3 j hj).1, (h3 j hj).2⟩⟩
theorem cpT_v {S q at' N : Nat} (hq : q ≠ 29) : (R_cpT f k S q at' N).1 q at' = vp_nar .byte (f.1 78 k) ∧ ∀ j, j < N → (R_cpT f k S q at' N).1 q (at' + 1 + j) = vp_nar .byte (f.1 29 (S + j)) := by
  unfold R_cpT
  refine ⟨by rw [R_cy_o (by omega), rf_ui_eq], fun j hj => ?_⟩
  rw [R_cy_v (by omega) (by omega), show at' + 1 + j - (at' + 1) = j by omega, rf_ui_ne (by omega)]
theorem nar_n {n : Nat} (h : n ≤ 40) : vp_nar .byte (Int32.ofNat n) = Int32.ofNat n := nar_s (n := n) (i32_ofNat (by omega)) (by omega)
/-- a row out of the message -/
theorem row_v {q : Nat} (h : CRE o L bb f) (hk : k < 3) (hl : c_len o L (kc k) ≤ 40) (hr : ro_at B σ T H (c_len o L (kc k)) (c_row o L (kc k))) (hF0 : F.1 q (41 * s) = vp_nar .byte (f.1 78 k)) (hF1 : ∀ j, j < (f.1 78 k).toNatClampNeg → F.1 q (41 * s + 1 + j) = vp_nar .byte (f.1 29 (R_hSk f k + j))) : ∃ n : Nat, (F.1 q (41 * s)).toInt = (n : Int) ∧ n ≤ 40 ∧ ro_at B σ T H n (fun j => F.1 q (41 * s + 1 + j)) := by
  obtain ⟨a1, a2, a3⟩ := h.2 k hk
  have e78 : (f.1 78 k).toInt = ((c_len o L (kc k) : Nat) : Int) := by rw [a2]; exact i32_ofNat (by omega)
  have eS : R_hSk f k = bb + (fst o (kc k) (top o L) + 8) := i32_nat a1
  refine ⟨c_len o L (kc k), ?_, hl, ro_eqv hr (fun j hj => ?_)⟩
  · rw [hF0, a2, nar_n hl]
    exact i32_ofNat (by omega)
  · rw [hF1 j (by rw [i32_nat e78]; exact hj), eS, a3]
    obtain ⟨-, hh, -, h3⟩ := hr
    obtain ⟨z1, z2⟩ := h3 j hj
    rw [← z1]
    exact z2
theorem of_row42 : (R_of f s pv).1 42 (41 * s) = vp_nar .byte (f.1 78 1) ∧ ∀ j, j < (f.1 78 1).toNatClampNeg → (R_of f s pv).1 42 (41 * s + 1 + j) = vp_nar .byte (f.1 29 (R_hSk f 1 + j)) := by
  have o0 : ∀ q j, q ≠ 47 → q ≠ 48 → (R_of0 f s pv).1 q j = f.1 q j := fun q j z1 z2 => by
    unfold R_of0
    rw [rf_ui_ne (by omega), rf_ui_ne (by omega)]
    rfl
  obtain ⟨c1, c2⟩ := cpT_v (f := R_of0 f s pv) (k := 1) (S := R_hSk f 1) (q := 42) (at' := 41 * s) (N := (f.1 78 1).toNatClampNeg) (by omega)
  have e : ∀ j, (R_of f s pv).1 42 j = (R_cpT (R_of0 f s pv) 1 (R_hSk f 1) 42 (41 * s) (f.1 78 1).toNatClampNeg).1 42 j := fun j => by
    show (R_cpT _ _ _ _ _ _).1 42 j = _
    unfold R_cpT
    rw [R_cy_o (by omega), rf_ui_ne (by omega)]
  rw [o0 _ _ (by omega) (by omega)] at c1
  refine ⟨by rw [e, c1], fun j hj => ?_⟩
  have := c2 j hj
  rw [o0 _ _ (by omega) (by omega)] at this
  rw [e, this]
theorem of_row43 : (R_of f s pv).1 43 (41 * s) = vp_nar .byte (f.1 78 2) ∧ ∀ j, j < (f.1 78 2).toNatClampNeg → (R_of f s pv).1 43 (41 * s + 1 + j) = vp_nar .byte (f.1 29 (R_hSk f 2 + j)) := by
  have o0 : ∀ q j, q ≠ 47 → q ≠ 48 → q ≠ 42 → (R_cpT (R_of0 f s pv) 1 (R_hSk f 1) 42 (41 * s) (f.1 78 1).toNatClampNeg).1 q j = f.1 q j := fun q j z1 z2 z3 => by
    unfold R_cpT R_of0
    rw [R_cy_o (by omega), rf_ui_ne (by omega), rf_ui_ne (by omega), rf_ui_ne (by omega)]
    rfl
  obtain ⟨c1, c2⟩ := cpT_v (f := R_cpT (R_of0 f s pv) 1 (R_hSk f 1) 42 (41 * s) (f.1 78 1).toNatClampNeg) (k := 2) (S := R_hSk f 2) (q := 43) (at' := 41 * s) (N := (f.1 78 2).toNatClampNeg) (by omega)
  rw [o0 _ _ (by omega) (by omega) (by omega)] at c1
  refine ⟨c1, fun j hj => ?_⟩
  have := c2 j hj
  rw [o0 _ _ (by omega) (by omega) (by omega)] at this
  exact this
theorem of_47 : (R_of f s pv).1 47 s = pv + 1 := by
  show (R_cpT _ _ _ _ _ _).1 47 s = _
  unfold R_cpT
  rw [R_cy_o (by omega), rf_ui_ne (by omega)]
  show (R_cpT _ _ _ _ _ _).1 47 s = _
  unfold R_cpT
  rw [R_cy_o (by omega), rf_ui_ne (by omega)]
  unfold R_of0
  rw [rf_ui_ne (by omega), rf_ui_eq]
theorem of_48 : (R_of f s pv).1 48 s = f.1 1 0 + 600 := by
  show (R_cpT _ _ _ _ _ _).1 48 s = _
  unfold R_cpT
  rw [R_cy_o (by omega), rf_ui_ne (by omega)]
  show (R_cpT _ _ _ _ _ _).1 48 s = _
  unfold R_cpT
  rw [R_cy_o (by omega), rf_ui_ne (by omega)]
  unfold R_of0
  exact rf_ui_eq
theorem of_46 : (R_of f s pv).2 46 s = R_cnt f := rf_ul_eq
theorem of_42o {q j : Nat} (hq : q = 42 ∨ q = 43) (hl1 : (f.1 78 1).toNatClampNeg ≤ 40) (hl2 : (f.1 78 2).toNatClampNeg ≤ 40) (h : ¬ (41 * s ≤ j ∧ j < 41 * s + 41)) : (R_of f s pv).1 q j = f.1 q j := by
  unfold R_of R_cpT
  rw [R_cy_o (by omega), rf_ui_ne (by omega), R_cy_o (by omega), rf_ui_ne (by omega)]
  unfold R_of0
  rw [rf_ui_ne (by omega), rf_ui_ne (by omega)]
  rfl
theorem typ_c (h : CRE o L bb f) : R_typ f = c_typ o L := by unfold R_typ c_typ; rw [h.1.1]
theorem cnt_c (h : CRE o L bb f) : R_cnt f = c_cnt o L := by unfold R_cnt c_cnt; rw [h.1.2.1]
theorem mnl_v {x y : Int64} : mnl x y = if x.toInt < y.toInt then x else y := by
  unfold mnl
  by_cases h : y < x
  · rw [if_pos h]
    rw [i64_lt] at h
    rw [if_neg (by omega)]
  · rw [if_neg h]
    rw [i64_lt] at h
    by_cases h2 : x.toInt < y.toInt
    · rw [if_pos h2]
    · rw [if_neg h2]
      exact Int64.toInt_inj.mp (by omega)
theorem cnt_eq (h : ∀ q j, q = 29 ∨ q = 67 ∨ q = 77 → f'.1 q j = f.1 q j) : R_cnt f' = R_cnt f := by unfold R_cnt; rw [n4_eq h]
/-- the SESSION after its CREDIT -/
theorem RelC.gon (hR : RelC th B b xl σ f A G T) (hm : (f.1 40 0).toInt = (mm : Int)) (hs : s < mm) (hac : ac = R_acn f s) (hE : CRE o L bb f) (hl1 : c_len o L 264 ≤ 40) (hl2 : c_len o L 296 ≤ 40) (hX : CX B σ T X S H Z pe t o L gr en) (hp : (p : Int) < (f.1 7 0).toInt) (hp4 : p < 4) (hpv : pv = Int32.ofNat p) (hch : chg (fun a => a = A 8 s ∨ a = A 10 ac ∨ a = X) σ σ' T T)
    (oF : ∀ q j, q ≠ 89 → F.1 q j = (R_of (R_chs f s) s pv).1 q j) (lF : ∀ q j, ¬ (q = 45 ∧ j = s) → ¬ (q = 38 ∧ j = ac) → q ≠ 90 → F.2 q j = (R_of (R_chs f s) s pv).2 q j)
    (h8 : σ'.1 (A 8 s) = some (.inr (8, [.ref (A 81 s), .ref (A 10 ac), .long (F.2 45 s), .long (c_cnt o L), .ref H, .ref Z, .ref (A 6 p), .int (f.1 1 0 + 600)]))) (h10 : σ'.1 (A 10 ac) = some (ca_e F ac)) : RelC th B b xl σ' F (fun q i => if q = 82 ∧ i = s then H else if q = 83 ∧ i = s then Z else A q i) G T := by
  obtain ⟨b1, b2, b3, b4, b5, b6, b7, b8, b9⟩ := hR.sob hm hs
  have hrs := hR.se (s := s) (by omega)
  rw [← hac] at b1 b2 b4 b5 b7 b9
  have e78a : (f.1 78 1).toNatClampNeg ≤ 40 := by rw [(hE.2 1 (by omega)).2.1, i32_nat (n := c_len o L (kc 1)) (i32_ofNat (by have : c_len o L (kc 1) = c_len o L 264 := rfl; omega))]; exact hl1
  have e78b : (f.1 78 2).toNatClampNeg ≤ 40 := by rw [(hE.2 2 (by omega)).2.1, i32_nat (n := c_len o L (kc 2)) (i32_ofNat (by have : c_len o L (kc 2) = c_len o L 296 := rfl; omega))]; exact hl2
  have vo : ∀ q j, ¬ (q = 45 ∧ j = s) → ¬ ((37 ≤ q ∧ q ≤ 39) ∧ j = ac) → (R_chs f s).2 q j = f.2 q j := fun q j z1 z2 => by
    unfold R_chs R_rel R_rsv
    rw [rf_ul_ne (by omega), show R_acn (R_chg f (R_acn f s) (R_chv f s)) s = ac by rw [hac]; rfl, rf_ul_ne (by omega)]
    unfold R_chg
    rw [← hac, rf_ul_ne (by omega), rf_ul_ne (by omega)]
  have hEc : CRE o L bb (R_chs f s) := hE.eq (fun _ _ _ => rfl)
  have hx7 := hX.1
  have nX8 : X ≠ A 8 s := fun z => by
    have h1 := hx7.2.2
    have h2 := hrs.1.2.2
    rw [z] at h1
    omega
  obtain ⟨q1, q2, q3, q4, ⟨k5, q5, q6, q7⟩, -, -⟩ := hrs
  have nw : ∀ a, dy B σ T a 81 → ¬ (a = A 8 s ∨ a = A 10 ac ∨ a = X) := fun a hd z => by
    rcases z with z | z | z
    · have h1 := q1.2.2
      rw [← z, hd.2.2] at h1
      omega
    · obtain ⟨x, a1, a2, a3, a4⟩ := id hR.2.2.2.2.2.2.1
      have h1 := (a4 ac (by omega)).1.2.2
      rw [← z, hd.2.2] at h1
      omega
    · have h1 := hx7.2.2
      rw [← z, hd.2.2] at h1
      omega
  obtain ⟨r1, r2, r3⟩ := hX.2.2
  have rH := hch.ro nw r2
  have rZ := hch.ro nw r3
  have p47 : (Int32.ofNat p + 1) = Int32.ofNat (p + 1) := nadd rfl (by omega)
  have F47 : F.1 47 s = Int32.ofNat (p + 1) := by rw [oF 47 s (by omega), of_47, hpv, p47]
  obtain ⟨A'', hA''⟩ : ∃ A'' : Nat → Nat → Nat, A'' = (fun q i => if q = 82 ∧ i = s then H else if q = 83 ∧ i = s then Z else A q i) := ⟨_, rfl⟩
  have c82 : A'' 82 s = H := by rw [hA'']; exact if_pos ⟨rfl, rfl⟩
  have c83 : A'' 83 s = Z := by rw [hA'']; exact (if_neg (by omega)).trans (if_pos ⟨rfl, rfl⟩)
  have co : ∀ q i, ¬ ((q = 82 ∨ q = 83) ∧ i = s) → A'' q i = A q i := fun q i z => by rw [hA'']; exact (if_neg (by omega)).trans (if_neg (by omega))
  rw [← hA'']
  refine hR.sa7 (ac := ac) (A' := A'') (W := fun a => a = A 8 s ∨ a = A 10 ac ∨ a = X) hm hs b1 hch (fun a h => ?_) ?_ h10 (fun q j z1 z2 z3 z4 z5 => ?_) (fun q j z1 z2 z3 => ?_) (fun q i z => co q i (by omega))
  · rcases h with h | h | h
    · exact Or.inl h
    · exact Or.inr (Or.inl h)
    · exact Or.inr (Or.inr (by rw [h]; exact hx7))
  · refine ⟨?_, ?_, ?_, ?_, ⟨k5, ?_, q6, ?_⟩, ?_, ?_⟩
    · rw [co 8 s (by omega)]
      exact hch.mv q1
    · rw [co 8 s (by omega), h8]
      unfold cs_e
      have e44 : (F.1 44 s).toNatClampNeg = ac := by rw [oF 44 s (by omega), of_o (by omega) (by omega) (by omega), hac]; rfl
      have e46 : F.2 46 s = c_cnt o L := by rw [lF 46 s (by omega) (by omega) (by omega), of_46, cnt_c hEc]
      have e48 : F.1 48 s = f.1 1 0 + 600 := by rw [oF 48 s (by omega), of_48]; rfl
      have ecp : va_rf (cp_ref A'' (Int32.ofNat (p + 1))) = .ref (A 6 p) := by
        unfold cp_ref
        rw [if_neg (ofN_ne (by omega) (by omega)), i32_nat (n := p + 1) (i32_ofNat (by omega)), show p + 1 - 1 = p by omega, co 6 p (by omega)]
        rfl
      rw [e44, e46, e48, F47, ecp, co 81 s (by omega), co 10 ac (by omega), c82, c83]
    · refine ⟨ac, ?_, ?_⟩
      · rw [oF 44 s (by omega), of_o (by omega) (by omega) (by omega)]
        exact b2
      · rw [oF 35 0 (by omega), of_o (by omega) (by omega) (by omega)]
        exact b1
    · refine ⟨p, by rw [F47]; exact i32_ofNat (by omega), ?_⟩
      rw [oF 7 0 (by omega), of_o (by omega) (by omega) (by omega)]
      exact hp
    · rw [oF 41 _ (by omega), of_o (by omega) (by omega) (by omega)]
      exact q5
    · rw [co 81 s (by omega)]
      refine ro_eqv (hch.ro nw q7) (fun j hj => ?_)
      show F.1 41 _ = f.1 41 _
      rw [oF 41 _ (by omega), of_o (by omega) (by omega) (by omega)]
      rfl
    · rw [c82]
      refine row_v (k := 1) (q := 42) hEc (by omega) hl1 rH (by rw [oF 42 _ (by omega)]; exact of_row42.1) (fun j hj => by rw [oF 42 _ (by omega)]; exact of_row42.2 j hj)
    · rw [c83]
      refine row_v (k := 2) (q := 43) hEc (by omega) hl2 rZ (by rw [oF 43 _ (by omega)]; exact of_row43.1) (fun j hj => by rw [oF 43 _ (by omega)]; exact of_row43.2 j hj)
  · rw [oF q j (by omega)]
    by_cases e : q = 42 ∨ q = 43
    · rw [of_42o (f := R_chs f s) (s := s) (j := j) e e78a e78b (by omega)]
      rfl
    · rw [of_o (by omega) (by omega) (by omega)]
      rfl
  · by_cases e1 : q = 38 ∧ j = ac
    · exact absurd ⟨by omega, e1.2⟩ z2
    · rw [lF q j (by omega) e1 (by omega), of_l (by omega)]
      exact vo q j (by omega) z2
end JxGoon
