/-! THE CLASS: a CREDIT that came before -/
section JxKeptof
variable {th : Nat → Nat} {B b d n k R L bb q : Nat} {xl : List Int32} {σ σ' : jx_S} {f f0 g : jx_F} {A : Nat → Nat → Nat} {G : Nat → Nat → Int32} {T : Nat → Nat} {o : Nat → Int32} {c w z ev cv : Int32} {Q : Option Value → jx_S → Prop}
theorem nar_e (x : Int32) : vp_nar .byte x = x.toInt8.toInt32 := by simp [vp_nar, narrow]
theorem nar_nar (x : Int32) : vp_nar .byte (vp_nar .byte x) = vp_nar .byte x := by rw [nar_e x, nar_b]
theorem i8_back (x : Int8) : x.toInt32.toInt8 = x := by simp
theorem R_bs_66 {i : Nat} (hi : i ≠ 0) : ∀ (bs : List Int32) (f : jx_F), (R_bs f bs).1 66 i = f.1 66 i
  | [], _ => rfl
  | y :: bs, f => (R_bs_66 hi bs (R_b f y)).trans (by unfold R_b; rw [rf_ui_ne (by omega), rf_ui_ne (by omega)])
theorem kat_iff {N : Nat} {hh : Nat → Int32} (hE : CRE o L bb f) (hl : c_len o L 264 ≤ 40) (hp0 : fst o 264 (top o L) ≠ 0) (h73 : f.1 73 0 = w4 o 16) (hN : (f.1 62 (41 * k)).toInt = (N : Int)) (hN4 : N ≤ 40) (hr : ∀ j, j < N → hh j = f.1 62 (41 * k + 1 + j)) : (f.1 63 k = w4 o 16 ∧ fst o 264 (top o L) ≠ 0 ∧ sz o (fst o 264 (top o L)) - 8 = N ∧ ∀ j, j < N → o (fst o 264 (top o L) + 8 + j) = hh j) ↔ R_kat f k := by
  obtain ⟨a1, a2, a3⟩ := hE.2 1 (by omega)
  have eS : R_hSk f 1 = bb + (fst o 264 (top o L) + 8) := i32_nat a1
  have e62 : f.1 62 (41 * k) = Int32.ofNat N := i32_eq hN (by omega)
  unfold R_kat R_isT
  rw [i32_nat hN, eS, a2, e62, h73]
  constructor
  · rintro ⟨z0, -, z1, z2⟩
    refine ⟨z0, by rw [← z1]; rfl, fun j hj => ?_⟩
    rw [show bb + (fst o 264 (top o L) + 8) + j = bb + (fst o (kc 1) (top o L) + 8) + j from rfl, a3, ← hr j hj]
    exact z2 j hj
  · rintro ⟨z0, z1, z2⟩
    refine ⟨z0, hp0, ofN_inj (by have : c_len o L 264 = sz o (fst o 264 (top o L)) - 8 := rfl; omega) (by omega) z1, fun j hj => ?_⟩
    have := z2 j hj
    rw [show bb + (fst o 264 (top o L) + 8) + j = bb + (fst o (kc 1) (top o L) + 8) + j from rfl, a3] at this
    rw [hr j hj]
    exact this
theorem k_ko_l (hR : RelC th B b xl σ f A G T) (hM : MB σ (B + 9) R L o w z c ev) (hbo : ∀ j, j < L → isb (o j)) (hE : CRE o L bb f) (hC : CRM o L) (h73 : f.1 73 0 = w4 o 16) (hn : (f.1 59 0).toInt = (n : Int)) : ∀ (r k : Nat), k + r = n → (R_ksf f r k ≠ 33 → Q (some (.ref (A 9 (R_ksf f r k)))) σ) → (R_ksf f r k = 33 → Q (some .null) σ) → cl_fj th (d + 3) 113 34 [(0, .ref B), (1, .int (Int32.ofNat (fst o 264 (top o L)))), (2, .int (w4 o 16)), (3, .int (Int32.ofNat k))] [] σ Q
  | 0, k, hk, h1, h2 => by
    obtain ⟨n0, m1, m2, hal, hinj, hke⟩ := id hR.2.2.2.2.2.1
    have en : n0 = n := by omega
    rw [en] at hal hke m2
    obtain ⟨⟨mc, hl'⟩, -⟩ := hal
    rw [List.length_map, List.length_range] at hl'
    refine cl_at dt_113 60 [] dt_113_k ?_
    intro C J hC' hJ
    conv => whnf
    refine ⟨_, jx_getF_of (hR.X) rfl, ?_⟩
    conv => whnf
    refine ⟨jx_isC_of hl', hC' _ _ _ _ (((k_size (d := d) hl').up (by omega)).mp ?_)⟩
    rintro r' s1 ⟨rfl, hs1⟩
    rw [hs1]
    conv => whnf
    refine jx_yes (show Int32.ofNat n ≤ Int32.ofNat k by rw [nle (by omega) (by omega)]; omega) ?_
    conv => whnf
    exact h2 rfl
  | r + 1, k, hk, h1, h2 => by
    obtain ⟨n0, m1, m2, hal, hinj, hke⟩ := id hR.2.2.2.2.2.1
    have en : n0 = n := by omega
    rw [en] at hal hke m2
    have hal0 := hal
    obtain ⟨⟨mc, hl'⟩, -⟩ := hal
    rw [List.length_map, List.length_range] at hl'
    obtain ⟨-, -, s2, ⟨N, hN, hN4, hrd, hh, hrow, hrv⟩, -⟩ := hke k (by omega)
    obtain ⟨c1, c2, c3, c4, c5⟩ := hC.1 264 (Or.inr (Or.inl rfl))
    have hl1 : c_len o L 264 ≤ 40 := by show sz o (fst o 264 (top o L)) - 8 ≤ 40; omega
    have s2' : σ.1 (A 9 k) = some (.inr (9, [.ref (A 91 k), .int (f.1 63 k), .int (f.1 64 k - 240), .ref (A 92 k)])) := s2
    have hki : (Int32.ofNat k).toInt = (k : Int) := i32_ofNat (by omega)
    have iff := kat_iff (k := k) (hh := hh) hE hl1 c1 h73 hN hN4 (fun j hj => (hrv j hj).1)
    have go : ¬ R_kat f k → cl_fj th (d + 3) 113 90 [(0, .ref B), (1, .int (Int32.ofNat (fst o 264 (top o L)))), (2, .int (w4 o 16)), (3, .int (Int32.ofNat k))] [] σ Q := by
      intro hno
      have e : R_ksf f (r + 1) k = R_ksf f r (k + 1) := by
        show (@ite _ _ (Classical.propDecidable _) _ _) = _
        rw [if_neg hno]
      rw [e] at h1 h2
      have k1 : Int32.ofNat k + Int32.ofInt 1 = Int32.ofNat (k + 1) := nadd rfl (by omega)
      have ih := k_ko_l hR hM hbo hE hC h73 hn r (k + 1) (by omega) h1 h2
      rw [← k1] at ih
      refine cl_at dt_113 60 [(34, [0, 1, 2, 3])] dt_113_k ?_
      intro C J hC' hJ
      conv => whnf
      exact hJ _ _ _ _ ih
    refine cl_at dt_113 60 [(90, [0, 1, 2, 3])] dt_113_k ?_
    intro C J hC' hJ
    conv => whnf
    refine ⟨_, jx_getF_of (hR.X) rfl, ?_⟩
    conv => whnf
    refine ⟨jx_isC_of hl', hC' _ _ _ _ (((k_size (d := d) hl').up (by omega)).mp ?_)⟩
    rintro r' s1 ⟨rfl, hs1⟩
    rw [hs1]
    conv => whnf
    refine jx_no (show ¬ Int32.ofNat n ≤ Int32.ofNat k by rw [nle (by omega) (by omega)]; omega) ?_
    conv => whnf
    refine ⟨_, jx_getF_of (hR.X) rfl, ?_⟩
    conv => whnf
    refine ⟨jx_isC_of hl', hC' _ _ _ _ ((k_get (d := d) hal0 hki (by simp [show k < n by omega] : ((List.range n).map (A 9))[k]? = some (A 9 k))).mp ?_)⟩
    rintro r' s3 ⟨rfl, hs3⟩
    rw [hs3]
    conv => whnf
    refine ⟨jx_cast_of s2' (by decide +kernel), ?_⟩
    conv => whnf
    refine ⟨_, jx_getF_of (s2') rfl, ?_⟩
    conv => whnf
    refine ⟨fun (e : ¬ f.1 63 k = w4 o 16) => ?_, fun (e : ¬ ¬ f.1 63 k = w4 o 16) => ?_⟩
    · conv => whnf
      exact hJ _ _ _ _ (go (fun y => e (iff.mpr y).1))
    · have e := Decidable.not_not.mp e
      conv => whnf
      refine ⟨_, jx_getF_of (hR.X) rfl, ?_⟩
      conv => whnf
      refine ⟨_, jx_getF_of (s2') rfl, ?_⟩
      conv => whnf
      refine ⟨jx_isC_of hM.1, hC' _ _ _ _ (((k_isText (dd := d) hM hbo (fun _ => ⟨by omega, by omega, by omega⟩) hrow (by decide) (fun j hj => (hrv j hj).2) (by omega)).up (by omega)).mp ?_)⟩
      rintro r' s4 ⟨hr4, hs4⟩
      rw [hs4]
      rcases hr4 with ⟨rfl, hr4⟩ | ⟨rfl, hr4⟩
      · have e' : R_ksf f (r + 1) k = k := by
          show (@ite _ _ (Classical.propDecidable _) _ _) = _
          rw [if_pos (iff.mp ⟨e, hr4⟩)]
        rw [e'] at h1
        conv => whnf
        refine jx_no (show ¬ (1 : Int32) = 0 by decide) ?_
        conv => whnf
        exact h1 (by omega)
      · conv => whnf
        refine jx_yes (show (0 : Int32) = 0 from rfl) ?_
        conv => whnf
        exact hJ _ _ _ _ (go (fun y => hr4 (iff.mpr y).2))
theorem k_keptOf {n0 : Nat} {R : Nat} (hR : RelC th B b xl σ f0 A G T) (hM : MB σ (B + 9) R L o w z c ev) (hRn : R ≠ B + 5 ∧ R ≠ A 70 2) (hl : 20 ≤ L) (hbo : ∀ j, j < L → isb (o j)) (hw : wf o 700 20 L) (hn0 : (f0.1 59 0).toInt = (n0 : Int)) (h320 : n0 ≤ 32) (hK : KT f0 n0) (hf : f = R_stale n0 f0) (hE : CRE o L bb f) (hC : CRM o L) (h73 : f.1 73 0 = w4 o 16) (hn : (f.1 59 0).toInt = (n : Int)) : jc th (d + 5) 113 [.ref B] σ (fun r σ' => ∃ A', RelC th B b xl σ' f A' G T ∧ (∀ q i, ¬ (q = 9 ∨ q = 91 ∨ q = 92) → A' q i = A q i) ∧ kp B σ σ' ∧ (∀ q, q ≠ B + 5 → q ≠ A 70 2 → σ'.1 q = σ.1 q) ∧ ((R_ksf f n 0 ≠ 33 ∧ r = some (.ref (A' 9 (R_ksf f n 0)))) ∨ (R_ksf f n 0 = 33 ∧ r = some .null))) := by
  have hL6 := hM.2.1
  have hB := hR.1.2.2.2.2.1
  refine cl_go dt_113 60 [(34, [0, 1, 2, 3])] dt_113_k rfl ?_
  intro C J hC' hJ
  conv => whnf
  refine ⟨jx_isC_of hR.X, hC' _ _ _ _ ((k_forget (d := d) hR hn0 h320 hK).mp ?_)⟩
  rintro r s1 ⟨rfl, A', R1, oA, k1, o1⟩
  rw [← hf] at R1
  have e70 : B + 9 ≠ A 70 2 := fun z' => by
    obtain ⟨_, _, _, hal, -⟩ := hR.2.2.2.2.2.1
    rcases hal.2 with ⟨e1, -⟩ | ⟨e1, -⟩
    · have := hR.1.2.2.2.1 1 (by omega)
      omega
    · have := e1.1; omega
  have M1 := hM.kp' (o1 (B + 9) (by omega) e70) (o1 R hRn.1 hRn.2)
  conv => whnf
  refine ⟨_, jx_getF_of (R1.X) rfl, ?_⟩
  conv => whnf
  refine ⟨_, jx_getF_of (R1.X) rfl, ?_⟩
  conv => whnf
  refine ⟨_, jx_getF_of (M1.1) rfl, ?_⟩
  conv => whnf
  refine ⟨jx_isC_of M1.1, hC' _ _ _ _ (((k_find (dd := d) (k := 700) (p := 20) (x := 264) M1 (Nat.le_refl L) hw (by omega) (by omega)).up (by omega)).mp ?_)⟩
  rintro r s2 ⟨rfl, hs2⟩
  rw [hs2]
  conv => whnf
  refine ⟨_, jx_getF_of (R1.X) rfl, ?_⟩
  conv => whnf
  refine ⟨jx_isC_of M1.1, hC' _ _ _ _ (((k_end (d := d) M1 hl).up (by omega)).mp ?_)⟩
  rintro r s3 ⟨rfl, hs3⟩
  rw [hs3]
  conv => whnf
  exact hJ _ _ _ _ (k_ko_l (d := d + 1) R1 M1 hbo hE hC h73 hn n 0 (by omega) (fun y => ⟨A', R1, oA, k1, o1, Or.inl ⟨y, rfl⟩⟩) (fun y => ⟨A', R1, oA, k1, o1, Or.inr ⟨y, rfl⟩⟩))
/-- the same ANSWER again, with the HOP of now -/
theorem k_again (hW : RW th B b xl σ f A T) (hk : (k : Int) < (f.1 59 0).toInt) (hk32 : k < 32) (hq : q < 8) (hcv : cv.toInt = ((q + 1 : Nat) : Int)) (h26 : ¬ f.1 26 (q + 1) = 0) {hv : Int32} (h72 : f.1 72 0 = hv) : ∀ (K : jx_S → Prop), (∀ σ', RW th B b xl σ' (R_go (R_aga f k) cv) A T → kp B σ σ' → K σ') → jc th (d + 1) 117 [.ref (A 9 k), .int hv] σ (fun r σ1 => r = none ∧ ∃ nw w, σ1.1 (A 9 k) = some (.inr (9, [.ref (A 91 k), .int (f.1 63 k), .int (f.1 64 k - 240), .ref (A 92 k)])) ∧ σ1.1 (A 92 k) = some (.inl (1, nw, .inl w)) ∧ nw ≤ 64 ∧ (∀ a, a < B + 102 → σ1.1 a = σ.1 a) ∧ jc th (d + 1) 54 [.ref (B + 14 + 3 * q), .ref (A 92 k), .int (Int32.ofNat nw)] σ1 (fun r σ' => r = none ∧ K σ')) := by
  intro K hK
  obtain ⟨G, hR, hls⟩ := id hW
  obtain ⟨n0, m1, m2, hal, hinj, hke⟩ := id hR.2.2.2.2.2.1
  obtain ⟨q1, q2, q3, ⟨n4, q4, q5, q6⟩, nw, w, q7, q8, q9, q10, q11, q12, q13⟩ := hke k (by omega)
  have q3' : σ.1 (A 9 k) = some (.inr (9, [.ref (A 91 k), .int (f.1 63 k), .int (f.1 64 k - 240), .ref (A 92 k)])) := q3
  have hB := hR.1.2.2.2.2.1
  refine (k_setHop (d := d) q3' q7 q8 q9).mp ?_
  rintro r s1 ⟨rfl, p1, o1, n1⟩
  have hch : chg (fun a => a = A 92 k) σ s1 T T := ⟨fun a _ h => o1 a h, by rw [n1]; exact Nat.le_refl _, fun _ _ => rfl⟩
  have nd : ∀ a t, dy B σ T a t → t ≠ 92 → ¬ (a = A 92 k) := fun a t hd ht z => by
    have := q2.2.2
    rw [← z, hd.2.2] at this
    exact ht this
  have hw' : ∀ j, j / 4 ≠ 3 → cn_pk (upd w 3 hv) j = cn_pk w j := fun j hj => cn_pk_eq (upd_ne hj)
  have R1 : RelC th B b xl s1 f A G T := by
    refine hR.kept hch (fun a h => Or.inr ⟨92, by rw [show a = A 92 k from h]; exact q2, Or.inr rfl⟩) (fun _ _ _ _ _ _ => rfl) (fun _ _ _ _ => rfl) (fun _ _ _ => rfl) ⟨n0, m1, m2, hch.al (by omega) (show ¬ B + 5 = A 92 k from fun z => by have := q2.1; omega) (fun a hd => nd a 72 hd (by omega)) hal, hinj, fun k' hk' => ?_⟩
    obtain ⟨e1, e2, e3, ⟨n5, e4, e5, e6⟩, nw', w', e7, e8, e9, e10, e11, e12, e13⟩ := hke k' hk'
    refine ⟨hch.mv e1, hch.mv e2, by rw [hch.eqv e1 (nd _ _ e1 (by omega))]; exact e3, ⟨n5, e4, e5, hch.ro (fun a hd => nd a 81 hd (by omega)) e6⟩, ?_⟩
    by_cases ek : k' = k
    · rw [ek] at e10 e12 ⊢
      have enw : nw = nw' := by omega
      refine ⟨nw, upd w 3 hv, p1, q8, q9, q10, by rw [upd_ne (by omega)]; exact q11, q12, fun j j1 j2 j3 => ?_⟩
      rw [hw' j (by omega)]
      exact q13 j j1 j2 j3
    · refine ⟨nw', w', ?_, e8, e9, e10, e11, e12, e13⟩
      rw [o1 _ (fun z => ek (hinj k' k hk' (by omega) z))]
      exact e7
  refine ⟨rfl, nw, upd w 3 hv, (o1 _ (nd _ _ q1 (by omega))).trans q3', p1, q9, fun a ha => o1 a (fun z => by have := q2.1; omega), ?_⟩
  have hW1 : RW th B b xl s1 f A T := ⟨G, R1, hls⟩
  obtain ⟨gg, hgg⟩ : ∃ gg, gg = R_aga f k := ⟨_, rfl⟩
  have g66 : (gg.1 66 0).toInt = ((4 * nw : Nat) : Int) := by rw [hgg, aga_66]; exact q10
  obtain ⟨bs, hbs⟩ : ∃ bs : List Int32, bs = (List.range (4 * nw)).map (fun j => gg.1 65 j) := ⟨_, rfl⟩
  have lbs : bs.length = 4 * nw := by rw [hbs, List.length_map, List.length_range]
  have gbs : ∀ j, j < 4 * nw → bs[j]? = some (gg.1 65 j) := fun j hj => by rw [hbs]; simp [hj]
  have hg0 : ∀ j, j < 4 * nw → j < 12 ∨ 16 ≤ j → gg.1 65 j = vp_nar .byte (f.1 60 (320 * k + j)) := fun j hj hj2 => by
    rw [hgg]
    unfold R_aga
    show (rf_ui (rf_ui (rf_ui (rf_ui _ 65 (12 + 0) _) 65 (12 + 1) _) 65 (12 + 2) _) 65 (12 + 3) _).1 65 j = _
    rw [rf_ui_ne (by omega), rf_ui_ne (by omega), rf_ui_ne (by omega), rf_ui_ne (by omega)]
    show (R_cy (rf_ui f 66 0 (f.1 61 k)) 60 (320 * k) 65 0 (f.1 61 k).toNatClampNeg).1 65 j = _
    rw [R_cy_v (by omega) (by rw [i32_nat q10]; omega), show 320 * k + (j - 0) = 320 * k + j by omega, rf_ui_ne (by omega)]
  have hgh : ∀ i, i < 4 → gg.1 65 (12 + i) = (hv >>> ((24 - 8 * Int32.ofNat i) &&& 31)).toInt8.toInt32 := fun i hi => by
    have ehq : ∀ F : jx_F, (∀ q j, q = 72 → F.1 q j = f.1 q j) → R_hq F i = (hv >>> ((24 - 8 * Int32.ofNat i) &&& 31)).toInt8.toInt32 := fun F hF => by unfold R_hq; rw [hF 72 0 rfl, h72]
    rw [hgg]
    unfold R_aga
    have hF : ∀ q j, q = 72 → (R_cy (rf_ui f 66 0 (f.1 61 k)) 60 (320 * k) 65 0 (f.1 61 k).toNatClampNeg).1 q j = f.1 q j := fun q j hq => by rw [R_cy_o (by omega), rf_ui_ne (by omega)]
    rw [← ehq _ hF]
    show (rf_ui (rf_ui (rf_ui (rf_ui _ 65 (12 + 0) _) 65 (12 + 1) _) 65 (12 + 2) _) 65 (12 + 3) _).1 65 (12 + i) = _
    rcases (show i = 0 ∨ i = 1 ∨ i = 2 ∨ i = 3 by omega) with rfl | rfl | rfl | rfl
    · rw [rf_ui_ne (by omega), rf_ui_ne (by omega), rf_ui_ne (by omega), rf_ui_eq]
    · rw [rf_ui_ne (by omega), rf_ui_ne (by omega), rf_ui_eq]
    · rw [rf_ui_ne (by omega), rf_ui_eq]
    · rw [rf_ui_eq]
  have isb65 : ∀ j, j < 4 * nw → vp_nar .byte (gg.1 65 j) = gg.1 65 j := fun j hj => by
    by_cases h : j < 12 ∨ 16 ≤ j
    · rw [hg0 j hj h]
      exact nar_nar _
    · rw [show j = 12 + (j - 12) by omega, hgh (j - 12) (by omega)]
      exact nar_b _
  have hdq : dq (upd w 3 hv) nw (om bs) := by
    refine ⟨by show (bs.map Int32.toInt8).length = 4 * nw; rw [List.length_map, lbs], fun j y j4 hy => ?_⟩
    have hj : j < 4 * nw := by
      have := (List.getElem?_eq_some_iff.mp hy).1
      rw [show (om bs).length = 4 * nw by show (bs.map Int32.toInt8).length = 4 * nw; rw [List.length_map, lbs]] at this
      exact this
    have ey : y = (gg.1 65 j).toInt8 := by
      have : (om bs)[j]? = some ((gg.1 65 j).toInt8) := by show (bs.map Int32.toInt8)[j]? = _; rw [List.getElem?_map, gbs j hj]; rfl
      rw [this] at hy
      exact (Option.some.inj hy).symm
    rw [ey]
    by_cases h : j < 12 ∨ 16 ≤ j
    · rw [hw' j (by omega), hg0 j hj h, ← q13 j j4 hj h, nar_8]
      exact (i8_back _).symm
    · have e : j = 12 + (j - 12) := by omega
      rw [e, hgh (j - 12) (by omega)]
      have e3 : (upd w 3 hv) 3 = hv := upd_eq
      rcases (show j - 12 = 0 ∨ j - 12 = 1 ∨ j - 12 = 2 ∨ j - 12 = 3 by omega) with e2 | e2 | e2 | e2
      · rw [e2]
        rw [show (24 - 8 * Int32.ofNat 0) &&& (31 : Int32) = 24 by decide]
        have := cn_pk_0 (upd w 3 hv) 3
        rw [e3] at this
        rw [show 12 + 0 = 4 * 3 by omega, this]
        exact (i8_back _).symm
      · rw [e2]
        rw [show (24 - 8 * Int32.ofNat 1) &&& (31 : Int32) = 16 by decide]
        have := cn_pk_1 (upd w 3 hv) 3
        rw [e3] at this
        rw [show 12 + 1 = 4 * 3 + 1 by omega, this]
        exact (i8_back _).symm
      · rw [e2]
        rw [show (24 - 8 * Int32.ofNat 2) &&& (31 : Int32) = 8 by decide]
        have := cn_pk_2 (upd w 3 hv) 3
        rw [e3] at this
        rw [show 12 + 2 = 4 * 3 + 2 by omega, this]
        exact (i8_back _).symm
      · rw [e2]
        rw [show (24 - 8 * Int32.ofNat 3) &&& (31 : Int32) = 0 by decide]
        have := cn_pk_3 (upd w 3 hv) 3
        rw [e3] at this
        rw [show 12 + 3 = 4 * 3 + 3 by omega, this]
        exact (i8_back _).symm
  have h0 : bs[0]? = some ((1 : Int32) >>> 0) := by
    rw [gbs 0 (by omega), hg0 0 (by omega) (by omega), show 320 * k + 0 = 320 * k from rfl, q12]
    decide
  have hfo := fo_w (w := upd w 3 hv) (n := nw) (bs := bs) q9 hdq h0 (by rw [upd_ne (by omega)]; exact q11)
  refine (k_sendR (d := d) (n := nw) (len := nw) (bs := bs) hW1 hq hcv h26 p1 (Nat.le_refl _) q9 (i32_ofNat (by omega)) lbs hfo).mp ?_
  rintro r s2 ⟨rfl, W2, k2⟩
  refine ⟨rfl, hK s2 (W2.eqf (fun u j hu => ?_) ?_) ((show kp B σ s1 from ⟨n1, fun a _ h2 => o1 a (fun z => by have := q2.1; omega)⟩).tr k2)⟩
  · have hs0 : ((rf_ui f 66 0 0).1 66 0).toInt = ((0 : Nat) : Int) := by rw [rf_ui_eq]; decide
    have hag : ag (4 * nw) (R_bs (rf_ui f 66 0 0) bs) gg := by
      refine ⟨fun a i h1 _ => ?_, ?_⟩
      · by_cases ea : a = 65
        · rw [ea]
          have := (R_bs_65 bs (rf_ui f 66 0 0) 0 hs0 (by omega)).1 i _ (gbs i (h1 ea))
          rw [Nat.zero_add] at this
          rw [this, ← nar_e]
          exact (isb65 i (h1 ea)).symm
        · by_cases eb : a = 66
          · rw [eb]
            by_cases ei : i = 0
            · rw [ei]
              have := R_bs_size bs (rf_ui f 66 0 0) 0 hs0 (by omega)
              exact Int32.toInt_inj.mp (by rw [this, g66, lbs, Nat.zero_add])
            · rw [hgg, R_bs_66 ei, rf_ui_ne (by omega)]
              unfold R_aga
              rw [h4_o (by omega), R_cy_o (by omega), rf_ui_ne (by omega)]
          · rw [hgg, aga_o ea eb, R_bs_o ea eb, rf_ui_ne (by omega)]
      · rw [hgg, aga_l, R_bs_l]
        rfl
    have hsz : ((R_bs (rf_ui f 66 0 0) bs).1 66 0).toInt = ((4 * nw : Nat) : Int) := by
      have := R_bs_size bs (rf_ui f 66 0 0) 0 hs0 (by omega)
      rw [this, lbs, Nat.zero_add]
    have := go_ag (c := cv) hag hsz (by omega)
    rw [← hgg]
    show _ = (R_go (R_bs (rf_ui f 66 0 0) bs) cv).1 u j
    by_cases hk6 : 59 ≤ u ∧ u ≤ 64
    · rw [R_go_o (by omega) (by omega) (by omega) (by omega), R_go_o (by omega) (by omega) (by omega) (by omega), hgg, aga_o (by omega) (by omega), R_bs_o (by omega) (by omega), rf_ui_ne (by omega)]
    · exact this.1 u j (by omega) hk6
  · rw [← hgg, R_go_l, hgg, aga_l, R_msg_l]
end JxKeptof
