/-! THE CLASS: a message -/
noncomputable def R_cf (g : jx_F) (cv : Int32) (p : Nat) : jx_F := R_crd g (g.1 35 0).toNatClampNeg (g.1 40 0).toNatClampNeg (g.1 59 0).toNatClampNeg ((R_stale (g.1 59 0).toNatClampNeg g).1 59 0).toNatClampNeg cv (Int32.ofNat p)
def R_pp (g : jx_F) (c : Nat) : Nat := (g.1 27 c).toNatClampNeg - 1
noncomputable def R_hdl (g : jx_F) (n a c : Nat) (cv : Int32) : jx_F := if g.1 27 c = 0 then R_strange g n a c cv else if g.1 11 (R_pp g c) = 7 then R_edg g n a (R_pp g c) else if g.1 11 (R_pp g c) = 5 ∨ g.1 11 (R_pp g c) = 6 then (if (R_hm g (R_pp g c)).1 = true then R_oo (R_hm g (R_pp g c)).2 n a (R_pp g c) cv (R_cf (R_hm g (R_pp g c)).2 cv (R_pp g c)) else (R_hm g (R_pp g c)).2) else if g.1 28 c = 2 then rf_ui g 2 0 (g.1 2 0 + 1) else R_opn g n a c (R_pp g c)
section JxDomsg
variable {th : Nat → Nat} {B b d n a x h L p q : Nat} {xl : List Int32} {σ σ' : jx_S} {f f2 g : jx_F} {A A' : Nat → Nat → Nat} {G : Nat → Nat → Int32} {T T' : Nat → Nat} {o : Nat → Int32} {cv : Int32}
theorem conn_c (hS : PS g n a) (hp : p < n) (c1 : 1 ≤ q + 1) (hq : q < 8) (h27 : g.1 27 (q + 1) = Int32.ofNat (p + 1)) (ho : R_open (g.1 11 p)) : R_conn g p = Int32.ofNat (q + 1) := by
  obtain ⟨st, o, kk, u, ⟨t11, t11'⟩, ⟨t13, t13'⟩, ⟨t14, t14'⟩, -, -, -, -, -, -, -, -, q12, q13, -⟩ := hS.2.2.1 p hp
  have f11 : g.1 11 p = Int32.ofNat st := i32_eq t11 (by omega)
  have st56 : st = 5 ∨ st = 6 := by
    unfold R_open at ho
    rw [f11] at ho
    rcases ho with e | e
    · exact Or.inl (ofN_inj (y := 5) (by omega) (by omega) e)
    · exact Or.inr (ofN_inj (y := 6) (by omega) (by omega) e)
  unfold R_conn
  rcases hS.cof hp c1 (by omega) h27 with z | z
  · rcases st56 with e | e
    · have := (q12 e).1
      rw [z.2, i32_ofNat (by omega)] at t13
      omega
    · rw [if_pos (Or.inl (by rw [f11, e]; rfl))]
      exact z.2
  · rcases st56 with e | e
    · have k0 := (q12 e).2
      rw [if_neg (fun y => by
        rcases y with y | y
        · rw [f11, e] at y; exact absurd y (by decide)
        · have := (i32_z t14).mp y; omega)]
      exact z.2.1
    · have := (q13 e).2.1
      rw [z.2.1, i32_ofNat (by omega)] at t14
      omega
theorem MV.look {bb : Nat} (hV : MV n a x f2) (hL : LK o L bb f2 g) : MV n a x g ∧ FM n a x f2 g ∧ g.1 34 0 = f2.1 34 0 := by
  obtain ⟨hS, hM, hK, h35, ⟨t, h1, ht⟩, n0, h59, h32, hT⟩ := hV
  have o := hL.fr
  have l := hL.fl
  refine ⟨⟨hS.ofx (hS.1.1.of (o _ _ (by omega)) (fun c => o _ _ (by omega)) (fun c => o _ _ (by omega))) (fun u j hu => o u j (by simp only [List.mem_cons, List.not_mem_nil, or_false] at hu; omega)) (fun j => by rw [l]), MI.of hM (o _ _ (by omega)) (o _ _ (by omega)) (fun s => o _ _ (by omega)) (fun u j _ => by rw [l]), hK.of (fun u j hu => ?_), by rw [o 35 0 (by omega)]; exact h35, ⟨t, by rw [o 1 0 (by omega)]; exact h1, ht⟩, n0, by rw [o 59 0 (by omega)]; exact h59, h32, fun i hi => by rw [o 64 i (by omega), o 1 0 (by omega)]; exact hT i hi⟩, ⟨fun u j _ _ _ _ _ hu => ?_, fun u j hu _ => o u j (by omega), fun u j _ _ _ _ => by rw [l]⟩, o 34 0 (by omega)⟩
  · rcases hu with rfl | rfl | rfl | rfl
    · exact o _ _ (by omega)
    · exact o _ _ (by omega)
    · exact o _ _ (by omega)
    · exact hL.k6 j
  · rcases hu with hu | rfl
    · exact o u j (by omega)
    · exact hL.k6 j
theorem k_doMessage (hW : RW th B b xl σ f A T) (hq : q < 8) (hcv : cv.toInt = ((q + 1 : Nat) : Int)) (h26 : f.1 26 (q + 1) = 2) (h30 : (f.1 30 (q + 1)).toInt = (L : Int)) (hl : 20 ≤ L) (hL6 : L ≤ 600) (hf2 : f2 = rf_ui f 30 (q + 1) 0) (hg : g = R_look f2 (600 * (q + 1)) L) (hV2 : MV n a x f2) (h34 : (f2.1 34 0).toInt = (h : Int)) (hh : h < 2147480000) : jc th (d + 12) 76 [.ref B, .ref (B + 14 + 3 * q)] σ (fun r σ' => r = none ∧ ∃ A' T', RW th B b xl σ' (R_hdl g n a (q + 1) cv) A' T' ∧ kpm B A A' 9 610 σ σ') := by
  obtain ⟨G, hR, hls⟩ := id hW
  have hB := hR.1.2.2.2.2.1
  obtain ⟨hce, hrow⟩ := hR.2.2.1 q hq
  rcases hrow with e | ⟨d1, d2, ⟨y, ny, y1, y2, y3, y4⟩, hout⟩
  · rw [h26] at e; exact absurd e.2.2.2.2.1 (by decide)
  have eny : ny = L := by omega
  rw [eny] at y4
  have hce' : σ.1 (B + 14 + 3 * q) = some (.inr (5, [.int (Int32.ofNat (q + 1)), .int (f.1 26 (q + 1)), va_rf (cp_ref A (f.1 27 (q + 1))), .int (f.1 28 (q + 1)), .int (f.1 30 (q + 1)), .int (f.1 32 (q + 1)), .int (G 1 q), .int (f.1 33 (q + 1)), .ref (A 51 q), .ref (A 52 q)])) := hce
  have of2 : ∀ u j, ¬ (u = 30 ∧ j = q + 1) → f2.1 u j = f.1 u j := fun u j z => by rw [hf2, rf_ui_ne z]
  have lf2 : f2.2 = f.2 := by rw [hf2]; rfl
  obtain ⟨o, ho⟩ : ∃ o, o = oct f2 (600 * (q + 1)) := ⟨_, rfl⟩
  have hoj : ∀ j, o j = f.1 29 (600 * (q + 1) + j) := fun j => by rw [ho]; exact of2 29 _ (by omega)
  have hbo : ∀ j, j < L → isb (o j) := fun j hj => by rw [hoj, ← (y4 j hj).1]; exact (y4 j hj).2
  have e30 : f.1 30 (q + 1) = Int32.ofNat L := i32_eq h30 (by omega)
  have hL : LK o L (600 * (q + 1)) f2 g := by rw [hg]; exact lk_spec ho (fun k hk => hV2.2.2.1.1 k hk) hL6
  obtain ⟨hV, -, e34⟩ := hV2.look hL
  rw [← e34] at h34
  obtain ⟨hS, hMI, hKQ, h35, -, n0, h59, h32, hKT⟩ := id hV
  have hn4 := hS.1.2.2.1
  have h7 := hS.1.2.1
  have og : ∀ u j, ¬ (67 ≤ u ∧ u ≤ 87) → ¬ (u = 30 ∧ j = q + 1) → g.1 u j = f.1 u j := fun u j z1 z2 => by rw [hL.fr u j z1, of2 u j z2]
  have g26 : g.1 26 (q + 1) = 2 := by rw [og 26 _ (by omega) (by omega)]; exact h26
  have bb8 : 600 * (q + 1) ≤ 4800 := by omega
  obtain ⟨o9, l9, w9, z9, c9, e9, h9⟩ := hR.1.2.2.2.2.2.2.2.2.2.2
  refine cl_go dt_76 90 [] dt_76_k rfl ?_
  intro C J hC hJ
  conv => whnf
  refine ⟨_, jx_getF_of (hR.X) rfl, ?_⟩
  conv => whnf
  refine ⟨_, jx_getF_of (hce') rfl, ?_⟩
  conv => whnf
  refine ⟨_, jx_getF_of (hce') rfl, ?_⟩
  conv => whnf
  rw [e30]
  refine ⟨jx_isC_of h9, hC _ _ _ _ (((k_msgread (dd := d) (L := L) (o := o) h9 (by have := d1.1; omega) y1 (fun j hj => by rw [hoj]; exact (y4 j hj).1) hl hL6 hR.1.2.2.1 (fun j hj => by have := hR.1.2.2.2.1 j hj; omega)).up (by omega)).mp ?_)⟩
  rintro r s1 ⟨rfl, M1, o1, n1⟩
  have hc1 := (o1 (B + 14 + 3 * q) (by omega)).trans hce'
  have R1 : RelC th B b xl s1 f A G T := hR.gm ⟨fun v z1 z2 => o1 v (fun y => z2 (Or.inl y)), by rw [n1]; exact Nat.le_refl _, fun _ _ => rfl⟩ ⟨_, _, _, _, _, _, M1.1⟩ ⟨by rw [o1 _ (by omega)]; exact hR.2.1.1, by rw [o1 _ (by omega)]; exact hR.2.1.2.1⟩
  conv => whnf
  refine putK hc1 rfl (fit_i _) (fun s2 p2 o2 n2 => ?_)
  conv => whnf
  have R2 : RelC th B b xl s2 f2 A G T := by
    refine R1.conn (c := q) hq (fun v hv => o2 v hv) n2 (fun u j z => of2 u j (fun y => z ⟨by rw [y.1]; decide, y.2⟩)) lf2 (fun _ _ _ => rfl) ⟨?_, Or.inr ⟨⟨d1.1, by rw [n2, n1]; exact d1.2.1, d1.2.2⟩, ⟨d2.1, by rw [n2, n1]; exact d2.2.1, d2.2.2⟩, ⟨y, 0, ?_, ?_, by omega, fun j hj => by omega⟩, ?_⟩⟩
    · rw [p2]
      unfold cc_e
      rw [of2 26 _ (by omega), of2 27 _ (by omega), of2 28 _ (by omega), of2 32 _ (by omega), of2 33 _ (by omega), show f2.1 30 (q + 1) = 0 by rw [hf2, rf_ui_eq]]
      rfl
    · rw [o2 _ (by have := d1.1; omega), o1 _ (by have := d1.1; omega)]; exact y1
    · rw [hf2, rf_ui_eq]; decide
    · obtain ⟨hh', aa, zz, w1, w2, w3, w4, w5, w6⟩ := hout
      exact ⟨hh', aa, zz, by rw [o2 _ (by have := d2.1; omega), o1 _ (by have := d2.1; omega)]; exact w1, by rw [of2 33 _ (by omega)]; exact w2, w3, by rw [of2 32 _ (by omega)]; exact w4, w5, fun i hi => by rw [of2 31 _ (by omega)]; exact w6 i hi⟩
  have R2g : RelC th B b xl s2 g A G T := R2.eqf (fun u j z1 _ _ => hL.fr u j (by omega)) (fun u j _ _ => by rw [hL.fl])
  have W2 : RW th B b xl s2 g A T := ⟨G, R2g, by rw [og 2 0 (by omega) (by omega)]; exact hls⟩
  have M2 : MR s2 (B + 9) (A 51 q) L o := MB.kp' M1 (o2 (B + 9) (by omega)) (o2 (A 51 q) (by have := d1.1; omega))
  have kp2 : kp B σ s2 := ⟨by rw [n2, n1], fun v z1 z2 => by rw [o2 v (by omega), o1 v (by omega)]⟩
  have e27 : f.1 27 (q + 1) = g.1 27 (q + 1) := (og 27 _ (by omega) (by omega)).symm
  rw [e27] at p2
  have p2' : s2.1 (B + 14 + 3 * q) = some (.inr (5, [.int (Int32.ofNat (q + 1)), .int (f.1 26 (q + 1)), va_rf (cp_ref A (g.1 27 (q + 1))), .int (f.1 28 (q + 1)), .int 0, .int (f.1 32 (q + 1)), .int (G 1 q), .int (f.1 33 (q + 1)), .ref (A 51 q), .ref (A 52 q)])) := p2
  refine ⟨_, jx_getF_of (p2') rfl, ?_⟩
  conv => whnf
  unfold R_hdl
  by_cases h27 : g.1 27 (q + 1) = 0
  · rw [if_pos h27, show va_rf (cp_ref A (g.1 27 (q + 1))) = Value.null by unfold cp_ref; rw [if_pos h27]; rfl]
    conv => whnf
    refine ⟨jx_isC_of R2g.X, hC _ _ _ _ (((k_onStrange (d := d) W2 hS hKQ M2 hbo hl hL bb8 ho hq hcv g26 h27).up (by omega)).mp ?_)⟩
    rintro r s3 ⟨rfl, y1', y2'⟩
    conv => whnf
    exact ⟨rfl, A, T, y1', kpm.of_kp (kp2.tr y2')⟩
  · rw [if_neg h27]
    obtain ⟨p, hp, h27p⟩ := hS.peerOf (c := q + 1) (by omega) (by omega) h27
    have ep : R_pp g (q + 1) = p := by
      unfold R_pp
      rw [h27p, i32_nat (n := p + 1) (i32_ofNat (by omega))]
      omega
    rw [ep, show va_rf (cp_ref A (g.1 27 (q + 1))) = Value.ref (A 6 p) by
      unfold cp_ref
      rw [if_neg h27, h27p, i32_nat (n := p + 1) (i32_ofNat (by omega)), show p + 1 - 1 = p by omega]
      rfl]
    have hp7 : (p : Int) < (g.1 7 0).toInt := by omega
    have a2 := (R2g.pe hp7).2.1
    conv => whnf
    refine ⟨jx_isC_of a2, hC _ _ _ _ (((k_isOpen (d := d) R2g hp7).up (by omega)).mp ?_)⟩
    rintro r s3 ⟨hr3, hs3⟩
    rw [hs3]
    rcases hr3 with ⟨rfl, hop⟩ | ⟨rfl, hop⟩
    · have n7 : ¬ g.1 11 p = 7 := fun z => by rcases hop with y | y <;> (rw [y] at z; exact absurd z (by decide))
      rw [if_neg n7, if_pos (show g.1 11 p = 5 ∨ g.1 11 p = 6 from hop)]
      conv => whnf
      refine jx_no (show ¬ (1 : Int32) = 0 by decide) ?_
      conv => whnf
      refine ⟨jx_isC_of R2g.X, hC _ _ _ _ (((k_hasMore (d := d) W2 hS M2 hl hL hp).up (by omega)).mp ?_)⟩
      rintro r s4 ⟨rfl, W4, M4, k4⟩
      have S4 := SM.hm hS hp hop
      have V4 := hV.sm S4
      obtain ⟨g4, hg4⟩ : ∃ g4, g4 = (R_hm g p).2 := ⟨_, rfl⟩
      have o4 : ∀ u j, ¬ ((u = 15 ∨ u = 16 ∨ u = 17 ∨ u = 19) ∧ j = p) → u ≠ 2 → g4.1 u j = g.1 u j := fun u j z1 z2 => by rw [hg4]; exact hm_o z1 z2
      rw [← hg4] at W4 S4 V4 ⊢
      cases hm1 : (R_hm g p).1 with
      | true =>
        rw [if_pos rfl]
        obtain ⟨hL4, ho4⟩ := hL.mv ho (g' := g4) (fun u j hu => o4 u j (by omega) (by omega))
        obtain ⟨hS4, hMI4, hKQ4, h354, -, n04, h594, h324, hKT4⟩ := id V4
        obtain ⟨nk, s1', s2', s3'⟩ := R_stale_n n04 g4 h594 hKT4
        obtain ⟨G4, R4, -⟩ := id W4
        obtain ⟨mm, m40, -⟩ := id R4.2.2.2.2.2.2.2
        have eC : R_cf g4 cv p = R_crd g4 x mm n04 nk cv (Int32.ofNat p) := by
          unfold R_cf
          rw [i32_nat h354, i32_nat m40, i32_nat h594, i32_nat s1']
        rw [eC]
        conv => whnf
        refine jx_no (show ¬ (1 : Int32) = 0 by decide) ?_
        conv => whnf
        refine ⟨jx_isC_of R4.X, hC _ _ _ _ (((k_onOpen (d := d) (h := h) W4 hS4 M4 hl hbo hL4 bb8 ho4 hq hcv (by rw [o4 26 _ (by omega) (by omega), g26]; decide) hp (by rw [o4 11 p (by omega) (by omega)]; exact hop) (by
          rw [R_conn_eq (f := g) (o4 11 p (by omega) (by omega)) (o4 13 p (by omega) (by omega)) (o4 14 p (by omega) (by omega)), conn_c hS hp (by omega) hq h27p hop]
          exact (i32_eq hcv (by omega)).symm) (by rw [o4 34 0 (by omega) (by omega)]; exact h34) hh hMI4 h594 h324 hKT4 s1' h354 m40).up (by omega)).mp ?_)⟩
        rintro r s5 ⟨rfl, A', T', y1', y2'⟩
        conv => whnf
        have kk := kp2.tr k4
        exact ⟨rfl, A', T', y1', ⟨fun v z1 z2 => by rw [y2'.1 v z1 z2, kk.2 v z1 z2], by rw [← kk.1]; exact y2'.2.1, by rw [← kk.1]; exact y2'.2.2.1, by rw [← kk.1]; exact y2'.2.2.2.1, y2'.2.2.2.2⟩⟩
      | false =>
        rw [if_neg (by simp)]
        conv => whnf
        refine jx_yes (show (0 : Int32) = 0 from rfl) ?_
        conv => whnf
        exact ⟨rfl, A, T, W4, kpm.of_kp (kp2.tr k4)⟩
    · rw [show (if g.1 11 p = 5 ∨ g.1 11 p = 6 then (if (R_hm g p).1 = true then R_oo (R_hm g p).2 n a p cv (R_cf (R_hm g p).2 cv p) else (R_hm g p).2) else if g.1 28 (q + 1) = 2 then rf_ui g 2 0 (g.1 2 0 + 1) else R_opn g n a (q + 1) p) = if g.1 28 (q + 1) = 2 then rf_ui g 2 0 (g.1 2 0 + 1) else R_opn g n a (q + 1) p from if_neg hop]
      conv => whnf
      refine jx_yes (show (0 : Int32) = 0 from rfl) ?_
      conv => whnf
      refine ⟨_, jx_getF_of (a2) rfl, ?_⟩
      conv => whnf
      refine ⟨fun (e7 : ¬ g.1 11 p = 7) => ?_, fun (e7 : ¬ ¬ g.1 11 p = 7) => ?_⟩
      · rw [if_neg e7]
        conv => whnf
        refine ⟨_, jx_getF_of (p2') rfl, ?_⟩
        conv => whnf
        have e28 : f.1 28 (q + 1) = g.1 28 (q + 1) := (og 28 _ (by omega) (by omega)).symm
        rw [e28]
        refine ⟨fun (e1 : ¬ g.1 28 (q + 1) = 1) => ?_, fun (e1 : ¬ ¬ g.1 28 (q + 1) = 1) => ?_⟩
        · have e2 : g.1 28 (q + 1) = 2 := by
            rcases hS.cof hp (c := q + 1) (by omega) (by omega) h27p with z | z
            · exact absurd z.1 e1
            · exact z.1
          rw [if_pos e2]
          conv => whnf
          refine ⟨_, jx_getF_of (R2g.X) rfl, ?_⟩
          conv => whnf
          refine putK R2g.X rfl (fit_i _) (fun s5 p5 o5 n5 => ?_)
          conv => whnf
          obtain ⟨y1', y2'⟩ := RW.pas R2g (by rw [og 2 0 (by omega) (by omega)]; exact hls) p5 o5 n5
          exact ⟨rfl, A, T, y1', kpm.of_kp (kp2.tr y2')⟩
        · have e1 := Decidable.not_not.mp e1
          rw [if_neg (by rw [e1]; decide)]
          conv => whnf
          refine ⟨jx_isC_of R2g.X, hC _ _ _ _ (((k_onOwn (d := d) W2 hS M2 hbo hl hL bb8 ho hq hp g26 h27p e1 hop e7 h34 (by omega)).up (by omega)).mp ?_)⟩
          rintro r s5 ⟨rfl, y1', y2'⟩
          conv => whnf
          exact ⟨rfl, A, T, y1', kpm.of_kp (kp2.tr y2')⟩
      · have e7 := Decidable.not_not.mp e7
        rw [if_pos e7]
        conv => whnf
        refine ⟨jx_isC_of R2g.X, hC _ _ _ _ (((k_onEnding (d := d) W2 hS M2 hl hL hq hp h27p e7 h34 (by omega)).up (by omega)).mp ?_)⟩
        rintro r s5 ⟨rfl, y1', y2'⟩
        conv => whnf
        exact ⟨rfl, A, T, y1', kpm.of_kp (kp2.tr y2')⟩
end JxDomsg
