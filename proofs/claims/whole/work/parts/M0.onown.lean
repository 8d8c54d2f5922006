/-! THE CLASS: an answer to an OPENING, to an ENDING -/
section JxOnown
variable {th : Nat → Nat} {d B b n a R L bb q p k p0 : Nat} {xl : List Int32} {σ σ' : jx_S} {f f0 g : jx_F} {A : Nat → Nat → Nat} {G : Nat → Nat → Int32} {T : Nat → Nat} {o : Nat → Int32} {c w z ev cv : Int32}
theorem LK.og (hL : LK o L bb f0 g) (ho : o = oct f0 bb) : oct g bb = o := by
  rw [ho]
  funext j
  exact hL.fr 29 _ (by omega)
theorem LK.n4 (hL : LK o L bb f0 g) (h0 : g.1 74 0 = 0) (hb : bb ≤ 4800) (hL6 : L ≤ 600) (ho : o = oct f0 bb) (hk : k < 12) (hk2 : kdc (kc k) = 2) (hp : p0 = fst o (kc k) (top o L)) (hp0 : p0 ≠ 0) : p0 + 12 ≤ L ∧ R_nok g k ∧ R_n4 g k = w4 o (p0 + 8) := by
  obtain ⟨t1, t2, t3, t4, t5, t6, t7, t8⟩ := hL.tx h0 hb hL6 ho hk hp hp0
  obtain ⟨hS, -, hn, -⟩ := hL.si h0
  obtain ⟨-, s2, -⟩ := hS.1 k hk
  have hfa : fa o (kc k) (top o L) = p0 + 8 := by unfold fa; rw [← hp, if_neg hp0]
  rw [hfa] at s2
  rw [hk2] at t8
  have h4 : sz o p0 - 8 = 4 := by
    unfold okz at t8
    rw [if_neg (by decide), if_pos rfl] at t8
    exact decide_eq_true_iff.mp t8
  have e77 : (g.1 77 k).toInt = ((p0 + 8 : Nat) : Int) := by rw [s2]; exact i32_ofNat (by omega)
  have e67 : (g.1 67 0).toInt = (bb : Int) := by rw [hL.h67]; exact i32_ofNat (by omega)
  refine ⟨by omega, ⟨bb, p0 + 8, e67, e77, by omega⟩, ?_⟩
  unfold R_n4
  rw [i32_nat e67, i32_nat e77, hL.og ho]
theorem pmt_iff {y : Nat} {hh : Nat → Int32} (hL : LK o L bb f0 g) (h0 : g.1 74 0 = 0) (hb : bb ≤ 4800) (hL6 : L ≤ 600) (ho : o = oct f0 bb) (hp : p0 = fst o 264 (top o L)) (hp0 : p0 ≠ 0) (y1 : (g.1 9 p).toInt = (y : Int)) (y2 : y ≤ 40) (y4 : ∀ j, j < y → hh j = g.1 8 (40 * p + j) ∧ isb (hh j)) : (p0 ≠ 0 ∧ sz o p0 - 8 = y ∧ ∀ j, j < y → o (p0 + 8 + j) = hh j) ↔ R_pmt g p := by
  obtain ⟨t1, t2, t3, t4, t5, t6, t7, -⟩ := hL.tx h0 hb hL6 ho (k := 1) (by omega) (by rw [show kc 1 = 264 by decide]; exact hp) hp0
  have e9 : g.1 9 p = Int32.ofNat y := i32_eq y1 (by omega)
  have hS : R_hS g = bb + (p0 + 8) := i32_nat t1
  unfold R_pmt R_isT
  rw [hS, i32_nat y1, t2, e9]
  constructor
  · rintro ⟨-, z1, z2⟩
    exact ⟨by rw [z1], fun j hj => by rw [t7, z2 j hj]; exact (y4 j hj).1⟩
  · rintro ⟨z1, z2⟩
    exact ⟨hp0, ofN_inj (by omega) (by omega) z1, fun j hj => by rw [← t7, z2 j hj]; exact (y4 j hj).1.symm⟩
theorem mus_268 (h : ob o 4 &&& 128 = 0) : 268 ∈ mus o := by unfold mus; rw [if_pos h]; decide
/-- the field that counts what is lost -/
theorem PS.u2 {x : Int32} (hS : PS g n a) : PS (rf_ui g 2 0 x) n a := by
  refine hS.of ?_ (fun u j hu => rf_ui_ne (by simp only [List.mem_cons, List.not_mem_nil, or_false] at hu; omega)) (fun _ => rfl) (fun v hv => ?_) ?_
  · obtain ⟨⟨N, h1, h2⟩, h3⟩ := hS.1.1
    refine ⟨⟨N, by rw [rf_ui_ne (by omega)]; exact h1, h2⟩, fun v hv => ?_⟩
    rw [rf_ui_ne (by omega), rf_ui_ne (by omega)]
    exact h3 v hv
  · have := hS.2.2.2.2.1 v hv
    unfold PJ_p at this ⊢
    rw [rf_ui_ne (by omega), rf_ui_ne (by omega), rf_ui_ne (by omega)]
    exact this
  · rw [rf_ui_ne (by omega)]
    exact Int.le_refl _
set_option maxHeartbeats 4000000 in
theorem k_onOwn {h : Nat} (hW : RW th B b xl σ g A T) (hS : PS g n a) (hM : MR σ (B + 9) R L o) (hbo : ∀ j, j < L → isb (o j)) (hl : 20 ≤ L) (hL : LK o L bb f0 g) (hb : bb ≤ 4800) (ho : o = oct f0 bb) (hq : q < 8) (hp : p < n) (h26 : g.1 26 (q + 1) = 2) (h27 : g.1 27 (q + 1) = Int32.ofNat (p + 1)) (h28 : g.1 28 (q + 1) = 1) (hno : ¬ R_open (g.1 11 p)) (hn7 : ¬ g.1 11 p = 7) (h34 : (g.1 34 0).toInt = (h : Int)) (hh : h < 2147482000) : jc th (d + 9) 151 [.ref B, .ref (A 6 p), .ref (B + 14 + 3 * q)] σ (fun r σ' => r = none ∧ RW th B b xl σ' (R_opn g n a (q + 1) p) A T ∧ kp B σ σ') := by
  obtain ⟨G, hR, hls⟩ := id hW
  have hX := hR.X
  have hn4 := hS.1.2.2.1
  have hp7 : (p : Int) < (g.1 7 0).toInt := by rw [hS.1.2.1]; omega
  unfold MR at hM
  have hL6 := hM.2.1
  obtain ⟨-, a2, ⟨y, v1, v2, -, hhr, v3, v4⟩, -⟩ := hR.pe hp7
  obtain ⟨F, hF⟩ : ∃ F, F = R_opn g n a (q + 1) p := ⟨_, rfl⟩
  rw [← hF]
  obtain ⟨st, oo, kk, u, ⟨y1, y1'⟩, ⟨y2, y2'⟩, ⟨y3, y3'⟩, -, q5, q6, q7, q8, q9, q10, q11, q12, q13, q14, -⟩ := hS.2.2.1 p hp
  have e13 : g.1 13 p = Int32.ofNat (q + 1) := by
    rcases hS.cof hp (c := q + 1) (by omega) (by omega) h27 with z | z
    · exact z.2
    · have := z.1; rw [h28] at this; exact absurd this (by decide)
  have eoo : oo = q + 1 := by rw [e13, i32_ofNat (by omega)] at y2; omega
  have o26 : g.1 26 oo = 2 := by rw [eoo]; exact h26
  have hst : st = 2 ∨ st = 4 := by
    have e11 : g.1 11 p = Int32.ofNat st := i32_eq y1 (by omega)
    have n0 : st ≠ 0 := fun z => by have := (q7 z).1; omega
    have n1 : st ≠ 1 := fun z => by have := (q8 z).2.2; rw [o26] at this; exact absurd this (by decide)
    have n3 : st ≠ 3 := fun z => by have := (q10 z).2.2; rw [o26] at this; exact absurd this (by decide)
    have n5 : st ≠ 5 := fun z => hno (Or.inl (by rw [e11, z]; rfl))
    have n6 : st ≠ 6 := fun z => hno (Or.inr (by rw [e11, z]; rfl))
    have n7 : st ≠ 7 := fun z => hn7 (by rw [e11, z]; rfl)
    omega
  have tbad : ¬ R_good g p → cl_fj th (d + 8) 151 80 [(0, .ref B), (1, .ref (A 6 p)), (2, .ref (B + 14 + 3 * q))] [] σ (fun r σ' => r = none ∧ RW th B b xl σ' F A T ∧ kp B σ σ') := by
    intro hng
    have eF : F = R_drop (rf_ui g 2 0 (g.1 2 0 + 1)) n a (q + 1) := by rw [hF]; unfold R_opn; exact if_neg hng
    refine cl_at dt_151 40 [] dt_151_k ?_
    intro C J hC hJ
    conv => whnf
    refine ⟨_, jx_getF_of (hX) rfl, ?_⟩
    conv => whnf
    refine putK hX rfl (fit_i _) (fun s1 p1 o1 n1 => ?_)
    conv => whnf
    obtain ⟨hW1, hk1⟩ := RW.pas hR hls p1 o1 n1
    obtain ⟨G1, hR1, -⟩ := id hW1
    refine ⟨jx_isC_of hR1.X, hC _ _ _ _ (((k_closeAsGone (d := d) hW1 hS.u2 (by rw [rf_ui_ne (by omega)]; exact h34) hh hq).up (by omega)).mp ?_)⟩
    rintro r s2 ⟨rfl, hW2, hk2⟩
    conv => whnf
    exact ⟨rfl, by rw [eF]; exact hW2, hk1.tr hk2⟩
  have tgood : R_good g p → cl_fj th (d + 8) 151 66 [(0, .ref B), (1, .ref (A 6 p)), (2, .ref (B + 14 + 3 * q))] [] σ (fun r σ' => r = none ∧ RW th B b xl σ' F A T ∧ kp B σ σ') := by
    intro hgd
    have eF : F = R_become (if g.1 11 p = 4 then R_shut g (g.1 14 p).toNatClampNeg else g) n a p 6 := by rw [hF]; unfold R_opn; exact if_pos hgd
    have e2 : (if g.1 11 p = 4 then R_shut g (g.1 14 p).toNatClampNeg else g) = R_da2 g p := by
      unfold R_da2
      rcases hst with z | z
      · have k0 : kk = 0 := (q9 z).2.1
        rw [if_neg (fun w => by rw [w, show (4 : Int32).toInt = 4 by decide] at y1; omega), if_pos ((i32_z y3).mpr k0)]
      · have k0 : kk ≠ 0 := (q11 z).2.1
        rw [if_pos (show g.1 11 p = 4 from i32_eq (n := 4) (by rw [y1, z]) (by omega)), if_neg (fun w => k0 ((i32_z y3).mp w))]
    rw [e2] at eF
    obtain ⟨H, hH⟩ : ∃ H, H = R_da2 g p := ⟨_, rfl⟩
    rw [← hH] at eF
    have hHv : (∀ u j, ¬ ((u = 26 ∨ u = 27 ∨ u = 28 ∨ u = 30) ∧ j = kk ∧ kk ≠ 0) → ¬ (u = 14 ∧ j = p) → H.1 u j = g.1 u j) ∧ H.1 14 p = 0 := by
      rw [hH]
      unfold R_da2
      by_cases z : g.1 14 p = 0
      · rw [if_pos z]
        exact ⟨fun _ _ _ _ => rfl, z⟩
      · have k0 : kk ≠ 0 := fun w => z ((i32_z y3).mpr w)
        rw [if_neg z, i32_nat y3, R_shut_came (p := p) (by omega) (q6 k0).1 (q6 k0).2]
        exact ⟨fun u j h1 h2 => by rw [rf_ui_ne h2, R_shut0_o (fun w => h1 ⟨w.1, w.2, k0⟩)], rf_ui_eq⟩
    have hqk : q + 1 ≠ kk := fun w => by
      by_cases k0 : kk = 0
      · omega
      · have := (q6 k0).2
        rw [← w, h28] at this
        exact absurd this (by decide)
    refine cl_at dt_151 40 [] dt_151_k ?_
    intro C J hC hJ
    conv => whnf
    refine ⟨jx_isC_of a2, hC _ _ _ _ (((k_dropCameR (d := d) hR hp7 (by omega) y3 y3' q6).up (by omega)).mp ?_)⟩
    rintro r s1 ⟨rfl, hR1, hk1⟩
    rw [← hH] at hR1
    have H11 : H.1 11 p = g.1 11 p := hHv.1 11 p (by omega) (by omega)
    have H13 : H.1 13 p = Int32.ofNat (q + 1) := by rw [hHv.1 13 p (by omega) (by omega)]; exact e13
    have H26 : H.1 26 (q + 1) = 2 := by rw [hHv.1 26 _ (by omega) (by omega)]; exact h26
    have n13 : ¬ H.1 13 p = 0 := by rw [H13]; exact ofN_ne (by omega) (by omega)
    have hln : lnf H p = Int32.ofNat (q + 1) := by unfold lnf; rw [if_neg n13, H13]
    have hcn : R_conn (R_enter H p 6) p = lnf H p := by
      rw [hln]
      unfold R_conn
      have e11 : (R_enter H p 6).1 11 p = 6 := enter_v
      rw [if_pos (Or.inl e11), enter_o (by omega), H13]
    have hW1 : RW th B b xl s1 H A T := ⟨G, hR1, by rw [hHv.1 2 0 (by omega) (by omega)]; exact hls⟩
    conv => whnf
    refine ⟨jx_isC_of hR1.X, hC _ _ _ _ (((k_becomeOpen (d := d) (s := 6) hW1 (by rw [hHv.1 7 0 (by omega) (by omega)]; exact hp7) hq (by rw [hln]; exact i32_ofNat (by omega)) hcn (by rw [H26]; decide)).up (by omega)).mp ?_)⟩
    rintro r s2 ⟨rfl, hW2, hk2⟩
    conv => whnf
    refine ⟨rfl, ?_, hk1.tr hk2⟩
    rw [eF, R_become_ny (Or.inr rfl) (by rw [H11]; exact hno)]
    exact hW2
  refine cl_go dt_151 60 [(66, [0, 1, 2]), (80, [0, 1, 2])] dt_151_k rfl ?_
  intro C J hC hJ
  conv => whnf
  refine ⟨_, jx_getF_of (hX) rfl, ?_⟩
  conv => whnf
  refine ⟨_, jx_getF_of (a2) rfl, ?_⟩
  conv => whnf
  refine ⟨jx_isC_of hM.1, hC _ _ _ _ (((k_isAns (d := d) (x := 257) (hv := g.1 20 p) hM hl).up (by omega)).mp ?_)⟩
  rintro r s1 ⟨hr, hs1⟩
  rw [hs1]
  rcases hr with ⟨rfl, w0, r1, r2, r3⟩ | ⟨rfl, hr⟩
  · have g0 : g.1 74 0 = 0 := hL.wz.mpr w0
    have f268 := hL.has g0 268 (mus_268 r1)
    have f264 := hL.has g0 264 mus_h.1
    obtain ⟨n1, n2, n3⟩ := hL.n4 g0 hb hL6 ho (k := 7) (by omega) (by decide) (by rw [show kc 7 = 268 by decide]) f268
    have hw := top_in (hL.si g0).2.2.1
    conv => whnf
    refine jx_no (show ¬ (1 : Int32) = 0 by decide) ?_
    conv => whnf
    refine ⟨_, jx_getF_of (hX) rfl, ?_⟩
    conv => whnf
    refine ⟨jx_isC_of hM.1, hC _ _ _ _ (((k_numberOf (dd := d) (x := 268) hM hw (fun _ => n1)).up (by omega)).mp ?_)⟩
    rintro r s2 ⟨rfl, hs2⟩
    rw [hs2, if_neg f268, ← n3]
    conv => whnf
    refine ⟨fun (h2 : ¬ R_n4 g 7 = 2001) => ?_, fun (h2 : ¬ ¬ R_n4 g 7 = 2001) => ?_⟩
    · conv => whnf
      exact hJ _ _ _ _ (tbad (fun y => h2 y.2.2.1))
    have h2 := Decidable.not_not.mp h2
    conv => whnf
    refine ⟨_, jx_getF_of (hX) rfl, ?_⟩
    conv => whnf
    refine ⟨_, jx_getF_of (hX) rfl, ?_⟩
    conv => whnf
    refine ⟨_, jx_getF_of (hX) rfl, ?_⟩
    conv => whnf
    refine ⟨_, jx_getF_of (hM.1) rfl, ?_⟩
    conv => whnf
    refine ⟨jx_isC_of hM.1, hC _ _ _ _ (((k_find (dd := d) (k := 700) (p := 20) (x := 264) hM (Nat.le_refl L) hw (by omega) (by omega)).up (by omega)).mp ?_)⟩
    rintro r s3 ⟨rfl, hs3⟩
    rw [hs3]
    conv => whnf
    refine ⟨_, jx_getF_of (a2) rfl, ?_⟩
    conv => whnf
    obtain ⟨t1, t2, t3, t4, t5, t6, t7, -⟩ := hL.tx g0 hb hL6 ho (k := 1) (by omega) rfl (by rw [show kc 1 = 264 by decide]; exact f264)
    rw [show kc 1 = 264 by decide] at t4 t5 t6
    have pi := pmt_iff hL g0 hb hL6 ho rfl f264 v1 v2 v4
    refine ⟨jx_isC_of hM.1, hC _ _ _ _ (((k_isText (dd := d) (p := fst o 264 (tps o 700 20 L)) hM hbo (fun _ => ⟨t4, t5, t6⟩) v3 (by decide) (fun j hj => (v4 j hj).2) (by omega)).up (by omega)).mp ?_)⟩
    rintro r s4 ⟨hr4, hs4⟩
    rw [hs4]
    rcases hr4 with ⟨rfl, hr4⟩ | ⟨rfl, hr4⟩
    · conv => whnf
      refine jx_no (show ¬ (1 : Int32) = 0 by decide) ?_
      conv => whnf
      exact hJ _ _ _ _ (tgood ⟨⟨by rw [hL.h69]; exact r1, by rw [hL.h70]; exact r2, by rw [hL.h72]; exact r3⟩, g0, h2, pi.mp hr4⟩)
    · conv => whnf
      refine jx_yes (show (0 : Int32) = 0 from rfl) ?_
      conv => whnf
      exact hJ _ _ _ _ (tbad (fun y => hr4 (pi.mpr y.2.2.2)))
  · conv => whnf
    refine jx_yes (show (0 : Int32) = 0 from rfl) ?_
    conv => whnf
    refine hJ _ _ _ _ (tbad (fun y => hr ⟨hL.wz.mp y.2.1, ?_, ?_, ?_⟩))
    · rw [← hL.h69]; exact y.1.1
    · rw [← hL.h70]; exact y.1.2.1
    · rw [← hL.h72]; exact y.1.2.2
end JxOnown
