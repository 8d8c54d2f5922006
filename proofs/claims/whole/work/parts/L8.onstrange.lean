/-! THE CLASS: a message on a connection that belongs to no PEER -/
section JxOnstrange
variable {th : Nat → Nat} {d B b n a R L bb q p : Nat} {xl : List Int32} {σ σ' : jx_S} {f f0 g : jx_F} {A : Nat → Nat → Nat} {G : Nat → Nat → Int32} {T : Nat → Nat} {o : Nat → Int32} {c w z ev cv : Int32}
theorem k_closeW (hW : RW th B b xl σ g A T) (hq : q < 8) (h27 : g.1 27 (q + 1) = 0) : jc th (d + 1) 58 [.ref (B + 14 + 3 * q)] σ (fun r σ' => r = none ∧ RW th B b xl σ' (R_shut g (q + 1)) A T ∧ kp B σ σ') := by
  obtain ⟨G, hR, hls⟩ := hW
  refine (k_close (d := d) hR hq).mp ?_
  rintro r s1 ⟨rfl, hR1, hk1⟩
  have e : R_shut g (q + 1) = R_shut0 g (q + 1) := by unfold R_shut; rw [if_pos h27]
  rw [e]
  exact ⟨rfl, ⟨G, hR1, by rw [R_shut0_o (by omega)]; exact hls⟩, hk1⟩
/-- one more is passed over -/
theorem RW.pas (hR : RelC th B b xl σ g A G T) (hls : g.1 2 0 = lsum G 8) (hX : σ'.1 B = some (cx_e B g (A 0 0) (G 0 0 + 1))) (h1 : ∀ u, u ≠ B → σ'.1 u = σ.1 u) (h2 : σ'.2 = σ.2) : RW th B b xl σ' (rf_ui g 2 0 (g.1 2 0 + 1)) A T ∧ kp B σ σ' := by
  refine ⟨⟨incG G 0 0, hR.obj h1 h2 (fun u j _ _ _ _ h => rf_ui_ne (by omega)) (fun _ _ _ _ => rfl) (fun u j hu => if_neg (by omega)) ?_, ?_⟩, h2, fun u u1 u2 => h1 u (by omega)⟩
  · rw [hX]
    have e : incG G 0 0 0 0 = G 0 0 + 1 := if_pos ⟨rfl, rfl⟩
    rw [e]
    unfold cx_e
    rw [rf_ui_ne (by omega), rf_ui_ne (by omega), rf_ui_ne (by omega)]
  · rw [rf_ui_eq, lsum_0, hls]
set_option maxHeartbeats 4000000 in
theorem k_onStrange (hW : RW th B b xl σ g A T) (hS : PS g n a) (hK : KQ g) (hM : MR σ (B + 9) R L o) (hbo : ∀ j, j < L → isb (o j)) (hl : 20 ≤ L) (hL : LK o L bb f0 g) (hb : bb ≤ 4800) (ho : o = oct f0 bb) (hq : q < 8) (hcv : cv.toInt = ((q + 1 : Nat) : Int)) (h26 : g.1 26 (q + 1) = 2) (h27 : g.1 27 (q + 1) = 0) : jc th (d + 9) 95 [.ref B, .ref (B + 14 + 3 * q)] σ (fun r σ' => r = none ∧ RW th B b xl σ' (R_strange g n a (q + 1) cv) A T ∧ kp B σ σ') := by
  obtain ⟨G, hR, hls⟩ := id hW
  have hX := hR.X
  have hgk := hS.1
  have hn := hgk.2.1
  have hn4 := hgk.2.2.1
  have h26' : ¬ g.1 26 (q + 1) = 0 := by rw [h26]; decide
  unfold MR at hM
  have hL6 := hM.2.1
  obtain ⟨F, hF⟩ : ∃ F, F = R_strange g n a (q + 1) cv := ⟨_, rfl⟩
  rw [← hF]
  unfold R_strange at hF
  rw [hL.h69, hL.h70] at hF
  have tpas : F = R_shut (rf_ui g 2 0 (g.1 2 0 + 1)) (q + 1) → cl_fj th (d + 8) 95 56 [(0, .ref B), (1, .ref (B + 14 + 3 * q))] [] σ (fun r σ' => r = none ∧ RW th B b xl σ' F A T ∧ kp B σ σ') := by
    intro eF
    refine cl_at dt_95 40 [] dt_95_k ?_
    intro C J hC hJ
    conv => whnf
    refine ⟨_, jx_getF_of (hX) rfl, ?_⟩
    conv => whnf
    refine putK hX rfl (fit_i _) (fun s1 p1 o1 n1 => ?_)
    conv => whnf
    obtain ⟨hW1, hk1⟩ := RW.pas hR hls p1 o1 n1
    obtain ⟨G1, hR1, -⟩ := id hW1
    refine ⟨jx_isC_of (hR1.2.2.1 q hq).1, hC _ _ _ _ (((k_closeW (d := d) hW1 hq (by rw [rf_ui_ne (by omega)]; exact h27)).up (by omega)).mp ?_)⟩
    rintro r s2 ⟨rfl, hW2, hk2⟩
    conv => whnf
    exact ⟨rfl, by rw [eF]; exact hW2, hk1.tr hk2⟩
  have topen : ∀ p, R_pm g n = some p → g.1 74 0 = 0 → ¬ 0 < R_bad g (some p) → F = R_str2 (R_acc1 g (q + 1) cv p) n a p → cl_fj th (d + 8) 95 104 [(0, .ref B), (1, .ref (B + 14 + 3 * q)), (3, .ref (A 6 p))] [] σ (fun r σ' => r = none ∧ RW th B b xl σ' F A T ∧ kp B σ σ') := by
    intro p hpm w0 hbad eF
    have hpn := (R_pm_s n p hpm).1
    have hp7 : (p : Int) < (g.1 7 0).toInt := by omega
    have hst2 : g.1 11 p ≤ 2 := by
      have hbad : ¬ 0 < (if g.1 80 0 = 0 then (5010 : Int32) else if 2 < g.1 11 p then 3004 else 0) := hbad
      by_cases y1 : g.1 80 0 = 0
      · rw [if_pos y1] at hbad; exact absurd (by decide) hbad
      rw [if_neg y1] at hbad
      by_cases y2 : 2 < g.1 11 p
      · rw [if_pos y2] at hbad; exact absurd (by decide) hbad
      exact Int32.not_lt.mp y2
    obtain ⟨st, oo, kk, u, ⟨y1, y1'⟩, ⟨y2, y2'⟩, ⟨y3, y3'⟩, -, q5, q6, q7, q8, q9, -⟩ := hS.2.2.1 p hpn
    have hst : st ≤ 2 := by
      rw [Int32.le_iff_toInt_le, y1] at hst2
      have : (2 : Int32).toInt = 2 := by decide
      omega
    have a1 := (hR.pe hp7).1
    have a2 := (hR.pe hp7).2.1
    obtain ⟨hce, hrow⟩ := hR.2.2.1 q hq
    have hA9 : A 6 p ≠ B + 9 := by have := a1.1; omega
    have hAR : A 6 p ≠ R := fun y => by
      obtain ⟨-, -, -, hh, hr, -⟩ := hM
      rw [← y, a2] at hr
      cases hr
    have hCR : B + 14 + 3 * q ≠ R := fun y => by
      obtain ⟨-, -, -, hh, hr, -⟩ := hM
      rw [← y, hce] at hr
      cases hr
    refine cl_at dt_95 80 [] dt_95_k ?_
    intro C J hC hJ
    conv => whnf
    refine putK hce rfl (fit_o _ rfl) (fun s1 p1 o1 n1 => ?_)
    conv => whnf
    refine putK p1 rfl (fit_i _) (fun s2 p2 o2 n2 => ?_)
    conv => whnf
    obtain ⟨f2, hf2⟩ : ∃ f2, f2 = rf_ui (rf_ui g 27 (q + 1) (Int32.ofNat p + 1)) 28 (q + 1) 2 := ⟨_, rfl⟩
    have ep1 : Int32.ofNat p + 1 = Int32.ofNat (p + 1) := nadd rfl (by omega)
    have of2 : ∀ u j, ¬ ((u = 27 ∨ u = 28) ∧ j = q + 1) → f2.1 u j = g.1 u j := fun u j h => by rw [hf2, rf_ui_ne (by omega), rf_ui_ne (by omega)]
    have e27 : f2.1 27 (q + 1) = Int32.ofNat (p + 1) := by rw [hf2, rf_ui_ne (by omega), rf_ui_eq, ep1]
    have e28 : f2.1 28 (q + 1) = 2 := by rw [hf2, rf_ui_eq]
    have os : ∀ u, u ≠ B + 14 + 3 * q → s2.1 u = σ.1 u := fun u hu => (o2 u hu).trans (o1 u hu)
    have ns : s2.2 = σ.2 := n2.trans n1
    have hR2 : RelC th B b xl s2 f2 A G T := by
      refine hR.out (c := q) hq (fun u u1 _ => os u u1) ns (fun u j h1 _ _ _ _ => of2 u j (fun y => h1 ⟨by rcases y.1 with e | e <;> rw [e] <;> decide, y.2⟩)) (fun _ _ _ _ => by rw [hf2]; rfl) (fun _ _ _ => rfl) ⟨?_, ?_⟩
      · rw [p2]
        unfold cc_e
        rw [e27, e28, of2 26 _ (by omega), of2 30 _ (by omega), of2 32 _ (by omega), of2 33 _ (by omega), show cp_ref A (Int32.ofNat (p + 1)) = some (A 6 p) by obtain ⟨i1, i2⟩ := i32_p1 (p := p) (by omega) rfl; unfold cp_ref; rw [if_neg i1, i2]]
        rfl
      · rw [of2 26 _ (by omega), of2 30 _ (by omega), of2 32 _ (by omega), of2 33 _ (by omega)]
        rcases hrow with ⟨e1, e2, ⟨y1, e3⟩, ⟨y2, e4⟩, e5, e6, e7⟩ | ⟨e1, e2, ⟨y1, n1, e3, e4, e5, e6⟩, y2, a2, z2, e7, e8, e9, e10, e11, e12⟩
        · exact Or.inl ⟨e1, e2, ⟨y1, by rw [os _ (by omega)]; exact e3⟩, ⟨y2, by rw [os _ (by omega)]; exact e4⟩, e5, e6, e7⟩
        · refine Or.inr ⟨⟨e1.1, by rw [ns]; exact e1.2.1, e1.2.2⟩, ⟨e2.1, by rw [ns]; exact e2.2.1, e2.2.2⟩, ⟨y1, n1, by rw [os _ (by have := e1.1; omega)]; exact e3, e4, e5, fun j hj => by rw [of2 29 _ (by omega)]; exact e6 j hj⟩, y2, a2, z2, by rw [os _ (by have := e2.1; omega)]; exact e7, e8, e9, e10, e11, fun i hi => by rw [of2 31 _ (by omega)]; exact e12 i hi⟩
    have hk2 : kp B σ s2 := ⟨ns, fun u u1 u2 => os u (by omega)⟩
    have h7 : (p : Int) < (f2.1 7 0).toInt := by rw [of2 7 0 (by omega)]; exact hp7
    have b2 := (hR2.pe h7).2.1
    refine putK b2 rfl (fit_o _ rfl) (fun s3 p3 o3 n3 => ?_)
    conv => whnf
    have ecr : cc_ref B cv = some (B + 14 + 3 * q) := cc_ref_c hcv
    obtain ⟨hR3, hk3⟩ := hR2.pe1 (σ' := s3) (f' := rf_ui f2 14 p cv) h7 (by rw [p3]; simp [cp_e, lim, rf_ui, ecr, va_rf]) o3 n3 (ui_pe ⟨by omega, by omega⟩ (fun _ _ _ => rfl)) rfl (rf_ui_ne (by omega))
    have hM3 : MB s3 (B + 9) R L o (wr o L) (nmb o L) (wcd o L) (Int32.ofNat (sat o L)) := hM.same (by rw [o3 _ (fun y => hA9 y.symm), os _ (by omega)]) (by rw [o3 _ (fun y => hAR y.symm), os _ (fun y => hCR y.symm)])
    have hX3 := hR3.X
    have h73 := ui7 (f := f2) (k := 14) (j := p) (x := cv) (by omega) h7
    refine ⟨_, jx_getF_of (hX3) rfl, ?_⟩
    conv => whnf
    refine ⟨jx_isC_of p3, hC _ _ _ _ (((k_holdOpening (d := d) hR3 hM3 hl h73 hA9 hAR).up (by omega)).mp ?_)⟩
    rintro r s4 ⟨rfl, hR4, hk4⟩
    obtain ⟨H, hH⟩ : ∃ H, H = R_acc1 g (q + 1) cv p := ⟨_, rfl⟩
    have eH : rf_ui (rf_ui (rf_ui (rf_ui f2 14 p cv) 23 p (ob o 4)) 24 p (w4 o 12)) 25 p (w4 o 16) = H := by
      rw [hH, hf2]
      unfold R_acc1
      rw [hL.h69, hL.h72, hL.h73]
    rw [eH] at hR4
    have oH : ∀ u j, ¬ ((u = 27 ∨ u = 28) ∧ j = q + 1) → ¬ ((u = 14 ∨ u = 23 ∨ u = 24 ∨ u = 25) ∧ j = p) → H.1 u j = g.1 u j := fun u j h1 h2 => by rw [hH]; exact acc1_o h1 h2
    have H7 : (p : Int) < (H.1 7 0).toInt := by rw [oH 7 0 (by omega) (by omega)]; exact hp7
    have H11 : H.1 11 p = g.1 11 p := oH 11 p (by omega) (by omega)
    have H14 : H.1 14 p = cv := by rw [hH]; unfold R_acc1; rw [rf_ui_ne (by omega), rf_ui_ne (by omega), rf_ui_ne (by omega), rf_ui_eq]
    have H26 : ¬ H.1 26 (q + 1) = 0 := by rw [oH 26 _ (by omega) (by omega)]; exact h26'
    have hW4 : RW th B b xl s4 H A T := ⟨G, hR4, by rw [oH 2 0 (by omega) (by omega)]; exact hls⟩
    have hk04 : kp B σ s4 := (hk2.tr hk3).tr hk4
    have c2 := (hR4.pe H7).2.1
    rw [← hH] at eF
    unfold R_str2 at eF
    have no : ∀ x : Nat, x ≤ 4 → g.1 11 p = Int32.ofNat x → ¬ R_open (H.1 11 p) := fun x hx e y => by
      rw [H11, e] at y
      rcases y with y | y
      · have := ofN_inj (y := 5) (by omega) (by omega) y; omega
      · have := ofN_inj (y := 6) (by omega) (by omega) y; omega
    have e11 : g.1 11 p = Int32.ofNat st := i32_eq y1 (by omega)
    have nop := no st (by omega) e11
    conv => whnf
    refine ⟨_, jx_getF_of (c2) rfl, ?_⟩
    conv => whnf
    refine ⟨fun (h1 : ¬ H.1 11 p = 0) => ?_, fun (h1 : ¬ ¬ H.1 11 p = 0) => ?_⟩
    · rw [if_neg h1] at eF
      conv => whnf
      refine ⟨_, jx_getF_of (c2) rfl, ?_⟩
      conv => whnf
      refine ⟨fun (h2 : ¬ H.1 11 p = 1) => ?_, fun (h2 : ¬ ¬ H.1 11 p = 1) => ?_⟩
      · rw [if_neg h2] at eF
        have st2 : st = 2 := by
          have n0 : st ≠ 0 := fun y => h1 (by rw [H11, e11, y]; rfl)
          have n1 : st ≠ 1 := fun y => h2 (by rw [H11, e11, y]; rfl)
          omega
        obtain ⟨oo0, kk0, -⟩ := q9 st2
        obtain ⟨t27, t28⟩ := q5 oo0
        have hne : oo ≠ q + 1 := fun y => by
          rw [y, h27] at t27
          have := ofN_inj (x := 0) (y := p + 1) (by omega) (by omega) t27
          omega
        obtain ⟨co, hco⟩ : ∃ co, oo = co + 1 := ⟨oo - 1, by omega⟩
        conv => whnf
        refine ⟨jx_isC_of hR4.X, hC _ _ _ _ (((k_choose (d := d) (n := n) (a := a) hW4 H7 (co := co) (by omega) (by rw [oH 13 p (by omega) (by omega), y2, hco]) (by rw [oH 27 _ (by omega) (by omega), ← hco]; exact t27) (by rw [oH 28 _ (by omega) (by omega), ← hco]; exact t28) (cc := q) hq (by rw [H14]; exact hcv) (by omega) H26 nop).up (by omega)).mp ?_)⟩
        rintro r s5 ⟨rfl, hW5, hk5⟩
        conv => whnf
        exact ⟨rfl, by rw [eF]; exact hW5, hk04.tr hk5⟩
      · rw [if_pos (Decidable.not_not.mp h2)] at eF
        conv => whnf
        refine ⟨jx_isC_of hR4.X, hC _ _ _ _ (((k_enter (d := d) (s := 3) hW4 H7).up (by omega)).mp ?_)⟩
        rintro r s5 ⟨rfl, hW5, hk5⟩
        conv => whnf
        refine ⟨rfl, ?_, hk04.tr hk5⟩
        rw [eF, R_become_nn (fun y => by rcases y with y | y <;> exact absurd y (by decide)) nop]
        exact hW5
    · have h1 := Decidable.not_not.mp h1
      rw [if_pos h1] at eF
      have st0 : st = 0 := ofN_inj (y := 0) (by omega) (by omega) (e11.symm.trans (H11.symm.trans h1))
      obtain ⟨oo0, kk0⟩ := q7 st0
      conv => whnf
      refine ⟨jx_isC_of hR4.X, hC _ _ _ _ (((k_openByCame (d := d) hW4 H7 hq (by rw [H14]; exact hcv) (by rw [oH 13 p (by omega) (by omega)]; exact (i32_z y2).mpr oo0) H26).up (by omega)).mp ?_)⟩
      rintro r s5 ⟨rfl, hW5, hk5⟩
      conv => whnf
      refine ⟨rfl, ?_, hk04.tr hk5⟩
      have eA := R_accepts_eq (n := n) (a := a) nop
      unfold R_accepts at eA
      rw [eF, eA]
      exact hW5
  have t71 : ¬ ob o 4 &&& 128 = 0 → wr o L = 0 → F = R_str1 g n a (q + 1) cv (R_pm g n) → cl_fj th (d + 8) 95 71 [(0, .ref B), (1, .ref (B + 14 + 3 * q))] [] σ (fun r σ' => r = none ∧ RW th B b xl σ' F A T ∧ kp B σ σ') := by
    intro hr hw eF
    have w0 : g.1 74 0 = 0 := hL.wz.mpr hw
    have hx : ∀ p, R_pm g n = some p → (p : Int) < (g.1 7 0).toInt := fun p hp => by
      have := (R_pm_s n p hp).1
      omega
    refine cl_at dt_95 60 [(104, [0, 1, 3])] dt_95_k ?_
    intro C J hC hJ
    conv => whnf
    refine ⟨jx_isC_of hX, hC _ _ _ _ (((k_peerOfMessage (d := d) hR hM hbo hL w0 hb ho hK hn hn4).up (by omega)).mp ?_)⟩
    rintro r s1 ⟨rfl, hs1⟩
    rw [hs1]
    have kr := k_refusal (d := d) (x := R_pm g n) hR hM hL w0 hx
    have fin : ∀ bv : Int32, F = R_shut (R_ansW g cv bv) (q + 1) → jc th (d + 8) 96 [.ref B, .ref (B + 14 + 3 * q), .int bv] σ (fun r σ' => r = none ∧ RW th B b xl σ' (R_ansW g cv bv) A T ∧ kp B σ σ') := fun bv _ => by
      have := k_answer (d := d) (res := bv) (cv := cv) hW hgk.1 hM hl hL hb ho hq hcv h26'
      rw [ans_eq hw] at this
      exact this.up (by omega)
    have fin27 : ∀ bv : Int32, (R_ansW g cv bv).1 27 (q + 1) = 0 := fun bv => by
      unfold R_ansW
      rw [R_msg_o (by decide) (by decide) (by decide) (by decide) (by decide)]
      exact h27
    cases hx' : R_pm g n with
    | none =>
      rw [hx'] at eF
      have eF : F = R_shut (R_ansW g cv 3010) (q + 1) := eF
      rw [hx', show pmr A none = Value.null from rfl] at kr
      rw [show pmr A none = Value.null from rfl]
      conv => whnf
      refine ⟨jx_isC_of hX, hC _ _ _ _ ((kr.up (by omega)).mp ?_)⟩
      rintro r s2 ⟨rfl, hs2⟩
      rw [hs2, show R_bad g none = 3010 from rfl]
      conv => whnf
      refine ⟨jx_isC_of hX, hC _ _ _ _ ((fin 3010 eF).mp ?_)⟩
      rintro r s3 ⟨rfl, hW3, hk3⟩
      obtain ⟨G3, hR3, -⟩ := id hW3
      conv => whnf
      refine ⟨jx_isC_of (hR3.2.2.1 q hq).1, hC _ _ _ _ (((k_closeW (d := d) hW3 hq (fin27 _)).up (by omega)).mp ?_)⟩
      rintro r s4 ⟨rfl, hW4, hk4⟩
      conv => whnf
      exact ⟨rfl, by rw [eF]; exact hW4, hk3.tr hk4⟩
    | some p =>
      rw [hx'] at eF
      have eF : F = if 0 < R_bad g (some p) then R_shut (R_ansW g cv (R_bad g (some p))) (q + 1) else R_str2 (R_acc1 g (q + 1) cv p) n a p := eF
      obtain ⟨bv, hbv⟩ : ∃ bv, bv = R_bad g (some p) := ⟨_, rfl⟩
      have hbc : bv = 0 ∨ 0 < bv := by
        rw [hbv]
        show (if g.1 80 0 = 0 then (5010 : Int32) else if 2 < g.1 11 p then 3004 else 0) = 0 ∨ 0 < (if g.1 80 0 = 0 then (5010 : Int32) else if 2 < g.1 11 p then 3004 else 0)
        repeat' split
        all_goals decide
      rw [hx', show pmr A (some p) = Value.ref (A 6 p) from rfl, ← hbv] at kr
      rw [show pmr A (some p) = Value.ref (A 6 p) from rfl]
      rw [← hbv] at eF
      conv => whnf
      refine ⟨jx_isC_of hX, hC _ _ _ _ ((kr.up (by omega)).mp ?_)⟩
      rintro r s2 ⟨rfl, hs2⟩
      rw [hs2]
      conv => whnf
      refine ⟨fun (h1 : bv = 0) => ?_, fun (h1 : ¬ bv = 0) => ?_⟩
      · rw [if_neg (by rw [h1]; decide)] at eF
        conv => whnf
        exact hJ _ _ _ _ (topen p hx' w0 (by rw [← hbv, h1]; decide) eF)
      · have h1 : 0 < bv := by
          rcases hbc with y | y
          · exact absurd y h1
          · exact y
        rw [if_pos h1] at eF
        conv => whnf
        refine ⟨jx_isC_of hX, hC _ _ _ _ ((fin bv eF).mp ?_)⟩
        rintro r s3 ⟨rfl, hW3, hk3⟩
        obtain ⟨G3, hR3, -⟩ := id hW3
        conv => whnf
        refine ⟨jx_isC_of (hR3.2.2.1 q hq).1, hC _ _ _ _ (((k_closeW (d := d) hW3 hq (fin27 _)).up (by omega)).mp ?_)⟩
        rintro r s4 ⟨rfl, hW4, hk4⟩
        conv => whnf
        exact ⟨rfl, by rw [eF]; exact hW4, hk3.tr hk4⟩
  refine cl_go dt_95 60 [(56, [0, 1]), (71, [0, 1])] dt_95_k rfl ?_
  intro C J hC hJ
  conv => whnf
  refine ⟨_, jx_getF_of (hX) rfl, ?_⟩
  conv => whnf
  refine ⟨jx_isC_of hM.1, hC _ _ _ _ (((k_isReq (d := d) hM hl).up (by omega)).mp ?_)⟩
  rintro r s1 ⟨hr, hs1⟩
  rw [hs1]
  rcases hr with ⟨rfl, h1⟩ | ⟨rfl, h1⟩
  · rw [if_pos (Or.inl h1)] at hF
    conv => whnf
    refine jx_yes (show (0 : Int32) = 0 from rfl) ?_
    conv => whnf
    refine jx_yes (show (0 : Int32) = 0 from rfl) ?_
    conv => whnf
    exact hJ _ _ _ _ (tpas hF)
  · obtain ⟨e1, e2⟩ := hL.wq h1
    rw [e1] at hF
    conv => whnf
    refine jx_no (show ¬ (1 : Int32) = 0 by decide) ?_
    conv => whnf
    refine ⟨_, jx_getF_of (hX) rfl, ?_⟩
    conv => whnf
    refine ⟨_, jx_getF_of (hM.1) rfl, ?_⟩
    conv => whnf
    refine ⟨fun (h2 : wr o L = 0) => ?_, fun (h2 : ¬ wr o L = 0) => ?_⟩
    · conv => whnf
      refine jx_no (show ¬ (1 : Int32) = 0 by decide) ?_
      conv => whnf
      refine ⟨_, jx_getF_of (hX) rfl, ?_⟩
      conv => whnf
      refine ⟨jx_isC_of hM.1, hC _ _ _ _ (((k_command (d := d) hM hl).up (by omega)).mp ?_)⟩
      rintro r s2 ⟨rfl, hs2⟩
      rw [hs2]
      conv => whnf
      refine ⟨fun (h3 : w3 o 5 = 257) => ?_, fun (h3 : ¬ w3 o 5 = 257) => ?_⟩
      · rw [if_neg (fun y => by rcases y with y | y; exact h1 y; exact y.2 h3), if_neg (by rw [h2]; decide)] at hF
        conv => whnf
        exact hJ _ _ _ _ (t71 h1 h2 hF)
      · rw [if_pos (Or.inr ⟨h2, h3⟩)] at hF
        conv => whnf
        exact hJ _ _ _ _ (tpas hF)
    · have hpos : 0 < wr o L := by
        rcases wr_in (o := o) (L := L) with y | y
        · exact absurd y h2
        · exact y
      rw [if_neg (fun y => by rcases y with y | y; exact h1 y; exact h2 y.1), if_pos hpos] at hF
      conv => whnf
      refine ⟨_, jx_getF_of (hX) rfl, ?_⟩
      conv => whnf
      refine ⟨_, jx_getF_of (hM.1) rfl, ?_⟩
      conv => whnf
      have ka := k_answer (d := d) (res := wr o L) (cv := cv) hW hgk.1 hM hl hL hb ho hq hcv h26'
      rw [ref_eq hL h1] at ka
      refine ⟨jx_isC_of hX, hC _ _ _ _ ((ka.up (by omega)).mp ?_)⟩
      rintro r s3 ⟨rfl, hW3, hk3⟩
      obtain ⟨G3, hR3, -⟩ := id hW3
      conv => whnf
      refine ⟨jx_isC_of (hR3.2.2.1 q hq).1, hC _ _ _ _ (((k_closeW (d := d) hW3 hq (by unfold R_refuse; rw [R_msg_o (by decide) (by decide) (by decide) (by decide) (by decide)]; exact h27)).up (by omega)).mp ?_)⟩
      rintro r s4 ⟨rfl, hW4, hk4⟩
      conv => whnf
      exact ⟨rfl, by rw [hF]; exact hW4, hk3.tr hk4⟩
end JxOnstrange
