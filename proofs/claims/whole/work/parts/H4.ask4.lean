/-! THE PAIR ask: the whole call -/
section JxAsk4
variable {th : Nat → Nat} {B b m d k s n a i p q : Nat} {xl : List Int32} {σ σ' σ0 : jx_S} {f f' F : jx_F} {A A' : Nat → Nat → Nat} {G G' : Nat → Nat → Int32} {T T' : Nat → Nat}
theorem PS.newq (hS : PS f n a) (ha : a < 64) (hq : q < n) (hu : R_us f q) (h55 : f.1 55 a = 0 ∧ f.2 53 a = 0) (hrow : R_qok (R_ask0 f s a) a) (h34 : ∃ h : Nat, (f.1 34 0).toInt = (h : Int) ∧ h < 2147483000) : PS (R_sendAsk (R_ask0 f s a) a q) n (a + 1) := by
  obtain ⟨g, hg⟩ : ∃ g, g = R_ask0 f s a := ⟨_, rfl⟩
  rw [← hg] at hrow ⊢
  obtain ⟨F, hF⟩ : ∃ F, F = R_sendAsk g a q := ⟨_, rfl⟩
  rw [← hF]
  have og : ∀ u j, u ≠ 49 → u ≠ 50 → u ≠ 51 → u ≠ 52 → g.1 u j = f.1 u j := fun u j z1 z2 z3 z4 => by rw [hg]; exact ask0_o (by omega) (by omega)
  have oF : ∀ u j, R_askK u = false → F.1 u j = g.1 u j := fun u j z => by rw [hF]; exact R_sendAsk_o z
  have lF : F.2 = f.2 := by rw [hF, R_sendAsk_l, hg]; rfl
  have oi : ∀ u j, j ≠ a → 54 ≤ u → u ≤ 58 → F.1 u j = f.1 u j := fun u j z1 z2 z3 => by rw [hF, R_sendAsk_i z1 ⟨z2, z3⟩, og u j (by omega) (by omega) (by omega) (by omega)]
  have o : ∀ u j, R_askK u = false → u ≠ 49 → u ≠ 50 → u ≠ 51 → u ≠ 52 → F.1 u j = f.1 u j := fun u j z z1 z2 z3 z4 => by rw [oF u j z, og u j z1 z2 z3 z4]
  obtain ⟨⟨t1, t2, t3, t4, t5, t6, t7⟩, c, p, qq, jp, ji, jq⟩ := id hS
  obtain ⟨cN, cN1, cN2⟩ := hS.1.cn (q := q) (by omega)
  have ec : R_conn g q = R_conn f q := R_conn_eq (og 11 q (by omega) (by omega) (by omega) (by omega)) (og 13 q (by omega) (by omega) (by omega) (by omega)) (og 14 q (by omega) (by omega) (by omega) (by omega))
  have og0 : R_ok g := t1.of (og 6 0 (by omega) (by omega) (by omega) (by omega)) (fun c => og 33 c (by omega) (by omega) (by omega) (by omega)) (fun c => og 32 c (by omega) (by omega) (by omega) (by omega))
  obtain ⟨v54, v55, v58, v34⟩ := R_sendAsk_v (f := g) (i := a) (q := q)
  rw [← hF] at v54 v55 v58 v34
  obtain ⟨h, h1, h2⟩ := h34
  have x34 : (F.1 34 0).toInt = ((h + 1 : Nat) : Int) := by rw [v34, og 34 0 (by omega) (by omega) (by omega) (by omega), i32_add (c := 1) h1 (by decide) (by omega) (by omega)]; omega
  have x55 : F.1 55 a = 1 := by rw [v55, og 55 a (by omega) (by omega) (by omega) (by omega), h55.1]; rfl
  refine ⟨⟨by rw [hF]; exact R_sendAsk_ok og0 hrow (by rw [ec]; exact cN1) cN2, by rw [o 7 0 rfl (by omega) (by omega) (by omega) (by omega)]; exact t2, t3, ?_, by omega, fun i hi u hu => ?_, fun u hu => ?_⟩, fun c' c1 c2 => (c c' c1 c2).of (fun u hu => ?_) (fun j hj _ => ⟨fun _ => o 13 j rfl (by omega) (by omega) (by omega) (by omega), fun _ => o 14 j rfl (by omega) (by omega) (by omega) (by omega)⟩), fun p' hp' => (p p' hp').of (fun u hu => ?_) (fun c' _ _ _ u hu => ?_), fun i hi => ?_, fun p' hp' => (jp p' hp').of (o 22 p' rfl (by omega) (by omega) (by omega) (by omega)) (o 15 p' rfl (by omega) (by omega) (by omega) (by omega)) (o 19 p' rfl (by omega) (by omega) (by omega) (by omega)), fun c' c1 c2 => (ji c' c1 c2).of (o 30 c' rfl (by omega) (by omega) (by omega) (by omega)) (fun j => o 29 j rfl (by omega) (by omega) (by omega) (by omega)), fun i hi => ?_⟩
  · rw [oF 49 0 rfl, hg, ask0_v.1, i32_add (c := 1) t4 (by decide) (by omega) (by omega)]; omega
  · rw [oF u _ (by rcases hu with rfl | rfl | rfl <;> rfl)]
    by_cases e : i = a
    · rw [e]; exact hrow u hu
    · rw [hg, ask0_o (by omega) (by omega)]
      exact t6 i (by omega) u hu
  · rw [o 13 u rfl (by omega) (by omega) (by omega) (by omega), o 14 u rfl (by omega) (by omega) (by omega) (by omega)]
    exact t7 u hu
  · rcases hu with rfl | rfl | rfl | rfl <;> exact o _ c' rfl (by omega) (by omega) (by omega) (by omega)
  · simp only [List.mem_cons, List.not_mem_nil, or_false] at hu
    rcases hu with rfl | rfl | rfl | rfl | rfl | rfl <;> exact o _ p' rfl (by omega) (by omega) (by omega) (by omega)
  · rcases hu with rfl | rfl | rfl <;> exact o _ c' rfl (by omega) (by omega) (by omega) (by omega)
  · by_cases e : i = a
    · rw [e]
      refine ⟨q, 1, ⟨by rw [v54]; exact i32_ofNat (by omega), hq⟩, ⟨by rw [x55]; decide, by omega⟩, ?_, fun _ => ⟨?_, ?_⟩⟩
      · rw [lF, h55.2]; decide
      · rw [o 11 q rfl (by omega) (by omega) (by omega) (by omega)]; exact hu.1
      · rw [v58]
        exact (R_conn_eq (oF 11 q rfl) (oF 13 q rfl) (oF 14 q rfl)).symm
    · exact (qq i (by omega)).of ⟨oi 54 i e (by omega) (by omega), oi 55 i e (by omega) (by omega), oi 58 i e (by omega) (by omega), by rw [lF]⟩ (fun u _ _ _ => ⟨o 11 u rfl (by omega) (by omega) (by omega) (by omega), o 13 u rfl (by omega) (by omega) (by omega) (by omega), o 14 u rfl (by omega) (by omega) (by omega) (by omega)⟩)
  · rw [x34]
    by_cases e : i = a
    · rw [e, x55, show (1 : Int32).toInt = 1 by decide]; omega
    · rw [oi 55 i e (by omega) (by omega)]
      have := jq i hi
      omega
theorem k_ask {v : Int32} (hW : RW th B b xl σ f A T) (hS : PS f n a) (h55 : a < 64 → f.1 55 a = 0 ∧ f.2 53 a = 0) : jc th (d + 9) 174 [.ref B, .int v] σ (fun r σ' => r = some (.int (R_askF f n a v).1) ∧ ∃ A' T', RW th B b xl σ' (R_askF f n a v).2 A' T' ∧ kpr B A A' σ σ') := by
  obtain ⟨G1, hR1, hl1⟩ := id hW
  have h7 := hS.1.2.1
  have hn4 := hS.1.2.2.1
  have h49 := hS.1.2.2.2.1
  have ha := hS.1.2.2.2.2.1
  have hL := hR1.1.2.2.2.2.2.2.2.2.2.1
  obtain ⟨mn, h40, h16, hal, -, hse⟩ := id hR1.2.2.2.2.2.2.2
  obtain ⟨nq, m1, m2, halq, -⟩ := id hR1.2.2.2.2.1
  have enq : nq = a := by omega
  obtain ⟨⟨mcq, hlq⟩, -⟩ := halq
  rw [List.length_map, List.length_range, enq] at hlq
  refine cl_go dt_174 60 [(61, [0, 2, 3])] dt_174_k rfl ?_
  intro C J hC hJ
  conv => whnf
  refine ⟨_, jx_getF_of (hR1.X) rfl, ?_⟩
  conv => whnf
  refine ⟨jx_isC_of hL, hC _ _ _ _ (((k_sessionAt (d := d) hL h16 hal hse).up (by omega)).mp ?_)⟩
  rintro r s0 ⟨hcs, hs0⟩
  rw [hs0]
  rcases hcs with ⟨s, hv, hs, rfl⟩ | ⟨rfl, hno⟩
  rotate_left
  · conv => whnf
    unfold R_askF
    rw [if_neg (fun z => by
      rcases hno with y | y
      · exact absurd y (Int32.not_lt.mpr z.1)
      · exact y (by rw [← i32_eq h40 (by omega)]; exact z.2))]
    exact ⟨rfl, A, T, hW, kpa.rf.kr⟩
  have hvn := i32_nat hv
  have hv01 : 0 ≤ v ∧ v < f.1 40 0 := by
    refine ⟨?_, ?_⟩
    · rw [Int32.le_iff_toInt_le, hv, show (0 : Int32).toInt = 0 by decide]; omega
    · rw [Int32.lt_iff_toInt_lt, hv, h40]; omega
  obtain ⟨-, e2, -, ⟨p, hp, hpn⟩, -⟩ := hse s hs
  have ecp : va_rf (cp_ref A (f.1 47 s)) = .ref (A 6 p) := by
    unfold cp_ref
    rw [if_neg (fun z => by rw [z, show (0 : Int32).toInt = 0 by decide] at hp; omega), i32_nat hp]
    rfl
  have ep : (f.1 47 s).toNatClampNeg - 1 = p := by rw [i32_nat hp]; omega
  unfold cs_e at e2
  rw [ecp] at e2
  have a2 := (hR1.pe (p := p) hpn).2.1
  have eF : R_askF f n a v = (if R_askp f n s = 4 then (-3, f) else if a = 64 then (-4, f) else (Int32.ofNat a, R_sendAsk (R_ask0 f s a) a (R_askp f n s))) := by
    unfold R_askF
    rw [if_pos hv01, hvn]
  rw [eF]
  conv => whnf
  refine ⟨_, jx_getF_of (e2) rfl, ?_⟩
  conv => whnf
  refine ⟨jx_isC_of a2, hC _ _ _ _ (((k_isUsable (d := d) hR1 (p := p) hpn).up (by omega)).mp ?_)⟩
  rintro r s1 ⟨hcs, hs1⟩
  rw [hs1]
  rcases hcs with ⟨rfl, hu⟩ | ⟨rfl, hu⟩
  · have eq : R_askp f n s = p := by unfold R_askp; rw [ep, if_pos hu]
    conv => whnf
    refine jx_no (show ¬ (1 : Int32) = 0 by decide) ?_
    conv => whnf
    refine ⟨_, jx_getF_of (e2) rfl, ?_⟩
    conv => whnf
    refine ⟨_, jx_getF_of (hR1.X) rfl, ?_⟩
    conv => whnf
    refine ⟨jx_isC_of hlq, hC _ _ _ _ (((k_size (d := d) hlq).up (by omega)).mp ?_)⟩
    rintro r s2 ⟨rfl, hs2⟩
    rw [hs2]
    conv => whnf
    by_cases e64 : a = 64
    · refine jx_no (show ¬ Int32.ofNat a < 64 by rw [e64]; decide) ?_
      conv => whnf
      rw [eq, if_neg (by omega), if_pos e64]
      exact ⟨rfl, A, T, hW, kpa.rf.kr⟩
    · refine jx_yes (show Int32.ofNat a < 64 by rw [show (64 : Int32) = Int32.ofNat 64 from rfl, nlt (by omega) (by omega)]; omega) ?_
      conv => whnf
      refine hJ _ _ _ _ (k_askNew (d := d) hW hS (h55 (by omega)) (by omega) (by omega) (by omega) hu (fun σ' A' T' w1 w2 => ?_))
      rw [eF, eq, if_neg (by omega), if_neg e64]
      exact ⟨rfl, A', T', w1, w2⟩
  · have eq : R_askp f n s = R_lu f n 0 := by unfold R_askp; rw [ep, if_neg hu]
    conv => whnf
    refine jx_yes (show (0 : Int32) = 0 from rfl) ?_
    conv => whnf
    refine ⟨jx_isC_of hR1.X, hC _ _ _ _ (((k_leastUsable (d := d) hR1 h7 hn4).up (by omega)).mp ?_)⟩
    rintro r s2 ⟨hcs, hs2⟩
    rw [hs2]
    rcases hcs with ⟨z1, rfl⟩ | ⟨z1, rfl⟩
    · obtain ⟨-, z2, z3⟩ := R_lu_us (f := f) n 0 z1
      conv => whnf
      refine ⟨_, jx_getF_of (hR1.X) rfl, ?_⟩
      conv => whnf
      refine ⟨jx_isC_of hlq, hC _ _ _ _ (((k_size (d := d) hlq).up (by omega)).mp ?_)⟩
      rintro r s3 ⟨rfl, hs3⟩
      rw [hs3]
      conv => whnf
      by_cases e64 : a = 64
      · refine jx_no (show ¬ Int32.ofNat a < 64 by rw [e64]; decide) ?_
        conv => whnf
        rw [eq, if_neg z1, if_pos e64]
        exact ⟨rfl, A, T, hW, kpa.rf.kr⟩
      · refine jx_yes (show Int32.ofNat a < 64 by rw [show (64 : Int32) = Int32.ofNat 64 from rfl, nlt (by omega) (by omega)]; omega) ?_
        conv => whnf
        refine hJ _ _ _ _ (k_askNew (d := d) hW hS (h55 (by omega)) (by omega) (by omega) (by omega) z3 (fun σ' A' T' w1 w2 => ?_))
        rw [eF, eq, if_neg z1, if_neg e64]
        exact ⟨rfl, A', T', w1, w2⟩
    · conv => whnf
      rw [eq, if_pos z1]
      exact ⟨rfl, A, T, hW, kpa.rf.kr⟩
theorem pair_ask (hk : k ≤ 512) (hR : Rel th B b xl σ f A G T) (hI : PI (fN f) G k) (h1 : σ.2.1 + 2 * ngr A B 8 ≤ B + 118 + 100 * k) (h2 : σ.2.2 + 2600 * ngr A B 8 ≤ 81000 + 13000 * k) (hQ : KQ f) : lawp_20 th b B (B + 39) xl σ (Inv th B b xl (k + 1)) := by
  intro v
  have hI0 := hI.un
  obtain ⟨f0, hf0⟩ : ∃ f0, f0 = rf_ui f 0 0 0 := ⟨_, rfl⟩
  rw [← hf0] at hI0
  obtain ⟨n, a, hS, x, h34, hx1, hx2⟩ := hI0.ps
  have hR0 : RelC th B b xl σ f0 A G T := by rw [hf0]; exact hR.2.un
  have h7 := hS.1.2.1
  have hn4 := hS.1.2.2.1
  obtain ⟨mn, h40, h16, -, -, hse⟩ := id hR0.2.2.2.2.2.2.2
  have h40f : (f.1 40 0).toInt = (mn : Int) := by rw [hf0, rf_ui_ne (by omega)] at h40; exact h40
  obtain ⟨n', a', hg', -, -, hz', -, hq0', -, hc', -, hx', -, -, -, hk', hm'⟩ := id hI0
  have en : n' = n := by have := hg'.2.1; omega
  have ea : a' = a := by have := hg'.2.2.2.1; have := hS.1.2.2.2.1; omega
  rw [en] at hz'
  rw [ea] at hq0'
  refine pair_work (w := (R_askF f0 n a v).1) (f' := (R_askF f0 n a v).2) rfl hR hI h1 h2 hQ (fun hW => ?_) (fun σ0 => ?_) (fun G' hl => ?_) (fun hq => ?_)
  · rw [← hf0] at hW
    exact ((k_ask (d := 20) hW hS (fun ha => hq0' a (Nat.le_refl _) ha)).up (by omega)).mp (fun r σ1 h => h)
  · rw [hf0] at hS ⊢
    refine (r_ask (d := 22) (mn := mn) hS.1 h40f h16 (fun s hs => ?_) (fun s hs ha => ?_)).up (by omega)
    · obtain ⟨-, -, -, ⟨p, hp, hpn⟩, -⟩ := hse s hs
      rw [hf0, rf_ui_ne (by omega)] at hp
      exact ⟨p, hp, by omega⟩
    · rw [← hf0]
      exact (ask0_rows hR0 (by omega)).1
  · unfold R_askF at hl ⊢
    by_cases hv : 0 ≤ v ∧ v < f0.1 40 0
    · rw [if_pos hv] at hl ⊢
      obtain ⟨s, hs, hvs⟩ := i32_range h40 hv
      rw [i32_nat hvs] at hl ⊢
      by_cases e4 : R_askp f0 n s = 4
      · rw [if_pos e4] at hl ⊢
        exact hI0.same hl
      · rw [if_neg e4] at hl ⊢
        by_cases e64 : a = 64
        · rw [if_pos e64] at hl ⊢
          exact hI0.same hl
        · rw [if_neg e64] at hl ⊢
          have hl : (R_sendAsk (R_ask0 f0 s a) a (R_askp f0 n s)).1 2 0 = lsum G' 8 := hl
          have ha64 : a < 64 := by have := hS.1.2.2.2.2.1; omega
          have hup : R_askp f0 n s < n ∧ R_us f0 (R_askp f0 n s) := by
            obtain ⟨-, -, -, ⟨p, hp, hpn⟩, -⟩ := hse s hs
            have ep : (f0.1 47 s).toNatClampNeg - 1 = p := by rw [i32_nat hp]; omega
            unfold R_askp at e4 ⊢
            rw [ep] at e4 ⊢
            by_cases hu : R_us f0 p
            · rw [if_pos hu]; exact ⟨by omega, hu⟩
            · rw [if_neg hu] at e4 ⊢
              obtain ⟨-, z2, z3⟩ := R_lu_us (f := f0) n 0 e4
              exact ⟨by omega, z3⟩
          have hPS := hS.newq ha64 hup.1 hup.2 (hq0' a (Nat.le_refl _) ha64) (ask0_rows (a := a) hR0 (s := s) (by omega)).1 ⟨x, h34, by omega⟩
          obtain ⟨F, hF⟩ : ∃ F, F = R_sendAsk (R_ask0 f0 s a) a (R_askp f0 n s) := ⟨_, rfl⟩
          have o : ∀ u j, R_askK u = false → u ≠ 49 → u ≠ 50 → u ≠ 51 → u ≠ 52 → F.1 u j = f0.1 u j := fun u j z z1 z2 z3 z4 => by rw [hF, R_sendAsk_o z, ask0_o (by omega) (by omega)]
          have lF : F.2 = f0.2 := by rw [hF, R_sendAsk_l]; rfl
          obtain ⟨-, -, -, v34⟩ := R_sendAsk_v (f := R_ask0 f0 s a) (i := a) (q := R_askp f0 n s)
          rw [← hF] at v34
          have x34 : (F.1 34 0).toInt = ((x + 1 : Nat) : Int) := by rw [v34, ask0_o (by omega) (by omega), i32_add (c := 1) h34 (by decide) (by omega) (by omega)]; omega
          rw [← hF] at hPS hl ⊢
          refine PI.pack hPS (fun p p1 p2 q hq => ?_) (fun i i1 i2 => ?_) hl ?_ ⟨x + 1, x34, by omega, by omega⟩ ?_ (fun i hi => ?_) ?_
          · have hq2 := hq
            simp only [List.mem_cons, List.not_mem_nil, or_false] at hq2
            rw [o q p (by rcases hq2 with rfl | rfl | rfl | rfl | rfl | rfl | rfl | rfl | rfl | rfl | rfl | rfl | rfl <;> rfl) (by omega) (by omega) (by omega) (by omega)]
            exact hz' p p1 p2 q hq
          · have z := hq0' i (by omega) i2
            rw [lF]
            refine ⟨?_, z.2⟩
            rw [hF, R_sendAsk_i (by omega) (by omega), ask0_o (by omega) (by omega)]
            exact z.1
          · obtain ⟨t, c1, c2⟩ := hc'
            exact ⟨t, by rw [o 1 0 rfl (by omega) (by omega) (by omega) (by omega)]; exact c1, by omega⟩
          · rw [o 35 0 rfl (by omega) (by omega) (by omega) (by omega), lF]
            exact hx'
          · rw [o 59 0 rfl (by omega) (by omega) (by omega) (by omega)] at hi
            have := hk' i hi
            unfold PJ_k at this ⊢
            rw [o 64 i rfl (by omega) (by omega) (by omega) (by omega), o 1 0 rfl (by omega) (by omega) (by omega) (by omega)]
            exact this
          · exact hm'.of (o 35 0 rfl (by omega) (by omega) (by omega) (by omega)) (o 40 0 rfl (by omega) (by omega) (by omega) (by omega)) (fun s _ => o 44 s rfl (by omega) (by omega) (by omega) (by omega)) (fun s _ => by rw [lF]) (fun i _ => by rw [lF]; exact ⟨rfl, rfl⟩)
    · rw [if_neg hv] at hl ⊢
      exact hI0.same hl
  · rw [← hf0] at hq
    unfold R_askF
    by_cases hv : 0 ≤ v ∧ v < f0.1 40 0
    · rw [if_pos hv]
      by_cases e4 : R_askp f0 n v.toNatClampNeg = 4
      · rw [if_pos e4]; exact hq
      · rw [if_neg e4]
        by_cases e64 : a = 64
        · rw [if_pos e64]; exact hq
        · rw [if_neg e64]
          refine hq.of (fun q j hq' => ?_)
          show (R_sendAsk (R_ask0 f0 v.toNatClampNeg a) a (R_askp f0 n v.toNatClampNeg)).1 q j = _
          rw [R_sendAsk_o (by rcases hq' with rfl | rfl | rfl | rfl <;> rfl), ask0_o (by omega) (by omega)]
    · rw [if_neg hv]; exact hq
end JxAsk4
