/-! THE CLASS: a timer rings -/
section JxDotimer
variable {th : Nat → Nat} {d B b p c n a h : Nat} {xl : List Int32} {σ σ' : jx_S} {f f' : jx_F} {A : Nat → Nat → Nat} {G : Nat → Nat → Int32} {T : Nat → Nat}
theorem k_lineGone (hW : RW th B b xl σ f A T) (hS : PS f n a) (h34 : (f.1 34 0).toInt = (h : Int)) (hh : h < 2147482000) (hp : p < n) (ho : R_open (f.1 11 p)) : (∃ c, jc th (d + 1) 62 [.ref (A 6 p)] σ (fun r σ' => r = some (.ref (B + 14 + 3 * c)) ∧ σ' = σ) ∧ jc th (d + 7) 63 [.ref B, .ref (B + 14 + 3 * c)] σ (fun r σ' => r = none ∧ RW th B b xl σ' (R_dropAll f n a p) A T ∧ kp B σ σ')) := by
  obtain ⟨G, hR, hls⟩ := id hW
  have h7 := hS.1.2.1
  obtain ⟨c, hc, e1, e2⟩ := dropAll_op hS hp ho
  have a2 := (hR.pe (p := p) (by omega)).2.1
  unfold cp_e at a2
  refine ⟨c, (k_line (d := d) a2).mp ?_, ?_⟩
  · rintro r s1 ⟨rfl, hs1⟩
    exact ⟨by rw [ln_ref e1], hs1⟩
  · rw [e2]
    exact k_closeAsGone (d := d) hW hS h34 hh hc
set_option maxHeartbeats 1000000 in
theorem k_doTimer (hW : RW th B b xl σ f A T) (hS : PS f n a) (h34 : (f.1 34 0).toInt = (h : Int)) (hh : h < 2147482000) (hp : p < n) : jc th (d + 8) 160 [.ref B, .ref (A 6 p)] σ (fun r σ' => r = none ∧ ∃ A' T', RW th B b xl σ' (R_ring f n a p) A' T' ∧ kpa B A A' σ σ') := by
  obtain ⟨G, hR, hls⟩ := id hW
  have h7 := hS.1.2.1
  have hn4 := hS.1.2.2.1
  have h49 := hS.1.2.2.2.1
  have ha := hS.1.2.2.2.2.1
  have hpf : (p : Int) < (f.1 7 0).toInt := by omega
  have a2 := (hR.pe hpf).2.1
  obtain ⟨u, u1, u2, u3, u4, u5⟩ := hS.p1 hp
  have hop : ∀ y : Nat, y < 5 → f.1 15 p = Int32.ofNat y → (y = 1 ∨ y = 2 ∨ y = 4) → R_open (f.1 11 p) := fun y hy e z => by
    rw [e, i32_ofNat (by omega)] at u1
    exact u3.mp (by omega)
  have hwt : R_open (f.1 11 p) → jc th (d + 7) 61 [.ref B, .ref (A 6 p)] σ (fun r σ' => r = none ∧ RW th B b xl σ' (R_sendWatch f p) A T ∧ kp B σ σ') := fun ho => by
    obtain ⟨c, hc, g1, g2, g3⟩ := hS.gl hp ho
    exact (k_sendWatch (d := d) hW hpf hc g1 g2 g3).up (by omega)
  have t106 : R_ring f n a p = R_ring0 f p → cl_fj th (d + 7) 160 106 [(0, .ref B), (1, .ref (A 6 p))] [] σ (fun r σ' => r = none ∧ ∃ A' T', RW th B b xl σ' (R_ring f n a p) A' T' ∧ kpa B A A' σ σ') := by
    intro eR
    rw [eR]
    refine cl_at dt_160 60 [] dt_160_k ?_
    intro C J hC hJ
    conv => whnf
    refine ⟨jx_isC_of hR.X, hC _ _ _ _ (((k_setTimer (d := d) hR hpf).up (by omega)).mp ?_)⟩
    rintro r s1 ⟨rfl, hR1, hk1⟩
    obtain ⟨g, hg⟩ : ∃ g, g = rf_ui f 17 p (f.1 1 0 + 30) := ⟨_, rfl⟩
    rw [← hg] at hR1
    have g10 : g.1 10 p = f.1 10 p := by rw [hg, rf_ui_ne (by omega)]
    have g11 : g.1 11 p = f.1 11 p := by rw [hg, rf_ui_ne (by omega)]
    have g7 : g.1 7 0 = f.1 7 0 := by rw [hg, rf_ui_ne (by omega)]
    have gl : R_least g 8 1 = R_least f 8 1 := R_least_eq (fun c => by rw [hg, rf_ui_ne (by omega)]) 8 1
    have hW1 : RW th B b xl s1 g A T := ⟨G, hR1, by rw [hg, rf_ui_ne (by omega)]; exact hls⟩
    have hpg : (p : Int) < (g.1 7 0).toInt := by rw [g7]; exact hpf
    have a3 := (hR1.pe hpg).2.1
    unfold R_ring0
    rw [← hg, ← g10, ← g11, ← gl]
    conv => whnf
    refine ⟨_, jx_getF_of (a3) rfl, ?_⟩
    conv => whnf
    refine ⟨fun (h1 : g.1 10 p = 0) => ?_, fun (h1 : ¬ g.1 10 p = 0) => ?_⟩
    · conv => whnf
      rw [if_pos h1]
      exact ⟨rfl, A, T, hW1, kpa.kp hk1⟩
    · conv => whnf
      refine ⟨_, jx_getF_of (a3) rfl, ?_⟩
      conv => whnf
      refine ⟨fun (h2 : ¬ g.1 11 p = 0) => ?_, fun (h2 : ¬ ¬ g.1 11 p = 0) => ?_⟩
      · conv => whnf
        rw [if_neg h1, if_neg h2]
        exact ⟨rfl, A, T, hW1, kpa.kp hk1⟩
      · have h2 := Decidable.not_not.mp h2
        conv => whnf
        refine ⟨jx_isC_of hR1.X, hC _ _ _ _ (((k_startOwn (d := d) hW1 hpg).up (by omega)).mp ?_)⟩
        rintro r s2 (⟨z1, rfl, hs2⟩ | ⟨z1, rfl, A', T', hW2, hk2⟩)
        · rw [hs2]
          conv => whnf
          rw [if_neg h1, if_pos h2, if_pos z1]
          exact ⟨rfl, A, T, hW1, kpa.kp hk1⟩
        · conv => whnf
          rw [if_neg h1, if_pos h2, if_neg z1]
          exact ⟨rfl, A', T', hW2, (kpa.kp hk1).tr hk2⟩
  refine cl_go dt_160 60 [(106, [0, 1])] dt_160_k rfl ?_
  intro C J hC hJ
  conv => whnf
  refine ⟨_, jx_getF_of (a2) rfl, ?_⟩
  conv => whnf
  refine ⟨jx_swx_of (List.forall_mem_cons.mpr ⟨?_, List.forall_mem_cons.mpr ⟨?_, List.forall_mem_cons.mpr ⟨?_, List.forall_mem_cons.mpr ⟨?_, (fun q hq => absurd hq List.not_mem_nil)⟩⟩⟩⟩), ?_⟩
  · intro (hw : f.1 15 p = 1)
    have ho := hop 1 (by omega) hw (by omega)
    conv => whnf
    refine ⟨_, jx_getF_of (a2) rfl, ?_⟩
    conv => whnf
    refine ⟨fun (h1 : f.1 16 p = 0) => ?_, fun (h1 : ¬ f.1 16 p = 0) => ?_⟩
    · conv => whnf
      refine ⟨jx_isC_of hR.X, hC _ _ _ _ ((hwt ho).mp ?_)⟩
      rintro r s1 ⟨rfl, hW1, hk1⟩
      conv => whnf
      unfold R_ring
      rw [if_pos hw, if_pos h1]
      exact ⟨rfl, A, T, hW1, kpa.kp hk1⟩
    · conv => whnf
      refine putK a2 rfl (fit_i _) (fun s1 p1 o1 n1 => ?_)
      conv => whnf
      obtain ⟨e, he⟩ : ∃ e, e = rf_ui f 15 p 2 := ⟨_, rfl⟩
      obtain ⟨hR1, hk1⟩ := hR.pe1 (σ' := s1) (f' := e) hpf (by rw [p1, he]; simp [cp_e, lim, rf_ui]) o1 n1 (by rw [he]; exact ui_pe ⟨by omega, by omega⟩ (fun _ _ _ => rfl)) (by rw [he]; rfl) (by rw [he, rf_ui_ne (by omega)])
      have oe : ∀ q j, ¬ (q = 15 ∧ j = p) → e.1 q j = f.1 q j := fun q j z => by rw [he, rf_ui_ne z]
      refine ⟨jx_isC_of hR1.X, hC _ _ _ _ (((k_setTimer (d := d) hR1 (by rw [oe 7 0 (by omega)]; exact hpf)).up (by omega)).mp ?_)⟩
      rintro r s2 ⟨rfl, hR2, hk2⟩
      obtain ⟨g, hg⟩ : ∃ g, g = rf_ui e 17 p (e.1 1 0 + 30) := ⟨_, rfl⟩
      rw [← hg] at hR2
      have og : ∀ q j, ¬ ((q = 15 ∨ q = 17) ∧ j = p) → g.1 q j = f.1 q j := fun q j z => by rw [hg, rf_ui_ne (by omega), oe q j (by omega)]
      have gl : g.2 = f.2 := by rw [hg, he]; rfl
      have g15 : g.1 15 p = 2 := by rw [hg, rf_ui_ne (by omega), he, rf_ui_eq]
      have hQ := hS.gq h34 (by omega)
      conv => whnf
      refine ⟨jx_isC_of hR2.X, hC _ _ _ _ (((k_giveOver (d := d) (a := a) (n := n) (p := p) ⟨G, hR2, by rw [og 2 0 (by omega)]; exact hls⟩ (by rw [og 49 0 (by omega)]; exact h49) ha (by rw [og 7 0 (by omega)]; exact h7) hn4 hp (fun i z1 z2 => by rw [og 54 i (by omega), og 55 i (by omega), gl]; exact hQ i z1 z2) (fun z => ?_)).up (by omega)).mp ?_)⟩
      · obtain ⟨w1, w2, w3⟩ := R_lu_us n 0 z
        have hne : R_lu g n 0 ≠ p := fun z2 => by
          have := w3.2
          rw [z2, g15] at this
          exact absurd this (by decide)
        exact (hS.gl (by omega) (by rw [← og 11 (R_lu g n 0) (by omega)]; exact w3.1)).of (fun w j hw' => og w j (by simp only [List.mem_cons, List.not_mem_nil, or_false] at hw'; omega))
      · rintro r s3 ⟨rfl, hW3, hk3⟩
        conv => whnf
        unfold R_ring
        rw [if_pos hw, if_neg h1]
        refine ⟨rfl, A, T, ?_, kpa.kp ((hk1.tr hk2).tr hk3)⟩
        rw [← he, show f.1 1 0 = e.1 1 0 by rw [oe 1 0 (by omega)], ← hg]
        exact hW3
  · intro (hw : f.1 15 p = 2)
    have ho := hop 2 (by omega) hw (by omega)
    obtain ⟨c, z1, z2⟩ := k_lineGone (d := d) hW hS h34 hh hp ho
    conv => whnf
    refine ⟨jx_isC_of a2, hC _ _ _ _ ((z1.up (by omega)).mp ?_)⟩
    rintro r s1 ⟨rfl, hs1⟩
    rw [hs1]
    conv => whnf
    refine ⟨jx_isC_of hR.X, hC _ _ _ _ (z2.mp ?_)⟩
    rintro r s2 ⟨rfl, hW2, hk2⟩
    conv => whnf
    unfold R_ring
    rw [if_neg (by rw [hw]; decide), if_pos hw]
    exact ⟨rfl, A, T, hW2, kpa.kp hk2⟩
  · intro (hw : f.1 15 p = 3)
    conv => whnf
    refine hJ _ _ _ _ (t106 ?_)
    unfold R_ring
    rw [if_neg (by rw [hw]; decide), if_neg (by rw [hw]; decide), if_neg (by rw [hw]; decide)]
  · intro (hw : f.1 15 p = 4)
    have ho := hop 4 (by omega) hw (by omega)
    obtain ⟨c, z1, z2⟩ := k_lineGone (d := d) hW hS h34 hh hp ho
    conv => whnf
    refine ⟨_, jx_getF_of (a2) rfl, ?_⟩
    conv => whnf
    refine ⟨fun (h1 : f.1 16 p = 0) => ?_, fun (h1 : ¬ f.1 16 p = 0) => ?_⟩
    · conv => whnf
      refine ⟨jx_isC_of hR.X, hC _ _ _ _ ((hwt ho).mp ?_)⟩
      rintro r s1 ⟨rfl, hW1, hk1⟩
      conv => whnf
      unfold R_ring
      rw [if_neg (by rw [hw]; decide), if_neg (by rw [hw]; decide), if_pos hw, if_pos h1]
      exact ⟨rfl, A, T, hW1, kpa.kp hk1⟩
    · conv => whnf
      refine ⟨jx_isC_of a2, hC _ _ _ _ ((z1.up (by omega)).mp ?_)⟩
      rintro r s1 ⟨rfl, hs1⟩
      rw [hs1]
      conv => whnf
      refine ⟨jx_isC_of hR.X, hC _ _ _ _ (z2.mp ?_)⟩
      rintro r s2 ⟨rfl, hW2, hk2⟩
      conv => whnf
      unfold R_ring
      rw [if_neg (by rw [hw]; decide), if_neg (by rw [hw]; decide), if_pos hw, if_neg h1]
      exact ⟨rfl, A, T, hW2, kpa.kp hk2⟩
  · refine jx_swd_i (fun hno' => ?_)
    conv => whnf
    refine hJ _ _ _ _ (t106 ?_)
    unfold R_ring
    rw [if_neg (fun e => hno' _ (List.mem_of_getElem? (i := 0) rfl) e), if_neg (fun e => hno' _ (List.mem_of_getElem? (i := 1) rfl) e), if_neg (fun e => hno' _ (List.mem_of_getElem? (i := 3) rfl) e)]
end JxDotimer
