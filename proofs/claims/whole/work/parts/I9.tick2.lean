/-! THE PAIR tick: the class's seconds -/
/-- the reference's place stays; rows of connections may be made -/
def kpt (B : Nat) (A A' : Nat → Nat → Nat) (σ σ' : jx_S) : Prop := (∀ a, B + 39 ≤ a → a < B + 102 → σ'.1 a = σ.1 a) ∧ σ.2.1 ≤ σ'.2.1 ∧ σ'.2.1 + 2 * ngr A' B 8 = σ.2.1 + 2 * ngr A B 8 ∧ σ'.2.2 + 2600 * ngr A' B 8 = σ.2.2 + 2600 * ngr A B 8
section JxTick2
variable {th : Nat → Nat} {B b d n a m s p k : Nat} {xl : List Int32} {σ σ' σ'' : jx_S} {f f' g : jx_F} {A A' A'' : Nat → Nat → Nat} {G : Nat → Nat → Int32} {T : Nat → Nat} {Q : Option Value → jx_S → Prop}
theorem kpt.rf : kpt B A A σ σ := ⟨fun _ _ _ => rfl, Nat.le_refl _, rfl, rfl⟩
theorem kpt.tr (h : kpt B A A' σ σ') (h' : kpt B A' A'' σ' σ'') : kpt B A A'' σ σ'' := ⟨fun a h1 h2 => (h'.1 a h1 h2).trans (h.1 a h1 h2), Nat.le_trans h.2.1 h'.2.1, h'.2.2.1.trans h.2.2.1, h'.2.2.2.trans h.2.2.2⟩
theorem kpt.kpa (h : kpa B A A' σ σ') : kpt B A A' σ σ' := ⟨h.1, h.2.2.1, h.2.2.2.1, h.2.2.2.2⟩
theorem kpt.kp (h : kp B σ σ') (hA : ∀ c, A' 52 c = A 52 c) : kpt B A A' σ σ' := ⟨h.2, by rw [h.1]; exact Nat.le_refl _, by rw [h.1, ngr_eq hA], by rw [h.1, ngr_eq hA]⟩
theorem kpt.kr (h : kpt B A A' σ σ') : kpr B A A' σ σ' := ⟨h.1, h.2.1, by have := h.2.2.1; omega, by have := h.2.2.2; omega⟩
theorem k_dropOwnR (hR : RelC th B b xl σ f A G T) (hS : PS f n a) (hp : p < n) : jc th (d + 2) 57 [.ref (A 6 p)] σ (fun r σ' => r = none ∧ RelC th B b xl σ' (R_da1 f p) A G T ∧ kp B σ σ') := by
  have h7 := hS.1.2.1
  have hn4 := hS.1.2.2.1
  obtain ⟨st, o, kk, u, -, ⟨t13, t13'⟩, ⟨t14, t14'⟩, -, q5, q6, -⟩ := id (hS.2.2.1 p hp)
  by_cases z : o = 0
  · have e : f.1 13 p = 0 := (i32_z t13).mpr z
    refine (k_dropOwn0 (d := d) hR (p := p) (by omega) e).mp ?_
    rintro r s1 ⟨rfl, hs1⟩
    have ef : R_da1 f p = f := by unfold R_da1; rw [if_pos e]
    rw [hs1, ef]
    exact ⟨rfl, hR, kp.rf⟩
  · have e : ¬ f.1 13 p = 0 := fun w => z ((i32_z t13).mp w)
    have ef : R_da1 f p = rf_ui (R_shut0 f (o - 1 + 1)) 13 p 0 := by
      unfold R_da1
      rw [if_neg e, i32_nat t13, R_shut_own (p := p) (by omega) (q5 z).1 (q5 z).2, show o - 1 + 1 = o by omega]
    rw [ef]
    exact k_dropOwn (d := d) (c := o - 1) hR (by omega) (by omega) (by rw [t13]; omega)
theorem k_dropCameR {kk : Nat} (hR : RelC th B b xl σ g A G T) (hp : (p : Int) < (g.1 7 0).toInt) (hp4 : p < 4) (t14 : (g.1 14 p).toInt = (kk : Int)) (t14' : kk ≤ 8) (gk : kk ≠ 0 → g.1 27 kk = Int32.ofNat (p + 1) ∧ g.1 28 kk = 2) : jc th (d + 2) 152 [.ref (A 6 p)] σ (fun r σ' => r = none ∧ RelC th B b xl σ' (R_da2 g p) A G T ∧ kp B σ σ') := by
  by_cases z : kk = 0
  · have e : g.1 14 p = 0 := (i32_z t14).mpr z
    refine (k_dropCame0 (d := d) hR (p := p) hp e).mp ?_
    rintro r s1 ⟨rfl, hs1⟩
    have ef : R_da2 g p = g := by unfold R_da2; rw [if_pos e]
    rw [hs1, ef]
    exact ⟨rfl, hR, kp.rf⟩
  · have e : ¬ g.1 14 p = 0 := fun w => z ((i32_z t14).mp w)
    have ef : R_da2 g p = rf_ui (R_shut0 g (kk - 1 + 1)) 14 p 0 := by
      unfold R_da2
      rw [if_neg e, i32_nat t14, R_shut_came (p := p) hp4 (gk z).1 (gk z).2, show kk - 1 + 1 = kk by omega]
    rw [ef]
    exact k_dropCame (d := d) (c := kk - 1) hR hp (by omega) (by rw [t14]; omega)
theorem da_lost (hS : PS f n a) (hp : p < n) : (R_da2 (R_da1 f p) p).1 2 0 = f.1 2 0 ∧ (R_da2 (R_da1 f p) p).1 7 0 = f.1 7 0 ∧ (R_da1 f p).1 7 0 = f.1 7 0 := by
  obtain ⟨st, o, kk, u, -, ⟨t13, t13'⟩, ⟨t14, t14'⟩, -, q5, q6, -⟩ := id (hS.2.2.1 p hp)
  obtain ⟨⟨g1, -, -⟩, -, -, -, -, g5, -⟩ := da_facts hS hp t13 t14
  refine ⟨g5 2 0 (by omega) (by omega), g5 7 0 (by omega) (by omega), ?_⟩
  have := g1.2.1
  have := hS.1.2.1
  exact Int32.toInt_inj.mp (by omega)
theorem k_ds_l : ∀ (r p h : Nat) (pv dv : Int32) (f : jx_F) (A : Nat → Nat → Nat) (T : Nat → Nat) (σ : jx_S), pv.toInt = (p : Int) → p + r = n → PS f n a → (f.1 34 0).toInt = (h : Int) → h + 128 * r < 2147481000 → (∃ t : Nat, (f.1 1 0).toInt = (t : Int) ∧ t < 2147483647) → RW th B b xl σ f A T → (∀ σ' A' T', RW th B b xl σ' (R_tpl n a r p f).2 A' T' → kpt B A A' σ σ' → cl_fj th (d + 8) 159 84 [(0, .ref B), (1, .int (dv + Int32.ofNat (R_tpl n a r p f).1))] [] σ' Q) → cl_fj th (d + 8) 159 4 [(0, .ref B), (1, .int dv), (2, .int pv)] [] σ Q
  | 0, p, h, pv, dv, f, A, T, σ, hv, hp, hS, h34, hh, ht, hW, hQ => by
    obtain ⟨G, hR, hls⟩ := id hW
    have h7 := hS.1.2.1
    have hn4 := hS.1.2.2.1
    obtain ⟨n', m1, m2, hal, -⟩ := id hR.2.2.2.1
    have en : n' = n := by omega
    obtain ⟨⟨mc, hl⟩, -⟩ := hal
    rw [List.length_map, List.length_range, en] at hl
    refine cl_at dt_159 40 [(84, [0, 1])] dt_159_k ?_
    intro C J hC hJ
    conv => whnf
    refine ⟨_, jx_getF_of (hR.X) rfl, ?_⟩
    conv => whnf
    refine ⟨jx_isC_of hl, hC _ _ _ _ (((k_size (d := d) hl).up (by omega)).mp ?_)⟩
    rintro r' s1 ⟨rfl, hs1⟩
    rw [hs1]
    conv => whnf
    refine jx_yes (show Int32.ofNat n ≤ pv by rw [Int32.le_iff_toInt_le, hv, i32_ofNat (by omega)]; omega) ?_
    conv => whnf
    refine hJ _ _ _ _ ?_
    have := hQ σ A T hW kpt.rf
    have e : dv + Int32.ofNat (R_tpl n a 0 p f).1 = dv := i32_c0
    rw [e] at this
    exact this
  | r + 1, p, h, pv, dv, f, A, T, σ, hv, hp, hS, h34, hh, ht, hW, hQ => by
    obtain ⟨G, hR, hls⟩ := id hW
    have h7 := hS.1.2.1
    have hn4 := hS.1.2.2.1
    obtain ⟨⟨a1, a2, h1, a3, a4⟩, b1, b2, h2, b3, b4, b5⟩ := hS.tp (p := p) (by omega) h34 (by omega)
    obtain ⟨t, t1, t2⟩ := ht
    have hlim := lim_i hS (p := p) (by omega) t1 t2
    have hv1 : (pv + Int32.ofInt 1).toInt = ((p + 1 : Nat) : Int) := by rw [i32_add (c := 1) hv (by decide) (by omega) (by omega)]; omega
    obtain ⟨g, hg⟩ : ∃ g, g = R_tpa f n a p := ⟨_, rfl⟩
    rw [← hg] at a1 a2 a3
    have eqP : R_tpl n a (r + 1) p f = (R_tpc f n a p + (R_tpl n a r (p + 1) (R_tp f n a p)).1, (R_tpl n a r (p + 1) (R_tp f n a p)).2) := rfl
    rw [eqP] at hQ
    have next : ∀ (k : Nat) (A1 : Nat → Nat → Nat) (T1 : Nat → Nat) (σ1 : jx_S), k = R_tpc f n a p → RW th B b xl σ1 (R_tp f n a p) A1 T1 → kpt B A A1 σ σ1 → cl_fj th (d + 8) 159 4 [(0, .ref B), (1, .int (dv + Int32.ofNat k)), (2, .int (pv + Int32.ofInt 1))] [] σ1 Q := fun k A1 T1 σ1 hk hW1 hk1 => by
      refine k_ds_l r (p + 1) h2 _ _ (R_tp f n a p) A1 T1 σ1 hv1 (by omega) b1 b3 (by omega) ⟨t, by rw [b2.now]; exact t1, t2⟩ hW1 (fun σ' A' T' z1 z2 => ?_)
      rw [i32_cnt, hk]
      exact hQ σ' A' T' z1 (hk1.tr z2)
    have t59 : ∀ (k : Nat) (σ1 : jx_S), k = (if lim f p ≤ f.1 1 0 then 1 else 0) → RW th B b xl σ1 g A T → kp B σ σ1 → cl_fj th (d + 8) 159 59 [(0, .ref B), (1, .int (dv + Int32.ofNat k)), (2, .int pv), (3, .ref (A 6 p))] [] σ1 Q := fun k σ1 hk hW1 hk1 => by
      obtain ⟨G1, hR1, hls1⟩ := id hW1
      have g7 := a1.1.2.1
      have e2 := (hR1.pe (p := p) (by omega)).2.1
      refine cl_at dt_159 60 [(4, [0, 1, 2])] dt_159_k ?_
      intro C J hC hJ
      conv => whnf
      refine ⟨_, jx_getF_of (e2) rfl, ?_⟩
      conv => whnf
      refine ⟨_, jx_getF_of (hR1.X) rfl, ?_⟩
      conv => whnf
      refine ⟨fun (z : g.1 1 0 < g.1 17 p) => ?_, fun (z : ¬ g.1 1 0 < g.1 17 p) => ?_⟩
      · conv => whnf
        have e1 : R_tp f n a p = g := by unfold R_tp; rw [← hg, if_neg (Int32.not_le.mpr z)]
        have e3 : k = R_tpc f n a p := by unfold R_tpc; rw [← hg, if_neg (Int32.not_le.mpr z), hk, Nat.add_zero]
        exact hJ _ _ _ _ (next k A T σ1 e3 (by rw [e1]; exact hW1) (kpt.kp hk1 (fun _ => rfl)))
      · conv => whnf
        refine ⟨jx_isC_of hR1.X, hC _ _ _ _ ((k_doTimer (d := d) hW1 a1 a3 a4 (by omega : p < n)).mp ?_)⟩
        rintro r' s2 ⟨rfl, A2, T2, hW2, hk2⟩
        conv => whnf
        have e1 : R_tp f n a p = R_ring g n a p := by unfold R_tp; rw [← hg, if_pos (Int32.not_lt.mp z)]
        have e3 : k + 1 = R_tpc f n a p := by unfold R_tpc; rw [← hg, if_pos (Int32.not_lt.mp z), hk]
        have := next (k + 1) A2 T2 s2 e3 (by rw [e1]; exact hW2) ((kpt.kp hk1 (fun _ => rfl)).tr (kpt.kpa hk2))
        rw [← i32_cnt] at this
        exact hJ _ _ _ _ this
    obtain ⟨n', m1, m2, hal, hpe⟩ := id hR.2.2.2.1
    have en : n' = n := by omega
    rw [en] at hal hpe
    have hal0 := hal
    obtain ⟨⟨mc, hl⟩, -⟩ := hal
    rw [List.length_map, List.length_range] at hl
    have e2 := (hpe p (by omega)).2.1
    refine cl_at dt_159 60 [(59, [0, 1, 2, 3])] dt_159_k ?_
    intro C J hC hJ
    conv => whnf
    refine ⟨_, jx_getF_of (hR.X) rfl, ?_⟩
    conv => whnf
    refine ⟨jx_isC_of hl, hC _ _ _ _ (((k_size (d := d) hl).up (by omega)).mp ?_)⟩
    rintro r' s1 ⟨rfl, hs1⟩
    rw [hs1]
    conv => whnf
    refine jx_no (show ¬ Int32.ofNat n ≤ pv by rw [Int32.le_iff_toInt_le, hv, i32_ofNat (by omega)]; omega) ?_
    conv => whnf
    refine ⟨_, jx_getF_of (hR.X) rfl, ?_⟩
    conv => whnf
    refine ⟨jx_isC_of hl, hC _ _ _ _ (((k_get (d := d) hal0 hv (by simp [show p < n by omega] : ((List.range n).map (A 6))[p]? = some (A 6 p))).up (by omega)).mp ?_)⟩
    rintro r' s2 ⟨rfl, hs2⟩
    rw [hs2]
    conv => whnf
    refine ⟨jx_cast_of e2 (by decide +kernel), ?_⟩
    conv => whnf
    refine ⟨_, jx_getF_of (e2) rfl, ?_⟩
    conv => whnf
    refine ⟨_, jx_getF_of (hR.X) rfl, ?_⟩
    conv => whnf
    refine ⟨fun (z : f.1 1 0 < lim f p) => ?_, fun (z : ¬ f.1 1 0 < lim f p) => ?_⟩
    · conv => whnf
      have eg : g = f := by rw [hg]; unfold R_tpa; rw [if_neg (Int32.not_le.mpr z)]
      have := t59 0 σ (by rw [if_neg (Int32.not_le.mpr z)]) (by rw [eg]; exact hW) kp.rf
      rw [i32_c0] at this
      exact hJ _ _ _ _ this
    · have z := Int32.not_lt.mp z
      have hno : ¬ R_open (f.1 11 p) := fun w => by
        rcases (hlim.mp z).1 with y | y
        · rcases w with w | w <;> rw [w] at y <;> exact absurd y.2 (by decide)
        · rcases w with w | w <;> rw [w] at y <;> exact absurd y (by decide)
      obtain ⟨d1, -⟩ := dropAll_no hS (by omega : p < n) hno
      have eg : g = R_enter (R_da2 (R_da1 f p) p) p 0 := by rw [hg]; unfold R_tpa; rw [if_pos z, d1]
      obtain ⟨st, o, kk, u, -, ⟨t13, t13'⟩, ⟨t14, t14'⟩, -⟩ := id (hS.2.2.1 p (by omega))
      obtain ⟨⟨-, g14, gk⟩, -⟩ := da_facts hS (by omega : p < n) t13 t14
      obtain ⟨l1, l2, l3⟩ := da_lost hS (by omega : p < n)
      conv => whnf
      refine ⟨jx_isC_of e2, hC _ _ _ _ (((k_dropOwnR (d := d) hR hS (by omega : p < n)).up (by omega)).mp ?_)⟩
      rintro r' s3 ⟨rfl, hR3, hk3⟩
      have e3 := (hR3.pe (p := p) (by rw [l3]; omega)).2.1
      conv => whnf
      refine ⟨jx_isC_of e3, hC _ _ _ _ (((k_dropCameR (d := d) hR3 (by rw [l3]; omega) (by omega) (by rw [g14]; exact t14) t14' gk).up (by omega)).mp ?_)⟩
      rintro r' s4 ⟨rfl, hR4, hk4⟩
      conv => whnf
      refine ⟨jx_isC_of hR4.X, hC _ _ _ _ (((k_enter (d := d) (s := 0) ⟨G, hR4, by rw [l1]; exact hls⟩ (p := p) (by rw [l2]; omega)).up (by omega)).mp ?_)⟩
      rintro r' s5 ⟨rfl, hW5, hk5⟩
      conv => whnf
      have := t59 1 s5 (by rw [if_pos z]) (by rw [eg]; exact hW5) ((hk3.tr hk4).tr hk5)
      exact hJ _ _ _ _ this
theorem k_doSecond {h x : Nat} (hW : RW th B b xl σ f A T) (hS : PS f n a) (hM : MI f) (h34 : (f.1 34 0).toInt = (h : Int)) (hh : h < 2147480000) (ht : ∃ t : Nat, (f.1 1 0).toInt = (t : Int) ∧ t < 2147483647) : jc th (d + 9) 159 [.ref B] σ (fun r σ' => r = some (.int (Int32.ofNat (R_sec f n a).1)) ∧ ∃ A' T', RW th B b xl σ' (R_sec f n a).2 A' T' ∧ kpt B A A' σ σ') := by
  have hn4 := hS.1.2.2.1
  obtain ⟨b1, b2, -⟩ := PS.tpl n 0 f h hS (by omega) h34 (by omega)
  obtain ⟨g, hg⟩ : ∃ g, g = (R_tpl n a n 0 f).2 := ⟨_, rfl⟩
  have hMg : MI g := by rw [hg]; exact b2.mi hM
  obtain ⟨⟨x, m, hx, m1, -⟩, -⟩ := id hMg
  have eS : R_sec f n a = ((R_tpl n a n 0 f).1 + (R_tsl m 0 g).1, (R_tsl m 0 g).2) := by unfold R_sec; rw [← hg, i32_nat m1]
  rw [eS]
  refine cl_go dt_159 40 [(4, [0, 1, 2])] dt_159_k rfl ?_
  intro C J hC hJ
  conv => whnf
  refine hJ _ _ _ _ (k_ds_l n 0 h 0 0 f A T σ (by decide) (by omega) hS h34 (by omega) ht hW (fun σ1 A1 T1 hW1 hk1 => ?_))
  rw [← hg] at hW1
  obtain ⟨G1, hR1, hls1⟩ := id hW1
  have hL := hR1.1.2.2.2.2.2.2.2.2.2.1
  refine cl_at dt_159 40 [] dt_159_k ?_
  intro C J hC hJ
  conv => whnf
  refine ⟨_, jx_getF_of (hR1.X) rfl, ?_⟩
  conv => whnf
  refine ⟨_, jx_getF_of (hR1.X) rfl, ?_⟩
  conv => whnf
  refine ⟨jx_isC_of hL, hC _ _ _ _ (((k_endDue (d := d) hR1 m1 rfl).up (by omega)).mp ?_)⟩
  rintro r s2 ⟨rfl, A2, hR2, hA2, hk2⟩
  obtain ⟨-, c2, -⟩ := tsl_all m 0 g (by rw [m1]; omega) hMg hx
  conv => whnf
  refine ⟨?_, A2, T1, ⟨G1, hR2, by rw [c2 2 0 (by omega)]; exact hls1⟩, hk1.tr (kpt.kp hk2 (fun c => hA2 52 c (by omega)))⟩
  show some (Value.int (0 + Int32.ofNat (R_tpl n a n 0 f).1 + Int32.ofNat (R_tsl m 0 g).1)) = _
  rw [i32_cnt, Int32.zero_add]
/-- the next second at which something may be due -/
theorem due_v {nw t nd : Int32} {N r : Nat} (hN : nw.toInt = (N : Int)) (ht : t.toInt = ((N + (r + 1) : Nat) : Int)) {V : Int32} (hV : V = if (if nw + 1 < nd then nd else nw + 1) < t then (if nw + 1 < nd then nd else nw + 1) else t) : ∃ j : Nat, j ≤ r ∧ V.toInt = ((N + j + 1 : Nat) : Int) ∧ ∀ i : Nat, 1 ≤ i → i ≤ j → ((N + i : Nat) : Int) < nd.toInt := by
  have hlt := Int32.toInt_lt t
  have h1 : (nw + 1).toInt = ((N + 1 : Nat) : Int) := by rw [i32_add (c := 1) hN (by decide) (by omega) (by omega)]; omega
  by_cases z : nw + 1 < nd
  · rw [if_pos z] at hV
    have z' := Int32.lt_iff_toInt_lt.mp z
    rw [h1] at z'
    by_cases y : nd < t
    · rw [if_pos y] at hV
      have y' := Int32.lt_iff_toInt_lt.mp y
      exact ⟨nd.toInt.toNat - N - 1, by omega, by rw [hV]; omega, fun i i1 i2 => by omega⟩
    · rw [if_neg y] at hV
      have y' : t.toInt ≤ nd.toInt := Int32.le_iff_toInt_le.mp (Int32.not_lt.mp y)
      exact ⟨r, Nat.le_refl _, by rw [hV, ht]; omega, fun i i1 i2 => by omega⟩
  · rw [if_neg z] at hV
    by_cases y : nw + 1 < t
    · rw [if_pos y] at hV
      exact ⟨0, by omega, by rw [hV, h1], fun i i1 i2 => by omega⟩
    · rw [if_neg y] at hV
      have y' : t.toInt ≤ (nw + 1).toInt := Int32.le_iff_toInt_le.mp (Int32.not_lt.mp y)
      exact ⟨0, by omega, by rw [hV, ht]; omega, fun i i1 i2 => by omega⟩
theorem RelC.now {y : Int32} (hR : RelC th B b xl σ f A G T) (hX : σ'.1 B = some (cx_e B (rf_ui f 1 0 y) (A 0 0) (G 0 0))) (ho : ∀ q, q ≠ B → σ'.1 q = σ.1 q) (hn : σ'.2 = σ.2) : RelC th B b xl σ' (rf_ui f 1 0 y) A G T := hR.obj ho hn (fun q j z1 _ _ _ _ => rf_ui_ne (by omega)) (fun _ _ _ _ => rfl) (fun _ _ _ => rfl) hX
theorem k_tick_l {tv : Int32} {tN : Nat} (htv : tv.toInt = (tN : Int)) (htm : tN < 2147483647) : ∀ (w r h : Nat) (dv : Int32) (f : jx_F) (A : Nat → Nat → Nat) (T : Nat → Nat) (σ : jx_S), r ≤ w → (f.1 1 0).toInt = (tN : Int) - (r : Int) → r ≤ tN → PS f n a → MI f → (f.1 34 0).toInt = (h : Int) → h + 512 * r < 2147480000 → RW th B b xl σ f A T → (∀ σ' A' T', RW th B b xl σ' (R_tk n a r f).2 A' T' → kpt B A A' σ σ' → Q (some (.int (dv + Int32.ofNat (R_tk n a r f).1))) σ') → cl_fj th (d + 9) 156 28 [(0, .ref B), (1, .int tv), (2, .int dv)] [] σ Q
  | w, 0, h, dv, f, A, T, σ, hw, hn, hr, hS, hM, h34, hh, hW, hQ => by
    obtain ⟨G, hR, hls⟩ := id hW
    refine cl_at dt_156 40 [] dt_156_k ?_
    intro C J hC hJ
    conv => whnf
    refine ⟨_, jx_getF_of (hR.X) rfl, ?_⟩
    conv => whnf
    refine jx_yes (show tv ≤ f.1 1 0 by rw [Int32.le_iff_toInt_le, hn, htv]; omega) ?_
    conv => whnf
    have := hQ σ A T hW kpt.rf
    have e : dv + Int32.ofNat (R_tk n a 0 f).1 = dv := i32_c0
    rw [e] at this
    exact this
  | 0, r + 1, h, dv, f, A, T, σ, hw, _, _, _, _, _, _, _, _ => by omega
  | w + 1, r + 1, h, dv, f, A, T, σ, hw, hn, hr, hS, hM, h34, hh, hW, hQ => by
    obtain ⟨G, hR, hls⟩ := id hW
    have h7 := hS.1.2.1
    have hn4 := hS.1.2.2.1
    obtain ⟨⟨x, m, hx, hm, -⟩, -⟩ := id hM
    obtain ⟨N, hN⟩ : ∃ N : Nat, N = tN - (r + 1) := ⟨_, rfl⟩
    have hN' : (f.1 1 0).toInt = (N : Int) := by rw [hn]; omega
    refine cl_at dt_156 60 [(28, [0, 1, 2])] dt_156_k ?_
    intro C J hC hJ
    conv => whnf
    refine ⟨_, jx_getF_of (hR.X) rfl, ?_⟩
    conv => whnf
    refine jx_no (show ¬ tv ≤ f.1 1 0 by rw [Int32.le_iff_toInt_le, hn, htv]; omega) ?_
    conv => whnf
    refine ⟨_, jx_getF_of (hR.X) rfl, ?_⟩
    conv => whnf
    refine ⟨jx_isC_of hR.X, hC _ _ _ _ (((k_nextDue (d := d) hR h7 hn4 hm).up (by omega)).mp ?_)⟩
    rintro r' s1 ⟨⟨nd, rfl, nd1, nd2⟩, hs1⟩
    rw [hs1]
    conv => whnf
    obtain ⟨V, hV⟩ : ∃ V : Int32, V = if (if f.1 1 0 + 1 < nd then nd else f.1 1 0 + 1) < tv then (if f.1 1 0 + 1 < nd then nd else f.1 1 0 + 1) else tv := ⟨_, rfl⟩
    obtain ⟨j, j1, j2, j3⟩ := due_v (nd := nd) hN' (show tv.toInt = ((N + (r + 1) : Nat) : Int) by rw [htv]; omega) hV
    have hid : ∀ i : Nat, 1 ≤ i → i ≤ j → idle f n (f.1 1 0 + Int32.ofNat i) := fun i i1 i2 => by
      have hi := j3 i i1 i2
      have e : (f.1 1 0 + Int32.ofNat i).toInt = ((N + i : Nat) : Int) := by rw [i32_add (c := (i : Int)) hN' (i32_ofNat (by omega)) (by omega) (by omega)]; omega
      have hlt' : f.1 1 0 + Int32.ofNat i < nd := by rw [Int32.lt_iff_toInt_lt, e]; exact hi
      exact ⟨fun p hp => ⟨Int32.lt_of_lt_of_le hlt' (nd1 p hp).1, Int32.lt_of_lt_of_le hlt' (nd1 p hp).2⟩, fun s hs => Int32.lt_of_lt_of_le hlt' (nd2 s (by omega))⟩
    obtain ⟨f1, hf1⟩ : ∃ f1, f1 = rf_ui f 1 0 V := ⟨_, rfl⟩
    have eV : V = f.1 1 0 + Int32.ofNat j + 1 := Int32.toInt_inj.mp (by
      have e : (f.1 1 0 + Int32.ofNat j).toInt = ((N + j : Nat) : Int) := by rw [i32_add (c := (j : Int)) hN' (i32_ofNat (by omega)) (by omega) (by omega)]; omega
      rw [j2, i32_add (c := 1) e (by decide) (by omega) (by omega)]
      omega)
    have eT : R_tk n a (r + 1) f = ((R_sec f1 n a).1 + (R_tk n a (r - j) (R_sec f1 n a).2).1, (R_tk n a (r - j) (R_sec f1 n a).2).2) := by
      have := tk_idle (n := n) (a := a) (r - j + 1) j f hid
      rw [show j + (r - j + 1) = r + 1 by omega] at this
      rw [this, tk_s, rf_ui_eq, rf_ui_same, ← eV, ← hf1]
    rw [eT] at hQ
    have hS1 : PS f1 n a := by rw [hf1]; exact hS.now
    have hM1 : MI f1 := by rw [hf1]; exact hM.now
    have f34 : (f1.1 34 0).toInt = (h : Int) := by rw [hf1, rf_ui_ne (by omega)]; exact h34
    have f1n : (f1.1 1 0).toInt = ((N + j + 1 : Nat) : Int) := by rw [hf1, rf_ui_eq]; exact j2
    have f1x : (f1.1 35 0).toInt = (x : Int) := by rw [hf1, rf_ui_ne (by omega)]; exact hx
    obtain ⟨c1, c2, -, c4, h', c5, c6, c7⟩ := hS1.sec hM1 f1x f34 (by omega)
    refine putK hR.X rfl (fit_i _) (fun s2 p2 o2 n2 => ?_)
    conv => whnf
    have hR2 : RelC th B b xl s2 f1 A G T := by
      rw [hf1]
      refine hR.now ?_ o2 n2
      rw [p2, hV]
      unfold cx_e
      rw [rf_ui_eq, rf_ui_ne (by omega), rf_ui_ne (by omega)]
      rfl
    have hW2 : RW th B b xl s2 f1 A T := ⟨G, hR2, by rw [hf1, rf_ui_ne (by omega)]; exact hls⟩
    have hk2 : kp B σ s2 := ⟨n2, fun q z1 z2 => o2 q (by omega)⟩
    refine ⟨jx_isC_of hR2.X, hC _ _ _ _ ((k_doSecond (d := d) (x := x) hW2 hS1 hM1 f34 (by omega) ⟨N + j + 1, f1n, by omega⟩).mp ?_)⟩
    rintro r' s3 ⟨rfl, A3, T3, hW3, hk3⟩
    conv => whnf
    refine hJ _ _ _ _ (k_tick_l htv htm w (r - j) h' _ (R_sec f1 n a).2 A3 T3 s3 (by omega) (by rw [c4, f1n]; omega) (by omega) c1 c2 c5 (by omega) hW3 (fun σ' A' T' z1 z2 => ?_))
    have := hQ σ' A' T' z1 (((kpt.kp hk2 (fun _ => rfl)).tr hk3).tr z2)
    rw [← i32_cnt] at this
    exact this
theorem i32_l (x : Int32) : x.toInt64.toInt = x.toInt := Int32.toInt_toInt64 x
theorem k_tick {tv : Int32} {t h : Nat} (hW : RW th B b xl σ f A T) (hS : PS f n a) (hM : MI f) (hn : (f.1 1 0).toInt = (t : Int)) (htm : t < 2147480000) (h34 : (f.1 34 0).toInt = (h : Int)) (hh : h < 2146000000) : jc th (d + 10) 156 [.ref B, .int tv] σ (fun r σ' => r = some (.int (R_tickF f n a tv).1) ∧ ∃ A' T', RW th B b xl σ' (R_tickF f n a tv).2 A' T' ∧ kpr B A A' σ σ') := by
  obtain ⟨G, hR, hls⟩ := id hW
  have hlt := Int32.toInt_lt tv
  refine cl_go dt_156 40 [(28, [0, 1, 2])] dt_156_k rfl ?_
  intro C J hC hJ
  conv => whnf
  refine ⟨_, jx_getF_of (hR.X) rfl, ?_⟩
  conv => whnf
  refine ⟨fun (h1 : tv < f.1 1 0) => ?_, fun (h1 : ¬ tv < f.1 1 0) => ?_⟩
  · conv => whnf
    unfold R_tickF
    rw [if_pos (Or.inl h1)]
    exact ⟨rfl, A, T, hW, kpt.rf.kr⟩
  · have hge : (t : Int) ≤ tv.toInt := by
      have := Int32.not_lt.mp h1
      rw [Int32.le_iff_toInt_le, hn] at this
      exact this
    have hsub : (tv - f.1 1 0).toInt = tv.toInt - (t : Int) := i32_sub rfl hn (by omega) (by omega)
    have hsubl : (tv.toInt64 - (f.1 1 0).toInt64).toInt = tv.toInt - (t : Int) := i64_sub (i32_l tv) (by rw [i32_l]; exact hn) (by omega) (by omega)
    have hcmp : 0 < lg_cmp (tv.toInt64 - (f.1 1 0).toInt64) 2000 ↔ 2000 < tv.toInt - (t : Int) := by
      rw [lg_gt, hsubl, show (2000 : Int64).toInt = 2000 by decide]
    conv => whnf
    refine ⟨_, jx_getF_of (hR.X) rfl, ?_⟩
    conv => whnf
    refine ⟨fun (h2 : lg_cmp (tv.toInt64 - (f.1 1 0).toInt64) 2000 ≤ 0) => ?_, fun (h2 : ¬ lg_cmp (tv.toInt64 - (f.1 1 0).toInt64) 2000 ≤ 0) => ?_⟩
    · have h2' : ¬ 2000 < tv.toInt - (t : Int) := fun z => absurd (hcmp.mpr z) (Int32.not_lt.mpr h2)
      obtain ⟨r, hr⟩ : ∃ r : Nat, tv.toInt - (t : Int) = (r : Int) := ⟨(tv.toInt - (t : Int)).toNat, by omega⟩
      have er : (tv - f.1 1 0).toNatClampNeg = r := i32_nat (by rw [hsub]; exact hr)
      have eF : R_tickF f n a tv = (Int32.ofNat (R_tk n a r f).1, (R_tk n a r f).2) := by
        unfold R_tickF
        rw [if_neg (fun z => by
          rcases z with z | z
          · exact h1 z
          · rw [Int32.lt_iff_toInt_lt, hsub, show (2000 : Int32).toInt = 2000 by decide] at z
            omega), er]
      conv => whnf
      refine hJ _ _ _ _ (k_tick_l (d := d) (tN := t + r) (n := n) (a := a) (by omega) (by omega) r r h 0 f A T σ (Nat.le_refl _) (by rw [hn]; omega) (by omega) hS hM h34 (by omega) hW (fun σ' A' T' z1 z2 => ?_))
      rw [eF, Int32.zero_add]
      exact ⟨rfl, A', T', z1, z2.kr⟩
    · have h2' : 2000 < tv.toInt - (t : Int) := hcmp.mp (Int32.not_le.mp h2)
      conv => whnf
      unfold R_tickF
      rw [if_pos (Or.inr (by rw [Int32.lt_iff_toInt_lt, hsub, show (2000 : Int32).toInt = 2000 by decide]; exact h2'))]
      exact ⟨rfl, A, T, hW, kpt.rf.kr⟩
/-- seconds keep what holds -/
theorem PS.tk {x : Nat} : ∀ (r h : Nat) (f : jx_F), PS f n a → MI f → (f.1 35 0).toInt = (x : Int) → (f.1 34 0).toInt = (h : Int) → h + 512 * r < 2147480000 → ∀ t : Nat, (f.1 1 0).toInt = (t : Int) → t + r < 2147483647 → PS (R_tk n a r f).2 n a ∧ MI (R_tk n a r f).2 ∧ FT n a x f (R_tk n a r f).2 ∧ ((R_tk n a r f).2.1 1 0).toInt = ((t + r : Nat) : Int) ∧ ∃ h' : Nat, ((R_tk n a r f).2.1 34 0).toInt = (h' : Int) ∧ h ≤ h' ∧ h' ≤ h + 512 * r
  | 0, h, f, hS, hM, hx, h34, hh, t, ht, htr => ⟨hS, hM, FT.rf, ht, h, h34, Nat.le_refl _, by omega⟩
  | r + 1, h, f, hS, hM, hx, h34, hh, t, ht, htr => by
    obtain ⟨f1, hf1⟩ : ∃ f1, f1 = rf_ui f 1 0 (f.1 1 0 + 1) := ⟨_, rfl⟩
    rw [tk_s, ← hf1]
    have o1 : ∀ q j, q ≠ 1 → f1.1 q j = f.1 q j := fun q j z => by rw [hf1, rf_ui_ne (by omega)]
    have f1t : (f1.1 1 0).toInt = ((t + 1 : Nat) : Int) := by rw [hf1, rf_ui_eq, i32_add (c := 1) ht (by decide) (by omega) (by omega)]; omega
    obtain ⟨c1, c2, c3, c4, h', c5, c6, c7⟩ := PS.sec (f := f1) (n := n) (a := a) (by rw [hf1]; exact hS.now) (by rw [hf1]; exact hM.now) (x := x) (by rw [o1 35 0 (by omega)]; exact hx) (by rw [o1 34 0 (by omega)]; exact h34) (by omega)
    obtain ⟨e1, e2, e3, e4, h2, e5, e6, e7⟩ := PS.tk r h' (R_sec f1 n a).2 c1 c2 (by rw [c3.1 35 0 rfl (by omega) (fun _ => by omega) (by omega) (by omega), o1 35 0 (by omega)]; exact hx) c5 (by omega) (t + 1) (by rw [c4]; exact f1t) (by omega)
    have ft0 : FT n a x f f1 := ⟨fun q j _ _ _ _ z => o1 q j z, fun u j z _ => o1 u j (by omega), fun _ _ _ _ _ => by rw [hf1]; rfl⟩
    exact ⟨e1, e2, (ft0.tr c3).tr e3, by rw [e4]; omega, h2, e5, by omega, by omega⟩
theorem pair_tick (hk : k ≤ 512) (hR : Rel th B b xl σ f A G T) (hI : PI (fN f) G k) (h1 : σ.2.1 + 2 * ngr A B 8 ≤ B + 118 + 100 * k) (h2 : σ.2.2 + 2600 * ngr A B 8 ≤ 81000 + 13000 * k) (hQ : KQ f) : lawp_9 th b B (B + 39) xl σ (Inv th B b xl (k + 1)) := by
  intro tv
  have hI0 := hI.un
  obtain ⟨f0, hf0⟩ : ∃ f0, f0 = rf_ui f 0 0 0 := ⟨_, rfl⟩
  rw [← hf0] at hI0
  obtain ⟨n, a, hS, x, h34, hx1, hx2⟩ := hI0.ps
  have hR0 : RelC th B b xl σ f0 A G T := by rw [hf0]; exact hR.2.un
  obtain ⟨n', a', hg', -, -, hz', -, hq0', -, ⟨t, ht, ht2⟩, -, ⟨xa, hxa, hxa2⟩, -, -, -, hk', hm'⟩ := id hI0
  have en : n' = n := by have := hg'.2.1; have := hS.1.2.1; omega
  have ea : a' = a := by have := hg'.2.2.2.1; have := hS.1.2.2.2.1; omega
  rw [en] at hz'
  rw [ea] at hq0'
  have hM : MI f0 := by
    obtain ⟨x', a1, a2, -⟩ := id hR0.2.2.2.2.2.2.1
    obtain ⟨m', m1, m2, -⟩ := id hR0.2.2.2.2.2.2.2
    exact ⟨hm', by omega, by omega⟩
  have htf : (f.1 1 0).toInt = (t : Int) := by rw [hf0, rf_ui_ne (by omega)] at ht; exact ht
  have h34f : (f.1 34 0).toInt = (x : Int) := by rw [hf0, rf_ui_ne (by omega)] at h34; exact h34
  refine pair_work (w := (R_tickF f0 n a tv).1) (f' := (R_tickF f0 n a tv).2) rfl hR hI h1 h2 hQ (fun hW => ?_) (fun σ0 => ?_) (fun G' hl => ?_) (fun hq => ?_)
  · rw [← hf0] at hW
    exact ((k_tick (d := 20) hW hS hM ht (by omega) h34 (by omega)).up (by omega)).mp (fun r σ1 h => h)
  · rw [hf0] at hS hM ⊢
    exact (r_tick (d := 20) htf (by omega) hS hM h34f (by omega)).up (by omega)
  · unfold R_tickF at hl ⊢
    by_cases hb : tv < f0.1 1 0 ∨ 2000 < tv - f0.1 1 0
    · rw [if_pos hb] at hl ⊢
      exact hI0.same hl
    · rw [if_neg hb] at hl ⊢
      have hge : (t : Int) ≤ tv.toInt := by
        have := Int32.not_lt.mp (fun z => hb (Or.inl z))
        rw [Int32.le_iff_toInt_le, ht] at this
        exact this
      have hlt := Int32.toInt_lt tv
      have hsub : (tv - f0.1 1 0).toInt = tv.toInt - (t : Int) := i32_sub rfl ht (by omega) (by omega)
      have hle : tv.toInt - (t : Int) ≤ 2000 := by
        have := Int32.not_lt.mp (fun z => hb (Or.inr z))
        rw [Int32.le_iff_toInt_le, hsub, show (2000 : Int32).toInt = 2000 by decide] at this
        exact this
      obtain ⟨r, hr⟩ : ∃ r : Nat, tv.toInt - (t : Int) = (r : Int) := ⟨(tv.toInt - (t : Int)).toNat, by omega⟩
      rw [i32_nat (by rw [hsub]; exact hr)] at hl ⊢
      have hl : (R_tk n a r f0).2.1 2 0 = lsum G' 8 := hl
      obtain ⟨e1, e2, e3, e4, h', e5, e6, e7⟩ := PS.tk (x := xa) r x f0 hS hM hxa h34 (by omega) t ht (by omega)
      obtain ⟨F, hF⟩ : ∃ F, F = (R_tk n a r f0).2 := ⟨_, rfl⟩
      rw [← hF] at e1 e2 e3 e4 e5 hl ⊢
      show PI F G' (k + 1)
      refine PI.pack e1 (fun p p1 p2 q hq => ?_) (fun i i1 i2 => ?_) hl ⟨t + r, e4, by omega⟩ ⟨h', e5, by omega, by omega⟩ ⟨xa, ?_, fun i i1 i2 => ?_⟩ (fun i hi => ?_) e2.1
      · have hq2 := hq
        simp only [List.mem_cons, List.not_mem_nil, or_false] at hq2
        rw [e3.1 q p (by rcases hq2 with rfl | rfl | rfl | rfl | rfl | rfl | rfl | rfl | rfl | rfl | rfl | rfl | rfl <;> rfl) (by omega) (fun z => by omega) (by omega) (by omega)]
        exact hz' p p1 p2 q hq
      · rw [e3.2.1 55 i (by omega) i1, e3.2.2 53 i (by omega) (by omega) (by omega)]
        exact hq0' i i1 i2
      · rw [e3.1 35 0 rfl (by omega) (fun _ => by omega) (by omega) (by omega)]
        exact hxa
      · rw [e3.2.2 38 i (by omega) (by omega) (by omega), e3.2.2 39 i (by omega) (by omega) (by omega)]
        exact hxa2 i i1 i2
      · rw [e3.1 59 0 rfl (by omega) (fun _ => by omega) (by omega) (by omega)] at hi
        obtain ⟨y, y1, y2⟩ := hk' i hi
        refine ⟨y, ?_, ?_⟩
        · rw [e3.1 64 i rfl (by omega) (fun _ => by omega) (by omega) (by omega)]; exact y1
        · rw [e4]; omega
  · rw [← hf0] at hq
    unfold R_tickF
    by_cases hb : tv < f0.1 1 0 ∨ 2000 < tv - f0.1 1 0
    · rw [if_pos hb]; exact hq
    · rw [if_neg hb]
      have hge : (t : Int) ≤ tv.toInt := by
        have := Int32.not_lt.mp (fun z => hb (Or.inl z))
        rw [Int32.le_iff_toInt_le, ht] at this
        exact this
      have hlt := Int32.toInt_lt tv
      have hsub : (tv - f0.1 1 0).toInt = tv.toInt - (t : Int) := i32_sub rfl ht (by omega) (by omega)
      have hle : tv.toInt - (t : Int) ≤ 2000 := by
        have := Int32.not_lt.mp (fun z => hb (Or.inr z))
        rw [Int32.le_iff_toInt_le, hsub, show (2000 : Int32).toInt = 2000 by decide] at this
        exact this
      obtain ⟨r, hr⟩ : ∃ r : Nat, tv.toInt - (t : Int) = (r : Int) := ⟨(tv.toInt - (t : Int)).toNat, by omega⟩
      rw [i32_nat (by rw [hsub]; exact hr)]
      obtain ⟨-, -, e3, -⟩ := PS.tk (x := xa) r x f0 hS hM hxa h34 (by omega) t ht (by omega)
      exact hq.of (fun q j hq' => e3.1 q j (by rcases hq' with rfl | rfl | rfl | rfl <;> rfl) (by omega) (fun _ => by omega) (by omega) (by omega))
end JxTick2
