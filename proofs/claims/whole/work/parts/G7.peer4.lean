/-! THE PAIR peer, together -/
section JxPeer4
variable {th : Nat → Nat} {B b d k n N a : Nat} {xl : List Int32} {σ σ' : jx_S} {f f' : jx_F} {A A' : Nat → Nat → Nat} {G G' : Nat → Nat → Int32} {T T' : Nat → Nat} {st : Int32}
/-- what the class alone has of a PEER that isn't there may be anything -/
theorem RelC.gn (hR : RelC th B b xl σ f A G T) (h7 : (f.1 7 0).toInt = (n : Int)) : RelC th B b xl σ f A (fun q j => if q = 2 ∧ j = n then 0 else G q j) T := by
  obtain ⟨hx, hd, hc, ⟨np, m1, m2, m3, m4⟩, hr⟩ := hR
  have enp : np = n := by omega
  have g0 : (fun q j => if q = 2 ∧ j = n then (0 : Int32) else G q j) 0 0 = G 0 0 := if_neg (by omega)
  refine ⟨?_, hd, fun c hc8 => ?_, ⟨np, m1, m2, m3, fun p hp => ?_⟩, hr⟩
  · unfold rl_x at hx ⊢
    rw [g0]
    exact hx
  · have g1 : (fun q j => if q = 2 ∧ j = n then (0 : Int32) else G q j) 1 c = G 1 c := if_neg (by omega)
    have := hc c hc8
    unfold rl_c1 cc_e at this ⊢
    rw [g1]
    exact this
  · have g2 : (fun q j => if q = 2 ∧ j = n then (0 : Int32) else G q j) 2 p = G 2 p := if_neg (by omega)
    have := m4 p hp
    unfold rl_p1 cp_e at this ⊢
    rw [g2]
    exact this
theorem PI.pe0 (hI : PI f G k) (hst : st = 0 ∨ st = 1) (h7 : (f.1 7 0).toInt = (n : Int)) (hn4 : n < 4) (hl : (R_pe0 f n N st).1 2 0 = lsum G' 8) : PI (R_pe0 f n N st) G' (k + 1) := by
  have o : ∀ q j, q ≠ 8 → q ≠ 9 → q ≠ 10 → q ≠ 17 → q ≠ 4 → q ≠ 7 → (R_pe0 f n N st).1 q j = f.1 q j := fun q j z1 z2 z3 z4 z5 z6 => pe0_o (by omega) (by omega) (by omega) (by omega)
  have op : ∀ q j, 10 ≤ q → q ≤ 25 → j ≠ n → (R_pe0 f n N st).1 q j = f.1 q j := fun q j z1 z2 z3 => pe0_o (by omega) (by omega) (by omega) (by omega)
  obtain ⟨v7, -, -, v10, -, -⟩ := pe0_v (f := f) (n := n) (N := N) (st := st)
  have x7 : ((R_pe0 f n N st).1 7 0).toInt = ((n + 1 : Nat) : Int) := by rw [v7, i32_add (c := 1) h7 (by decide) (by omega) (by omega)]; omega
  have l2 : (R_pe0 f n N st).2 = f.2 := rfl
  obtain ⟨n', aa, hg, hc, hp, hz, hq, hq0, -, ⟨t, t1, t2⟩, ⟨x, x1, x2, x3⟩, ⟨y, y1, y2⟩, j1, j2, j3, j4, j5⟩ := hI
  have en : n' = n := by have := hg.2.1; omega
  rw [en] at hg hc hp hz hq
  obtain ⟨g1, -, -, g4, g5, g6, g7⟩ := hg
  refine ⟨n + 1, aa, ⟨g1.of (o 6 0 (by omega) (by omega) (by omega) (by omega) (by omega) (by omega)) (fun c => o 33 c (by omega) (by omega) (by omega) (by omega) (by omega) (by omega)) (fun c => o 32 c (by omega) (by omega) (by omega) (by omega) (by omega) (by omega)), x7, by omega, by rw [o 49 0 (by omega) (by omega) (by omega) (by omega) (by omega) (by omega)]; exact g4, g5, fun i hi q hqq => ?_, fun q hq4 => ?_⟩, fun c c1 c2 => ?_, fun p hpn => ?_, fun p p1 p2 q hqq => ?_, fun i hi => ?_, fun i i1 i2 => ?_, hl, ⟨t, by rw [o 1 0 (by omega) (by omega) (by omega) (by omega) (by omega) (by omega)]; exact t1, by omega⟩, ⟨x, by rw [o 34 0 (by omega) (by omega) (by omega) (by omega) (by omega) (by omega)]; exact x1, x2, by omega⟩, ⟨y, by rw [o 35 0 (by omega) (by omega) (by omega) (by omega) (by omega) (by omega)]; exact y1, fun i i1 i2 => by rw [l2]; exact y2 i i1 i2⟩, fun p hp4 => ?_, fun c c1 c2 => ?_, fun i hi => ?_, fun i hi => ?_, ?_⟩
  · rw [o q _ (by omega) (by omega) (by omega) (by omega) (by omega) (by omega)]
    exact g6 i hi q hqq
  · rw [o 13 q (by omega) (by omega) (by omega) (by omega) (by omega) (by omega), o 14 q (by omega) (by omega) (by omega) (by omega) (by omega) (by omega)]
    exact g7 q hq4
  · obtain ⟨s, q, r, w1, ⟨w2, w2'⟩, w3, w4, w5, w6, w7, w8⟩ := hc c c1 c2
    refine ⟨s, q, r, by rw [o 26 c (by omega) (by omega) (by omega) (by omega) (by omega) (by omega)]; exact w1, ⟨by rw [o 27 c (by omega) (by omega) (by omega) (by omega) (by omega) (by omega)]; exact w2, by omega⟩, by rw [o 28 c (by omega) (by omega) (by omega) (by omega) (by omega) (by omega)]; exact w3, fun z => by rw [o 30 c (by omega) (by omega) (by omega) (by omega) (by omega) (by omega)]; exact w4 z, w5, fun z => by rw [o 30 c (by omega) (by omega) (by omega) (by omega) (by omega) (by omega)]; exact w6 z, fun z => by rw [o 13 _ (by omega) (by omega) (by omega) (by omega) (by omega) (by omega)]; exact w7 z, fun z => by rw [o 14 _ (by omega) (by omega) (by omega) (by omega) (by omega) (by omega)]; exact w8 z⟩
  · by_cases e : p = n
    · rw [e]
      have zz := hz n (Nat.le_refl _) hn4
      have z0 : (0 : Int32).toInt = ((0 : Nat) : Int) := by decide
      refine PI_p1.closed (u := 0) ?_ ?_ ?_ ?_ (by omega) (by omega) (Or.inl ?_) ?_
      · rw [o 11 n (by omega) (by omega) (by omega) (by omega) (by omega) (by omega)]; exact zz 11 (by decide)
      · rw [o 13 n (by omega) (by omega) (by omega) (by omega) (by omega) (by omega)]; exact zz 13 (by decide)
      · rw [o 14 n (by omega) (by omega) (by omega) (by omega) (by omega) (by omega)]; exact zz 14 (by decide)
      · rw [o 15 n (by omega) (by omega) (by omega) (by omega) (by omega) (by omega), zz 15 (by decide)]; exact z0
      · rw [o 16 n (by omega) (by omega) (by omega) (by omega) (by omega) (by omega)]; exact zz 16 (by decide)
      · rw [v10]; exact hst
    · exact (hp p (by omega)).of (fun q hqq => op q p (by simp only [List.mem_cons, List.not_mem_nil, or_false] at hqq; omega) (by simp only [List.mem_cons, List.not_mem_nil, or_false] at hqq; omega) e) (fun c c1 c2 _ q hqq => o q c (by omega) (by omega) (by omega) (by omega) (by omega) (by omega))
  · rw [op q p (by simp only [List.mem_cons, List.not_mem_nil, or_false] at hqq; omega) (by simp only [List.mem_cons, List.not_mem_nil, or_false] at hqq; omega) (by omega)]
    exact hz p (by omega) p2 q hqq
  · obtain ⟨u, w, ⟨u1, u2⟩, w1, w2, w3⟩ := hq i hi
    refine ⟨u, w, ⟨by rw [o 54 i (by omega) (by omega) (by omega) (by omega) (by omega) (by omega)]; exact u1, by omega⟩, by rw [o 55 i (by omega) (by omega) (by omega) (by omega) (by omega) (by omega)]; exact w1, by rw [l2]; exact w2, fun z => ?_⟩
    rw [l2] at z
    obtain ⟨z1, z2⟩ := w3 z
    refine ⟨by rw [o 11 u (by omega) (by omega) (by omega) (by omega) (by omega) (by omega)]; exact z1, ?_⟩
    rw [o 58 i (by omega) (by omega) (by omega) (by omega) (by omega) (by omega), z2]
    exact (R_conn_eq (o 11 u (by omega) (by omega) (by omega) (by omega) (by omega) (by omega)) (o 13 u (by omega) (by omega) (by omega) (by omega) (by omega) (by omega)) (o 14 u (by omega) (by omega) (by omega) (by omega) (by omega) (by omega))).symm
  · rw [o 55 i (by omega) (by omega) (by omega) (by omega) (by omega) (by omega), l2]
    exact hq0 i i1 i2
  · exact (j1 p hp4).of (o 22 p (by omega) (by omega) (by omega) (by omega) (by omega) (by omega)) (o 15 p (by omega) (by omega) (by omega) (by omega) (by omega) (by omega)) (o 19 p (by omega) (by omega) (by omega) (by omega) (by omega) (by omega))
  · exact (j2 c c1 c2).of (o 30 c (by omega) (by omega) (by omega) (by omega) (by omega) (by omega)) (fun j => o 29 j (by omega) (by omega) (by omega) (by omega) (by omega) (by omega))
  · rw [o 55 i (by omega) (by omega) (by omega) (by omega) (by omega) (by omega), o 34 0 (by omega) (by omega) (by omega) (by omega) (by omega) (by omega)]
    exact j3 i hi
  · rw [o 59 0 (by omega) (by omega) (by omega) (by omega) (by omega) (by omega)] at hi
    obtain ⟨z, z1, z2⟩ := j4 i hi
    exact ⟨z, by rw [o 64 i (by omega) (by omega) (by omega) (by omega) (by omega) (by omega)]; exact z1, by rw [o 1 0 (by omega) (by omega) (by omega) (by omega) (by omega) (by omega)]; exact z2⟩
  · exact j5.of (o 35 0 (by omega) (by omega) (by omega) (by omega) (by omega) (by omega)) (o 40 0 (by omega) (by omega) (by omega) (by omega) (by omega) (by omega)) (fun s _ => o 44 s (by omega) (by omega) (by omega) (by omega) (by omega) (by omega)) (fun s _ => by rw [l2]) (fun i _ => by rw [l2]; exact ⟨rfl, rfl⟩)
/-- the class makes a PEER -/
theorem k_peer (hst : st = 0 ∨ st = 1) (hW : RW th B b xl σ f A T) (hS : PS f n a) (hz : n < 4 → ∀ q, q ∈ [11, 13, 14, 15, 16, 18, 19, 20, 21, 22, 23, 24, 25] → f.1 q n = 0) : jc th (d + 10) 21 [.ref B, .int st] σ (fun r σ' => r = some (.int (R_peerF f st).1) ∧ ∃ A' T', RW th B b xl σ' (R_peerF f st).2 A' T' ∧ kpr B A A' σ σ') := by
  obtain ⟨G1, hR1, hl1⟩ := id hW
  have hB := hR1.1.2.2.2.2.1
  obtain ⟨N, hN, hN4, hh, hrow, hrv⟩ := hR1.1.2.2.2.2.2.2.1
  obtain ⟨H, hH, hH4, hv, hrowH, hHv⟩ := hR1.1.2.2.2.2.2.2.2.1
  obtain ⟨ty, hty, hrowH'⟩ : ∃ ty, ty ∈ [0, 3, 100] ∧ σ.1 (A 0 0) = some (.inl (ty, H, .inl hv)) := by
    rcases hrowH with ⟨-, z⟩ | ⟨-, z⟩
    · exact ⟨100, by decide, z⟩
    · exact ⟨0, by decide, z⟩
  have h7 := hS.1.2.1
  have hn4 := hS.1.2.2.1
  obtain ⟨np, m1, m2, hal, hpe⟩ := id hR1.2.2.2.1
  have enp : np = n := by omega
  rw [enp] at hal hpe
  obtain ⟨⟨mc, hlp⟩, hEc⟩ := id hal
  rw [List.length_map, List.length_range] at hlp
  have hsh : (H = N ∧ ∀ j, j < N → hv j = hh j) ↔ R_sh f := by
    unfold R_sh
    constructor
    · rintro ⟨z1, z2⟩
      refine ⟨Int32.toInt_inj.mp (by rw [hN, hH, z1]), fun j hj => ?_⟩
      have hj' : j < N := by omega
      rw [← (hrv j hj').1, ← z2 j hj', hHv j (by omega)]
    · rintro ⟨z1, z2⟩
      have e : H = N := by
        rw [z1, hH] at hN
        omega
      refine ⟨e, fun j hj => ?_⟩
      rw [hHv j (by omega), ← z2 j (by omega), (hrv j hj).1]
  have hkn : R_kn f ↔ R_sh f ∨ ∃ p', p' < n ∧ R_sm f p' := by
    unfold R_kn
    constructor
    · rintro (z | ⟨p', z1, z2⟩)
      · exact Or.inl z
      · exact Or.inr ⟨p', by omega, z2⟩
    · rintro (z | ⟨p', z1, z2⟩)
      · exact Or.inl z
      · exact Or.inr ⟨p', by omega, z2⟩
  refine cl_go dt_21 60 [] dt_21_k rfl ?_
  intro C J hC hJ
  conv => whnf
  refine ⟨_, jx_getF_of (hR1.X) rfl, ?_⟩
  conv => whnf
  refine ⟨fun (h0 : ¬ f.1 4 0 = 0) => ?_, fun (h0 : ¬ ¬ f.1 4 0 = 0) => ?_⟩
  rotate_left
  · conv => whnf
    unfold R_peerF
    rw [if_pos (Decidable.not_not.mp h0)]
    exact ⟨rfl, A, T, hW, kpa.rf.kr⟩
  conv => whnf
  refine ⟨_, jx_getF_of (hR1.X) rfl, ?_⟩
  conv => whnf
  refine ⟨jx_isC_of hR1.X, hC _ _ _ _ (((k_isHand (d := d) hR1.X hN hN4 hrow hty hrowH' hH4).up (by omega)).mp ?_)⟩
  rintro r s0 ⟨hcs, hs0⟩
  rw [hs0]
  rcases hcs with ⟨rfl, z⟩ | ⟨rfl, z⟩
  · conv => whnf
    refine jx_yes (show ¬ (1 : Int32) = 0 by decide) ?_
    conv => whnf
    unfold R_peerF
    rw [if_neg h0, if_pos (hkn.mpr (Or.inl (hsh.mp z)))]
    exact ⟨rfl, A, T, hW, kpa.rf.kr⟩
  conv => whnf
  refine jx_no (show ¬ ¬ (0 : Int32) = 0 from fun z => z rfl) ?_
  conv => whnf
  refine ⟨jx_isC_of hR1.X, hC _ _ _ _ (((k_isHandOfPeer (d := d) hR1 h7 hn4 hN hN4).up (by omega)).mp ?_)⟩
  rintro r s0 ⟨hcs, hs0⟩
  rw [hs0]
  rcases hcs with ⟨rfl, z'⟩ | ⟨rfl, z'⟩
  · conv => whnf
    refine jx_no (show ¬ (1 : Int32) = 0 by decide) ?_
    conv => whnf
    unfold R_peerF
    rw [if_neg h0, if_pos (hkn.mpr (Or.inr z'))]
    exact ⟨rfl, A, T, hW, kpa.rf.kr⟩
  have hnk : ¬ R_kn f := fun w => by
    rcases hkn.mp w with w | w
    · exact z (hsh.mpr w)
    · exact z' w
  conv => whnf
  refine jx_yes (show (0 : Int32) = 0 from rfl) ?_
  conv => whnf
  refine ⟨_, jx_getF_of (hR1.X) rfl, ?_⟩
  conv => whnf
  refine ⟨jx_isC_of hlp, hC _ _ _ _ (((k_size (d := d) hlp).up (by omega)).mp ?_)⟩
  rintro r s0 ⟨rfl, hs0⟩
  rw [hs0]
  conv => whnf
  by_cases e4 : n = 4
  · refine jx_no (show ¬ Int32.ofNat n < 4 by rw [e4]; decide) ?_
    conv => whnf
    unfold R_peerF
    rw [if_neg h0, if_neg hnk, if_pos (Int32.toInt_inj.mp (by rw [h7, e4]; decide))]
    exact ⟨rfl, A, T, hW, kpa.rf.kr⟩
  have hlt : n < 4 := by omega
  refine jx_yes (show Int32.ofNat n < 4 by rw [show (4 : Int32) = Int32.ofNat 4 from rfl, nlt (by omega) (by omega)]; exact hlt) ?_
  obtain ⟨s1, hs1⟩ : ∃ s1, s1 = jx_mk σ (.inr (6, tb_df 6)) 19 := ⟨_, rfl⟩
  have o1 : ∀ q, q ≠ σ.2.1 → s1.1 q = σ.1 q := fun q z => by rw [hs1, jx_mk_ne z]
  have p1 : s1.1 σ.2.1 = some (.inr (6, [.int 0, .null, .int 0, .int 0, .int 0, .null, .null, .int 0, .int 0, .int 0, .int 0, .int 0, .int 0, .int 0, .int 0, .int 0, .int 0, .int 0, .int 0])) := by rw [hs1]; exact jx_mk_eq
  have n1 : s1.2.1 = σ.2.1 + 1 ∧ s1.2.2 = σ.2.2 + 19 := by rw [hs1]; exact ⟨rfl, rfl⟩
  conv => whnf
  rw [← hs1]
  have X1 := (o1 B (by omega)).trans hR1.X
  have L1 := (o1 (B + 3) (by omega)).trans hlp
  refine ⟨_, jx_getF_of (X1) rfl, ?_⟩
  conv => whnf
  refine ⟨jx_isC_of L1, hC _ _ _ _ (((k_size (d := d) L1).up (by omega)).mp ?_)⟩
  rintro r s0 ⟨rfl, hs0⟩
  rw [hs0]
  conv => whnf
  refine ⟨jx_isC_of X1, hC _ _ _ _ (((k_takeHand (d := d) X1 hN hN4 ((o1 (B + 1) (by omega)).trans hrow) (by omega)).up (by omega)).mp ?_)⟩
  rintro r s2 ⟨rfl, ⟨g, g1, g2⟩, g3, g4, g5, g6⟩
  rw [n1.1] at g1 g4 g5
  have P2 := (g4 σ.2.1 (by omega) (by omega)).trans p1
  conv => whnf
  refine hC _ _ _ _ (((k_peerInit (d := d) (nv := Int32.ofNat n + 1) (Y := s1.2.1) hst P2).up (by omega)).mp ?_)
  rintro r s3 ⟨rfl, P3, o3, n3⟩
  have X3 := (o3 B (by omega)).trans g3
  conv => whnf
  refine ⟨jx_isC_of X3, hC _ _ _ _ (((k_setTimer0 (d := d) X3 P3).up (by omega)).mp ?_)⟩
  rintro r s4 ⟨rfl, P4, o4, n4⟩
  have X4 := (o4 B (by omega)).trans X3
  have hs4 : s4.2.1 = σ.2.1 + 2 ∧ s4.2.2 = σ.2.2 + 19 + N := by rw [n4, n3]; exact ⟨by omega, by omega⟩
  have k4 : ∀ q, q ≠ σ.2.1 → q ≠ σ.2.1 + 1 → q ≠ B → s4.1 q = σ.1 q := fun q z1 z2 z3 => by rw [o4 q z1, o3 q z1, g4 q z2 z3, o1 q z1]
  obtain ⟨T2, hT2⟩ : ∃ T2 : Nat → Nat, T2 = fun a => if a = σ.2.1 then 60 + n else if a = σ.2.1 + 1 then 81 else T a := ⟨_, rfl⟩
  have t2a : T2 σ.2.1 = 60 + n := by rw [hT2]; exact if_pos rfl
  have t2b : T2 (σ.2.1 + 1) = 81 := by rw [hT2]; exact (if_neg (by omega)).trans (if_pos rfl)
  have t2o : ∀ a, a < σ.2.1 → T2 a = T a := fun a z => by rw [hT2]; exact (if_neg (by omega)).trans (if_neg (by omega))
  have hch4 : chg (fun a => a = B) σ s4 T T2 := ⟨fun a z1 z2 => k4 a (by omega) (by omega) z2, by omega, t2o⟩
  have hal4 := hch4.al (by omega) (by omega) (fun a z => by have := z.1; omega) hal
  have hth := hR1.1.2.2.2.1 1 (by omega)
  have hSt := hR1.1.2.2.1.2.1
  have hadd := k_add (th := th) (d := d) (x := σ.2.1) hal4 (by omega) (by omega) (by omega) hth (by rw [k4 _ (by omega) (by omega) (by omega)]; exact hSt) P4 (by omega) (by decide) (by omega) (by rw [List.length_map, List.length_range]; omega) (fun i y hy => by
    obtain ⟨hi, e⟩ := List.getElem?_eq_some_iff.mp hy
    rw [List.length_map, List.length_range] at hi
    have e2 : A 6 i = y := by simpa using e
    obtain ⟨e3, e5, -⟩ := hpe i hi
    rw [e2] at e3 e5
    have h5 := e3.1
    have h6 := e3.2.1
    exact ⟨by omega, by omega, _, _, by rw [k4 y (by omega) (by omega) (by omega)]; exact e5, by decide⟩)
  have L4 := (k4 (B + 3) (by omega) (by omega) (by omega)).trans hlp
  conv => whnf
  refine ⟨_, jx_getF_of (X4) rfl, ?_⟩
  conv => whnf
  refine ⟨jx_isC_of L4, hC _ _ _ _ ((hadd.up (by omega)).mp ?_)⟩
  rintro r s5 ⟨rfl, E', T', a1, a2, a3, a4, a5, a6⟩
  have hEl : A 70 0 ≠ σ.2.1 ∧ A 70 0 ≠ σ.2.1 + 1 := by
    rcases hEc with ⟨z1, -⟩ | ⟨z1, -⟩
    · omega
    · have := z1.2.1
      omega
  have P5 := (a2.1 σ.2.1 (by omega) (fun z => by omega)).trans P4
  have Y5 : s5.1 (σ.2.1 + 1) = some (.inl (0, N, .inl g)) := by
    rw [a2.1 (σ.2.1 + 1) (by omega) (fun z => by omega), o4 _ (by omega), o3 _ (by omega)]
    exact g1
  conv => whnf
  refine ⟨_, jx_getF_of (P5) rfl, ?_⟩
  conv => whnf
  obtain ⟨v7, v4, v9, v10, v17, v8⟩ := pe0_v (f := f) (n := n) (N := N) (st := st)
  have eF : R_peerF f st = (f.1 7 0 + 1, R_pe0 f n N st) := by
    unfold R_peerF
    rw [if_neg h0, if_neg hnk, if_neg (fun z => by rw [z] at h7; have : (4 : Int32).toInt = 4 := (by decide); omega), i32_nat h7, i32_nat hN]
  rw [eF]
  obtain ⟨τ, hτ⟩ : ∃ τ : jx_S, τ = (fun q => if q = B then s2.1 B else σ.1 q, σ.2) := ⟨_, rfl⟩
  have τB : τ.1 B = s2.1 B := by rw [hτ]; exact if_pos rfl
  have τo : ∀ q, q ≠ B → τ.1 q = σ.1 q := fun q z => by rw [hτ]; exact if_neg z
  have τ2 : τ.2 = σ.2 := by rw [hτ]
  have hRt : RelC th B b xl τ (rf_ui f 4 0 0) A G1 T := by
    refine hR1.hand (fun q z1 z2 => τo q z1) τ2 (fun q j z1 z2 _ _ _ => rf_ui_ne (by omega)) (fun q j _ _ => rfl) ?_ ⟨0, by rw [rf_ui_eq]; decide, by omega, hh, (τo (B + 1) (by omega)).trans hrow, fun j hj => by omega⟩
    rw [τB, g3]
    unfold cx_e
    rw [rf_ui_eq, rf_ui_ne (by omega), rf_ui_ne (by omega)]
  have h7t : ((rf_ui f 4 0 0).1 7 0).toInt = (n : Int) := by rw [rf_ui_ne (by omega)]; exact h7
  have hRg := hRt.gn h7t
  obtain ⟨G2, hG2⟩ : ∃ G2 : Nat → Nat → Int32, G2 = fun q j => if q = 2 ∧ j = n then 0 else G1 q j := ⟨_, rfl⟩
  rw [← hG2] at hRg
  have g2n : G2 2 n = 0 := by rw [hG2]; exact if_pos ⟨rfl, rfl⟩
  have hz := hz hlt
  obtain ⟨A', hA'⟩ : ∃ A' : Nat → Nat → Nat, A' = fun q i => if q = 6 ∧ i = n then σ.2.1 else if q = 60 ∧ i = n then σ.2.1 + 1 else if q = 70 ∧ i = 0 then E' else A q i := ⟨_, rfl⟩
  have a60 : A' 60 n = σ.2.1 + 1 := by rw [hA']; exact (if_neg (by omega)).trans (if_pos ⟨rfl, rfl⟩)
  have pz : ∀ q, q ∈ [11, 13, 14, 15, 16, 18, 19, 20, 21, 22, 23, 24, 25] → (R_pe0 f n N st).1 q n = 0 := fun q hq => by
    rw [pe0_o (by simp only [List.mem_cons, List.not_mem_nil, or_false] at hq; omega) (by simp only [List.mem_cons, List.not_mem_nil, or_false] at hq; omega) (by simp only [List.mem_cons, List.not_mem_nil, or_false] at hq; omega) (by simp only [List.mem_cons, List.not_mem_nil, or_false] at hq; omega)]
    exact hz q hq
  have hch5 : chg (fun a => a = B + 3 ∨ (a = A 70 0 ∧ B + 102 ≤ a)) τ s5 T T' := by
    refine ⟨fun q z1 z2 => ?_, by rw [τ2]; have := a2.2.1; omega, fun q z1 => ?_⟩
    · rw [τ2] at z1
      rw [a2.1 q (by omega) z2]
      by_cases e : q = B
      · rw [e, τB, X4, g3]
      · rw [k4 q (by omega) (by omega) e, τo q e]
    · rw [τ2] at z1
      rw [a6 q (by omega), t2o q z1]
  have hRC := hRg.newp (σ' := s5) (f' := R_pe0 f n N st) (A' := A') (T' := T') (X := σ.2.1) (Y := σ.2.1 + 1) (E' := E') (g := g) (N := N) h7t hlt hN4 (fun c hc => by
      obtain ⟨s, q, r, -, ⟨w2, w2'⟩, -⟩ := hS.2.1 (c + 1) (by omega) (by omega)
      rw [rf_ui_ne (by omega), w2]
      omega) (fun i hi => by
      rw [rf_ui_ne (by omega)] at hi ⊢
      obtain ⟨u, w, ⟨u1, u2⟩, -⟩ := hS.2.2.2.1 i (by have := hS.1.2.2.2.1; omega)
      exact ⟨u, u1, u2⟩) (fun q j z1 z2 z3 => by
      by_cases e : q = 4 ∧ j = 0
      · rw [e.1, e.2, v4, rf_ui_eq]
      · rw [rf_ui_ne e, pe0_o z1 z2 e z3]) rfl (by rw [v7, i32_add (c := 1) h7 (by decide) (by omega) (by omega)]; omega) (by rw [v9]; exact hN) (fun z => absurd (pz 22 (by decide)) z) (by rw [τ2]; omega) (by have := a2.2.1; omega) (by rw [a6 _ (by omega)]; exact t2a) (by rw [τ2]; omega) (by have := a2.2.1; omega) (by rw [a6 _ (by omega)]; exact t2b) hch5 hA' a1 (by
      rw [P5]
      unfold cp_e lim
      rw [a60, v10, v17, g2n, pz 11 (by decide), pz 13 (by decide), pz 14 (by decide), pz 15 (by decide), pz 16 (by decide), pz 18 (by decide), pz 19 (by decide), pz 20 (by decide), pz 21 (by decide), pz 22 (by decide), pz 23 (by decide), pz 24 (by decide), pz 25 (by decide), cc_ref_0, if_pos (Or.inl rfl), if_pos rfl, n1.1, ← nadd (a := n) (c := 1) (q := 1) rfl (by omega)]
      rfl) Y5 (fun j hj => by
      rw [v8 j hj, g2 j hj, ← (hrv j hj).1]
      exact ⟨((hrv j hj).2).symm, (hrv j hj).2⟩)
  have hng := ngr_eq (A := A) (A' := A') (B := B) (fun c => by rw [hA']; exact (if_neg (by omega)).trans ((if_neg (by omega)).trans (if_neg (by omega)))) 8
  refine ⟨?_, A', T', ⟨G2, hRC, ?_⟩, fun q z1 z2 => ?_, ?_, ?_, ?_⟩
  · show some (Value.int (Int32.ofNat n + 1)) = _
    rw [i32_eq (x := f.1 7 0) (n := n) h7 (by omega)]
  · show (R_pe0 f n N st).1 2 0 = _
    rw [pe0_o (by omega) (by omega) (by omega) (by omega), hl1]
    refine (lsum_eq ?_ 8 (fun c _ => ?_)).symm
    · rw [hG2]; exact if_neg (by omega)
    · rw [hG2]; exact if_neg (by omega)
  · rw [a2.1 q (by omega) (fun z => by omega), k4 q (by omega) (by omega) (by omega)]
  · have := a2.2.1; omega
  · rw [hng]; omega
  · rw [hng]; omega
theorem pair_peer (hR : Rel th B b xl σ f A G T) (hI : PI (fN f) G k) (h1 : σ.2.1 + 2 * ngr A B 8 ≤ B + 118 + 100 * k) (h2 : σ.2.2 + 2600 * ngr A B 8 ≤ 81000 + 13000 * k) (hQ : KQ f) : lawp_2 th b B (B + 39) xl σ (Inv th B b xl (k + 1)) := by
  intro st hst
  have hI0 := hI.un
  obtain ⟨f0, hf0⟩ : ∃ f0, f0 = rf_ui f 0 0 0 := ⟨_, rfl⟩
  rw [← hf0] at hI0
  obtain ⟨n, a, hS, -⟩ := hI0.ps
  have h7 := hS.1.2.1
  have hn4 := hS.1.2.2.1
  obtain ⟨N, hN, hN4, -⟩ := hR.2.1.2.2.2.2.2.2.1
  have hN : (f.1 4 0).toInt = (N : Int) := hN
  have h7f : (f.1 7 0).toInt = (n : Int) := by rw [hf0, rf_ui_ne (by omega)] at h7; exact h7
  refine pair_work (w := (R_peerF f0 st).1) (f' := (R_peerF f0 st).2) rfl hR hI h1 h2 hQ (fun hW => ?_) (fun σ0 => ?_) (fun G' hl => ?_) (fun hq => ?_)
  · rw [← hf0] at hW
    refine ((k_peer (d := 20) hst hW hS (fun hlt q hq => ?_)).up (by omega)).mp (fun r σ1 h => h)
    obtain ⟨n', a', hg, -, -, hz, -⟩ := hI0
    have en : n' = n := by have := hg.2.1; omega
    exact hz n (by omega) hlt q hq
  · rw [hf0]
    exact (r_peer (d := 29) hst hN hN4 h7f hn4).up (by omega)
  · unfold R_peerF at hl ⊢
    by_cases h0 : f0.1 4 0 = 0
    · rw [if_pos h0] at hl ⊢
      exact hI0.same hl
    · rw [if_neg h0] at hl ⊢
      by_cases hk : R_kn f0
      · rw [if_pos hk] at hl ⊢
        exact hI0.same hl
      · rw [if_neg hk] at hl ⊢
        by_cases h4 : f0.1 7 0 = 4
        · rw [if_pos h4] at hl ⊢
          exact hI0.same hl
        · rw [if_neg h4] at hl ⊢
          have hlt : n < 4 := by
            rcases Nat.lt_or_ge n 4 with z | z
            · exact z
            · exact absurd (Int32.toInt_inj.mp (by rw [h7, show n = 4 by omega]; decide)) h4
          rw [i32_nat h7] at hl ⊢
          exact hI0.pe0 hst h7 hlt hl
  · rw [← hf0] at hq
    unfold R_peerF
    by_cases h0 : f0.1 4 0 = 0
    · rw [if_pos h0]; exact hq
    · rw [if_neg h0]
      by_cases hk : R_kn f0
      · rw [if_pos hk]; exact hq
      · rw [if_neg hk]
        by_cases h4 : f0.1 7 0 = 4
        · rw [if_pos h4]; exact hq
        · rw [if_neg h4]
          have hlt : n < 4 := by
            rcases Nat.lt_or_ge n 4 with z | z
            · exact z
            · exact absurd (Int32.toInt_inj.mp (by rw [h7, show n = 4 by omega]; decide)) h4
          have hN0 : (f0.1 4 0).toInt = (N : Int) := by rw [hf0, rf_ui_ne (by omega)]; exact hN
          rw [i32_nat h7, i32_nat hN0]
          obtain ⟨v7, v4, v9, v10, v17, v8⟩ := pe0_v (f := f0) (n := n) (N := N) (st := st)
          have x7 : ((R_pe0 f0 n N st).1 7 0).toInt = ((n + 1 : Nat) : Int) := by rw [v7, i32_add (c := 1) h7 (by decide) (by omega) (by omega)]; omega
          have hrv : ∀ j, j < N → vp_nar .byte (f0.1 3 j) = f0.1 3 j := fun j hj => by
            have hR0 := hR.2.un
            rw [← hf0] at hR0
            obtain ⟨N1, hN1, -, hh, -, hrv⟩ := hR0.1.2.2.2.2.2.2.1
            obtain ⟨z1, z2⟩ := hrv j (by omega)
            rw [← z1]
            exact z2
          have ha9 : ∀ p, p < n → ∃ y : Nat, (f0.1 9 p).toInt = (y : Int) ∧ y ≤ 40 := fun p hp => by
            have hR0 := hR.2.un
            rw [← hf0] at hR0
            obtain ⟨-, -, ⟨y, y1, y2, -⟩, -⟩ := hR0.pe (p := p) (by omega)
            exact ⟨y, y1, y2⟩
          have o9 : ∀ p, p < n → (R_pe0 f0 n N st).1 9 p = f0.1 9 p := fun p hp => pe0_o (by omega) (by omega) (by omega) (by omega)
          have o8 : ∀ p j, p < n → j < 40 → (R_pe0 f0 n N st).1 8 (40 * p + j) = f0.1 8 (40 * p + j) := fun p j hp hj => pe0_o (by omega) (by omega) (by omega) (by omega)
          refine ⟨fun j hj => by rw [pe0_o (by omega) (by omega) (by omega) (by omega)]; exact hq.1 j hj, fun p q p1 p2 p3 => ?_⟩
          have p2 : (q : Int) < ((R_pe0 f0 n N st).1 7 0).toInt := p2
          obtain ⟨y, y1, y2⟩ := ha9 p (by omega)
          obtain ⟨w1, w2⟩ : (R_pe0 f0 n N st).1 9 p = (R_pe0 f0 n N st).1 9 q ∧ ∀ j : Nat, (j : Int) < ((R_pe0 f0 n N st).1 9 p).toInt → (R_pe0 f0 n N st).1 8 (40 * p + j) = (R_pe0 f0 n N st).1 8 (40 * q + j) := p3
          rw [o9 p (by omega)] at w1 w2
          by_cases e : q = n
          · rw [e] at w1 w2
            rw [v9] at w1
            have ey : y = N := by rw [w1, hN0] at y1; omega
            refine hk (Or.inr ⟨p, by omega, w1, fun j hj => ?_⟩)
            have := w2 j (by rw [w1]; exact hj)
            rw [o8 p j (by omega) (by omega), v8 j (by omega), hrv j (by omega)] at this
            exact this
          · rw [o9 q (by omega)] at w1
            refine hq.2 p q p1 (by omega) ⟨w1, fun j hj => ?_⟩
            have := w2 j hj
            rw [o8 p j (by omega) (by omega), o8 q j (by omega) (by omega)] at this
            exact this
end JxPeer4
