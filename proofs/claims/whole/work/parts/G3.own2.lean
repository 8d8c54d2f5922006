/-! THE PAIR own, together -/
section JxOwn2
variable {th : Nat → Nat} {B b m d k n N O X Y : Nat} {xl : List Int32} {σ σ' σ0 : jx_S} {f f' : jx_F} {A : Nat → Nat → Nat} {G : Nat → Nat → Int32} {T : Nat → Nat} {w : Nat → Int32} {c v : Int32}
theorem R_ownF0_o {q j : Nat} (h3 : q ≠ 4) (h5 : q ≠ 5) (h6 : q ≠ 6) : (R_ownF0 f N).1 q j = f.1 q j := by
  unfold R_ownF0
  rw [rf_ui_ne (fun z => h3 z.1), rf_ui_ne (fun z => h6 z.1), R_cy_o (fun z => h5 z.1)]
theorem R_ownF0_v : (R_ownF0 f N).1 4 0 = 0 ∧ (R_ownF0 f N).1 6 0 = f.1 4 0 ∧ ∀ j, j < N → (R_ownF0 f N).1 5 j = vp_nar .byte (f.1 3 j) := by
  unfold R_ownF0
  refine ⟨rf_ui_eq, by rw [rf_ui_ne (by omega), rf_ui_eq], fun j hj => ?_⟩
  rw [rf_ui_ne (by omega), rf_ui_ne (by omega), R_cy_v (by omega) (by omega), Nat.sub_zero, Nat.zero_add]
theorem RelC.own {g o : Nat → Int32} (hR : RelC th B b xl σ f A G T) (h7 : (f.1 7 0).toInt = ((0 : Nat) : Int)) (h49 : (f.1 49 0).toInt = ((0 : Nat) : Int)) (h4 : (f.1 4 0).toInt = (N : Int)) (hN : N ≤ 40) (hX : σ'.1 B = some (cx_e B (R_ownF0 f N) σ.2.1 (G 0 0))) (hx : σ'.1 σ.2.1 = some (.inl (0, N, .inl g))) (hg : ∀ j, j < N → g j = (R_ownF0 f N).1 5 j) (hy : σ'.1 (σ.2.1 + 1) = some (.inl (1, n, .inl o))) (hyl : (R_me (R_ownF0 f N) (R_hs (R_ownF0 f N)) 20).length = 4 * n) (hyo : ∀ (i : Nat) (x : Int32), (R_me (R_ownF0 f N) (R_hs (R_ownF0 f N)) 20)[i]? = some x → cn_pk o i = x.toInt8) (h11 : ∃ c : Int32, σ'.1 (B + 11) = some (.inr (4, [.ref (B + 12), .int c, .ref (σ.2.1 + 1)]))) (h12 : ∃ w : Nat → Int32, σ'.1 (B + 12) = some (.inl (1, 64, .inl w))) (ho : ∀ a, a < σ.2.1 → a ≠ B → a ≠ B + 11 → a ≠ B + 12 → σ'.1 a = σ.1 a) (hn : σ'.2.1 = σ.2.1 + 2) : RelC th B b xl σ' (R_ownF0 f N) (fun q i => if q = 0 ∧ i = 0 then σ.2.1 else if q = 4 ∧ i = 0 then σ.2.1 + 1 else A q i) G (fun a => if a = σ.2.1 then 81 else if a = σ.2.1 + 1 then 4 else T a) := by
  have hB := hR.1.2.2.2.2.1
  have aO : ∀ q i, ¬ (q = 0 ∧ i = 0) → ¬ (q = 4 ∧ i = 0) → (if q = 0 ∧ i = 0 then σ.2.1 else if q = 4 ∧ i = 0 then σ.2.1 + 1 else A q i) = A q i := fun q i z1 z2 => by rw [if_neg z1, if_neg z2]
  have hch : chg (fun a => a = B ∨ a = B + 11 ∨ a = B + 12) σ σ' T (fun a => if a = σ.2.1 then 81 else if a = σ.2.1 + 1 then 4 else T a) := ⟨fun a ha hw => ho a ha (fun z => hw (Or.inl z)) (fun z => hw (Or.inr (Or.inl z))) (fun z => hw (Or.inr (Or.inr z))), by omega, fun a ha => (if_neg (by omega)).trans (if_neg (by omega))⟩
  have lo : ∀ a, a ≠ B → a ≠ B + 11 → a ≠ B + 12 → ¬ (a = B ∨ a = B + 11 ∨ a = B + 12) := fun a z1 z2 z3 => by omega
  have hd : ∀ a t, dy B σ T a t → ¬ (a = B ∨ a = B + 11 ∨ a = B + 12) := fun a t h => by have := h.1; omega
  have k0 : ∀ q j, q ≠ 4 → q ≠ 5 → q ≠ 6 → (R_ownF0 f N).1 q j = f.1 q j := fun q j z1 z2 z3 => R_ownF0_o z1 z2 z3
  obtain ⟨v4, v6, v5⟩ := R_ownF0_v (f := f) (N := N)
  obtain ⟨hx', -, hC, hP, ⟨nq, q1, q2, q3, -⟩, hk, ha, hs⟩ := hR
  have hl2 : (R_ownF0 f N).2 = f.2 := rfl
  refine ⟨?_, ⟨?_, h12, ?_, n, o, ?_, hyl, hyo⟩, fun c hc => (hC c hc).mv hc hch hB ⟨lo _ (by omega) (by omega) (by omega), lo _ (by omega) (by omega) (by omega), lo _ (by omega) (by omega) (by omega)⟩ (fun a t h _ => hd a t h) (fun q hq => k0 q _ (by simp only [List.mem_cons, List.not_mem_nil, or_false] at hq; omega) (by simp only [List.mem_cons, List.not_mem_nil, or_false] at hq; omega) (by simp only [List.mem_cons, List.not_mem_nil, or_false] at hq; omega)) (fun j _ => k0 29 _ (by omega) (by omega) (by omega)) (fun j _ => k0 31 _ (by omega) (by omega) (by omega)) ⟨aO 51 c (by omega) (by omega), aO 52 c (by omega) (by omega), fun i => aO 6 i (by omega) (by omega)⟩ rfl, hP.mv hch hB (lo _ (by omega) (by omega) (by omega)) (fun a t h _ => hd a t h) (fun q j z1 z2 => k0 q j (by omega) (by omega) (by omega)) (fun q i hq => aO q i (by omega) (by omega)) (fun _ => rfl), ⟨0, by rw [k0 49 0 (by omega) (by omega) (by omega)]; exact h49, by omega, ?_, fun i hi => by omega⟩, hk.mv hch hB (lo _ (by omega) (by omega) (by omega)) (fun a t h _ => hd a t h) (fun q j z1 z2 => k0 q j (by omega) (by omega) (by omega)) (fun q i hq => aO q i (by omega) (by omega)), ha.mv hch hB (lo _ (by omega) (by omega) (by omega)) (fun a t h _ => hd a t h) (k0 35 0 (by omega) (by omega) (by omega)) (fun q j _ _ => by rw [hl2]) (fun q i hq => aO q i (by omega) (by omega)), hs.mv hch hB (lo _ (by omega) (by omega) (by omega)) (fun a t h _ => hd a t h) (fun q j z1 z2 => k0 q j (by omega) (by omega) (by omega)) (fun q j _ => by rw [hl2]) (by rw [k0 7 0 (by omega) (by omega) (by omega)]; exact Int.le_refl _) (by rw [k0 35 0 (by omega) (by omega) (by omega)]; exact Int.le_refl _) (fun q i hq => aO q i (by omega) (by omega)) (fun i _ => aO 10 i (by omega) (by omega)) (fun i _ => aO 6 i (by omega) (by omega))⟩
  · obtain ⟨x1, x2, x3, x4, x6, x7, ⟨n1, y8, y9, y, y10, y11⟩, -, ⟨gc, c1, c2⟩, x12, ⟨o1, o2, o3, o4, o5, o6, x13⟩⟩ := hx'
    have hlow : ∀ a, a < B → σ'.1 a = σ.1 a := fun a ha => ho a (by omega) (by omega) (by omega) (by omega)
    refine ⟨by rw [hlow b x2]; exact x1, x2, ⟨?_, ?_, fun z z1 z2 => ?_⟩, x4, by omega, ?_, ⟨0, by rw [v4]; decide, by omega, y, by rw [ho _ (by omega) (by omega) (by omega) (by omega)]; exact y10, fun j hj => by omega⟩, ⟨N, by rw [v6]; exact h4, hN, g, Or.inr ?_, hg⟩, ⟨gc, by rw [ho _ (by omega) (by omega) (by omega) (by omega)]; exact c1, c2⟩, by rw [ho _ (by omega) (by omega) (by omega) (by omega)]; exact x12, ⟨o1, o2, o3, o4, o5, o6, by rw [ho _ (by omega) (by omega) (by omega) (by omega)]; exact x13⟩⟩
    · rw [hlow _ (x4 0 (by omega))]; exact x3.1
    · rw [hlow _ (x4 1 (by omega))]; exact x3.2.1
    · rw [hlow _ (x4 z z2)]; exact x3.2.2 z z1 z2
    · exact hX
    · exact ⟨⟨hB, (show σ.2.1 < σ'.2.1 by omega), if_pos rfl⟩, hx⟩
  · exact h11
  · exact Or.inr ⟨(show B + 102 ≤ σ.2.1 + 1 by omega), (show σ.2.1 + 1 < σ'.2.1 by omega), (if_neg (show ¬ σ.2.1 + 1 = σ.2.1 by omega)).trans (if_pos rfl)⟩
  · exact hy
  · have en : nq = 0 := by omega
    rw [en] at q3
    exact hch.al (by omega) (lo _ (by omega) (by omega) (by omega)) (fun a h => hd a _ h) q3
theorem pair_own (hR : Rel th B b xl σ f A G T) (hI : PI (fN f) G k) (h1 : σ.2.1 + 2 * ngr A B 8 ≤ B + 118 + 100 * k) (h2 : σ.2.2 + 2600 * ngr A B 8 ≤ 81000 + 13000 * k) (hQ : KQ f) : lawp_1 th b B (B + 39) xl σ (Inv th B b xl (k + 1)) := by
  have hI0 := hI.un
  obtain ⟨f0, hf0⟩ : ∃ f0, f0 = rf_ui f 0 0 0 := ⟨_, rfl⟩
  rw [← hf0] at hI0
  obtain ⟨np, a, hS, -⟩ := hI0.ps
  have h7 := hS.1.2.1
  obtain ⟨N, hN, hN4, -⟩ := hR.2.1.2.2.2.2.2.2.1
  have hN : (f.1 4 0).toInt = (N : Int) := hN
  have hN0 : (f0.1 4 0).toInt = (N : Int) := by rw [hf0, rf_ui_ne (by omega)]; exact hN
  have np4 := hS.1.2.2.1
  refine pair_work (w := (R_ownF f0).1) (f' := (R_ownF f0).2) rfl hR hI h1 h2 hQ (fun hW => ?_) (fun σ0 => ?_) (fun G' hl => ?_) (fun hq => ?_)
  · rw [← hf0] at hW
    obtain ⟨G1, hR1, hl1⟩ := id hW
    have hB := hR1.1.2.2.2.2.1
    obtain ⟨N1, hN1, -, hh, hrow, hrv⟩ := hR1.1.2.2.2.2.2.2.1
    have eN : N1 = N := by omega
    rw [eN] at hrv
    obtain ⟨np', m1, m2, hal, -⟩ := id hR1.2.2.2.1
    obtain ⟨⟨mc, hlp⟩, -⟩ := hal
    rw [List.length_map, List.length_range] at hlp
    have enp : np' = np := by omega
    rw [enp] at hlp
    refine cl_go dt_17 60 [] dt_17_k rfl ?_
    intro C J hC hJ
    conv => whnf
    refine ⟨_, jx_getF_of (hR1.X) rfl, ?_⟩
    conv => whnf
    refine ⟨fun (h0 : ¬ f0.1 4 0 = 0) => ?_, fun (h0 : ¬ ¬ f0.1 4 0 = 0) => ?_⟩
    · conv => whnf
      refine ⟨_, jx_getF_of (hR1.X) rfl, ?_⟩
      conv => whnf
      refine ⟨jx_isC_of hlp, hC _ _ _ _ (((k_isEmpty (d := 28) hlp).up (by omega)).mp ?_)⟩
      rintro r s1 ⟨hcs, hs1⟩
      rw [hs1]
      rcases hcs with ⟨rfl, h0p⟩ | ⟨rfl, h0p⟩
      · have np0 : np = 0 := by
          have := congrArg Int32.toInt h0p
          rw [i32_ofNat (by omega), show (0 : Int32).toInt = 0 by decide] at this
          omega
        have a0 : a = 0 := by
          rcases Nat.eq_zero_or_pos a with z | z
          · exact z
          · obtain ⟨u, t, ⟨-, hu⟩, -⟩ := hS.2.2.2.1 0 z
            omega
        have e7 : f0.1 7 0 = 0 := (i32_z h7).mpr np0
        conv => whnf
        refine jx_yes (show ¬ (1 : Int32) = 0 by decide) ?_
        conv => whnf
        refine ⟨jx_isC_of hR1.X, hC _ _ _ _ (((k_takeHand (d := 20) hR1.X hN0 hN4 hrow (by omega)).up (by omega)).mp ?_)⟩
        rintro r s2 ⟨rfl, ⟨g, g1, g2⟩, g3, g4, g5, g6⟩
        conv => whnf
        refine putK g3 rfl (fit_a _ rfl) (fun s3 p3 o3 n3 => ?_)
        conv => whnf
        have hR2 := hR1.2.1
        obtain ⟨⟨cn, d1⟩, ⟨w, d2⟩, -⟩ := hR2
        obtain ⟨v4, v6, v5⟩ := R_ownF0_v (f := f0) (N := N)
        have t11 := (o3 (B + 11) (by omega)).trans ((g4 (B + 11) (by omega) (by omega)).trans d1)
        have t12 := (o3 (B + 12) (by omega)).trans ((g4 (B + 12) (by omega) (by omega)).trans d2)
        have tx := (o3 σ.2.1 (by omega)).trans g1
        have hg5 : ∀ j, j < N → g j = (R_ownF0 f0 N).1 5 j := fun j hj => by
          rw [v5 j hj, g2 j hj, (hrv j hj).1.symm]
          exact ((hrv j hj).2).symm
        have e6 : (R_ownF0 f0 N).1 6 0 = Int32.ofNat N := by rw [v6]; exact i32_eq (x := f0.1 4 0) (n := N) hN0 (by omega)
        refine ⟨_, jx_getF_of (p3) rfl, ?_⟩
        conv => whnf
        refine ⟨_, jx_getF_of (p3) rfl, ?_⟩
        conv => whnf
        refine ⟨jx_isC_of t11, hC _ _ _ _ (((k_setOrigin (d := 20) (f := R_ownF0 f0 N) t11 t12 tx (by omega) hN4 (by rw [n3, g5]; omega) hg5 e6).up (by omega)).mp ?_)⟩
        rintro r s4 ⟨rfl, ⟨n, o, q1, q2, q3, q4⟩, ⟨c4, q5⟩, ⟨w4, q6⟩, q7, q8, q9⟩
        have hs3 : s3.2.1 = σ.2.1 + 1 := by rw [n3, g5]
        rw [hs3] at q1 q5 q7 q8
        have ehs : R_hs (R_ownF0 f0 N) = N := by unfold R_hs; rw [e6, i32_nat (i32_ofNat (n := N) (by omega))]
        have q3 : (R_me (R_ownF0 f0 N) (R_hs (R_ownF0 f0 N)) 20).length = 4 * n := by rw [ehs]; exact q3
        have q4 : ∀ (i : Nat) (x : Int32), (R_me (R_ownF0 f0 N) (R_hs (R_ownF0 f0 N)) 20)[i]? = some x → cn_pk o i = x.toInt8 := by rw [ehs]; exact q4
        have x4 := (q7 B (by omega) (by omega) (by omega)).trans p3
        conv => whnf
        refine ⟨_, jx_getF_of (x4) rfl, ?_⟩
        conv => whnf
        refine ⟨_, jx_al_of ((q7 σ.2.1 (by omega) (by omega) (by omega)).trans tx), ?_⟩
        conv => whnf
        have hRC := hR1.own (σ' := s4) (N := N) (by rw [e7]; decide) (by rw [(i32_z hS.1.2.2.2.1).mpr a0]; decide) hN0 hN4 (by
            rw [x4]
            unfold cx_e
            rw [v4, R_ownF0_o (by omega) (by omega) (by omega), R_ownF0_o (by omega) (by omega) (by omega)]
            rfl) ((q7 σ.2.1 (by omega) (by omega) (by omega)).trans tx) hg5 q1 q3 q4 ⟨c4, q5⟩ ⟨w4, q6⟩ (fun a a1 a2 a3 a4 => by rw [q7 a a3 a4 (by omega), o3 a a2, g4 a (by omega) a2]) (by rw [q8])
        have eF : R_ownF f0 = (f0.1 4 0, R_ownF0 f0 N) := by
          unfold R_ownF
          rw [if_neg h0, if_neg (by rw [e7]; decide), i32_nat hN0]
        rw [eF]
        have hng := ngr_eq (A := A) (A' := fun q i => if q = 0 ∧ i = 0 then σ.2.1 else if q = 4 ∧ i = 0 then σ.2.1 + 1 else A q i) (B := B) (fun c => by rw [if_neg (by omega), if_neg (by omega)]) 8
        refine ⟨by rw [i32_eq (x := f0.1 4 0) (n := N) hN0 (by omega)], _, _, ⟨G1, hRC, by rw [R_ownF0_o (by omega) (by omega) (by omega)]; exact hl1⟩, fun a a1 a2 => ?_, by rw [q8]; omega, by rw [hng, q8]; omega, ?_⟩
        · rw [q7 a (by omega) (by omega) (by omega), o3 a (by omega), g4 a (by omega) (by omega)]
        · have : s4.2.2 ≤ σ.2.2 + N + 64 := by rw [n3, g6] at q9; exact q9
          rw [hng]
          exact Nat.le_trans (Nat.add_le_add_right this _) (by omega)
      · conv => whnf
        refine jx_no (show ¬ ¬ (0 : Int32) = 0 from fun z => z rfl) ?_
        conv => whnf
        have e7 : 0 < f0.1 7 0 := by
          rw [Int32.lt_iff_toInt_lt, h7, show (0 : Int32).toInt = 0 by decide]
          have : np ≠ 0 := fun z => h0p (by rw [z]; rfl)
          omega
        unfold R_ownF
        rw [if_neg h0, if_pos e7]
        exact ⟨rfl, A, T, hW, kpa.rf.kr⟩
    · conv => whnf
      unfold R_ownF
      rw [if_pos (Decidable.not_not.mp h0)]
      exact ⟨rfl, A, T, hW, kpa.rf.kr⟩
  · rw [hf0]
    exact r_own (d := 29) hN hN4
  · unfold R_ownF at hl ⊢
    by_cases h0 : f0.1 4 0 = 0
    · rw [if_pos h0] at hl ⊢
      exact hI0.same hl
    · rw [if_neg h0] at hl ⊢
      by_cases h7' : 0 < f0.1 7 0
      · rw [if_pos h7'] at hl ⊢
        exact hI0.same hl
      · rw [if_neg h7', i32_nat hN0] at hl ⊢
        have hl : (R_ownF0 f0 N).1 2 0 = lsum G' 8 := hl
        obtain ⟨v4, v6, v5⟩ := R_ownF0_v (f := f0) (N := N)
        obtain ⟨n', a', hg, -⟩ := id hI0
        refine (hI0.same (G' := G') (by rw [← R_ownF0_o (f := f0) (N := N) (q := 2) (j := 0) (by omega) (by omega) (by omega)]; exact hl)).of ⟨⟨N, by rw [v6]; exact hN0, hN4⟩, fun c hc => ?_⟩ (fun q j hq => R_ownF0_o ?_ ?_ ?_) (fun q j hq => rfl)
        · rw [R_ownF0_o (by omega) (by omega) (by omega), R_ownF0_o (by omega) (by omega) (by omega)]
          exact hg.1.2 c hc
        · simp only [List.mem_cons, List.not_mem_nil, or_false] at hq; omega
        · simp only [List.mem_cons, List.not_mem_nil, or_false] at hq; omega
        · simp only [List.mem_cons, List.not_mem_nil, or_false] at hq; omega
  · rw [← hf0] at hq
    unfold R_ownF
    by_cases h0 : f0.1 4 0 = 0
    · rw [if_pos h0]; exact hq
    · rw [if_neg h0]
      by_cases h7' : 0 < f0.1 7 0
      · rw [if_pos h7']; exact hq
      · rw [if_neg h7']
        exact hq.of (fun q j hq' => R_ownF0_o (by omega) (by omega) (by omega))
end JxOwn2
