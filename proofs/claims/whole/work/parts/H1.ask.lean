/-! THE PAIR ask: the class drafts an ASK -/
/-- the octets of an ASK behind its head, out of a SESSION's rows -/
def R_sT (f : jx_F) (s N n1 n2 n3 : Nat) : List Int32 :=
  R_tx f 263 (f.1 41 (41 * s)) 41 (41 * s + 1) n1 20 ++ (R_me f N 20 ++ (R_tx f 283 (f.1 43 (41 * s)) 43 (41 * s + 1) n2 20 ++ (R_tx f 293 (f.1 42 (41 * s)) 42 (41 * s + 1) n3 20 ++ (R_nm 258 4 ++ R_nm 285 0))))
def sn (f : jx_F) (q s : Nat) : Nat := (f.1 q (41 * s)).toNatClampNeg
section JxAsk
variable {th : Nat → Nat} {B b d s n a i : Nat} {xl : List Int32} {σ σ' : jx_S} {f f' : jx_F} {A : Nat → Nat → Nat} {G : Nat → Nat → Int32} {T : Nat → Nat}
theorem tl_4 {s N : Nat} (hs : s % 4 = 0) : R_tl s N = 8 + 4 * ((N + 3) / 4) := by unfold R_tl; omega
theorem me_s {N t : Nat} (ht : t % 4 = 0) : R_me f N t = R_me f N 20 := by
  unfold R_me
  rw [tx_same (f := f) (f' := f) (q := 5) (q' := 5) (F := 0) (F' := 0) (N := N) (s := 20) (s' := t) rfl (fun _ _ => rfl) (by omega)]
theorem RelC.se (hR : RelC th B b xl σ f A G T) (hs : (s : Int) < (f.1 40 0).toInt) : rl_s1 B σ f A T s := by
  obtain ⟨m, h1, -, -, -, h2⟩ := hR.2.2.2.2.2.2.2
  exact h2 s (by omega)
theorem ro_ne {R n : Nat} {o : Nat → Int32} (h : ro_at B σ T R n o) : R ≠ B + 11 ∧ R ≠ B + 12 := by
  have := h.1.1
  omega
theorem k_draftAsk (hR : RelC th B b xl σ f A G T) (hs : (s : Int) < (f.1 40 0).toInt) : jc th (d + 3) 175 [.ref B, .ref (A 8 s)] σ (fun r σ' => r = some (.ref σ.2.1) ∧ (∃ n w, σ'.1 σ.2.1 = some (.inl (1, n, .inl w)) ∧ 20 + (R_sT f s (R_hs f) (sn f 41 s) (sn f 43 s) (sn f 42 s)).length = 4 * n ∧ n ≤ 64 ∧ w 0 = 16777216 ||| Int32.ofNat (4 * n) ∧ w 1 = 3221225730 ∧ w 2 = 4 ∧ ∀ (j : Nat) (x : Int32), (R_sT f s (R_hs f) (sn f 41 s) (sn f 43 s) (sn f 42 s))[j]? = some x → cn_pk w (20 + j) = x.toInt8) ∧ (∃ c, σ'.1 (B + 11) = some (.inr (4, [.ref (B + 12), .int c, .ref (A 4 0)]))) ∧ (∃ w, σ'.1 (B + 12) = some (.inl (1, 64, .inl w))) ∧ (∀ a, a ≠ B + 11 → a ≠ B + 12 → a ≠ σ.2.1 → σ'.1 a = σ.1 a) ∧ σ'.2.1 = σ.2.1 + 1 ∧ σ'.2.2 ≤ σ.2.2 + 64) := by
  have hB := hR.1.2.2.2.2.1
  obtain ⟨⟨cn, d11⟩, ⟨w, d12⟩, hO, no, o, hoA, hoL, hoX⟩ := hR.2.1
  have hO2 : A 4 0 ≠ B + 11 ∧ A 4 0 ≠ B + 12 := by
    rcases hO with z | z
    · omega
    · have := z.1; omega
  obtain ⟨NH, hNH, hNH4, -⟩ := hR.1.2.2.2.2.2.2.2.1
  have ehs : R_hs f = NH := i32_nat hNH
  obtain ⟨e1, e2, -, -, ⟨n1, f41, l41, r41⟩, ⟨n3, f42, l42, r42⟩, ⟨n2, f43, l43, r43⟩⟩ := hR.se hs
  have hA8 := e1.1
  have s41 : sn f 41 s = n1 := i32_nat f41
  have s42 : sn f 42 s = n3 := i32_nat f42
  have s43 : sn f 43 s = n2 := i32_nat f43
  have v41 : f.1 41 (41 * s) = Int32.ofNat n1 := i32_eq f41 (by omega)
  have v42 : f.1 42 (41 * s) = Int32.ofNat n3 := i32_eq f42 (by omega)
  have v43 : f.1 43 (41 * s) = Int32.ofNat n2 := i32_eq f43 (by omega)
  rw [s41, s42, s43, ehs]
  rw [ehs] at hoL hoX
  have X := hR.X
  obtain ⟨y41, ⟨h41, w41, z41⟩⟩ := id r41
  obtain ⟨y42, ⟨h42, w42, z42⟩⟩ := id r42
  obtain ⟨y43, ⟨h43, w43, z43⟩⟩ := id r43
  have q41 := ro_ne r41
  have q42 := ro_ne r42
  have q43 := ro_ne r43
  have lme : (R_me f NH 20).length = 8 + 4 * ((NH + 3) / 4) + 12 := by rw [R_me_len]; unfold R_ml; rw [tl_4 (by omega)]
  have lt1 : ∀ {c x : Int32} {q F N : Nat}, (R_tx f c x q F N 20).length = 8 + 4 * ((N + 3) / 4) := by intro c x q F N; rw [R_tx_len, tl_4 (by omega)]
  have lhd : (R_hd 192 258 4 0 0).length = 20 := rfl
  refine cl_go dt_175 80 [] dt_175_k rfl ?_
  intro C J hC hJ
  conv => whnf
  refine ⟨_, jx_getF_of (X) rfl, ?_⟩
  conv => whnf
  refine ⟨jx_isC_of d11, hC _ _ _ _ (((k_begin (d := d) d11 d12 (by decide)).up (by omega)).mp ?_)⟩
  rintro r t1 ⟨rfl, c1, M1⟩
  have X1 := (c1.2 B (by omega) (by omega)).trans X
  have S1 := (c1.2 (A 8 s) (by omega) (by omega)).trans e2
  obtain ⟨u1, U1⟩ := M1.c11
  conv => whnf
  refine ⟨_, jx_getF_of (X1) rfl, ?_⟩
  conv => whnf
  refine ⟨_, jx_getF_of (S1) rfl, ?_⟩
  conv => whnf
  refine ⟨_, jx_getF_of (S1) rfl, ?_⟩
  conv => whnf
  refine ⟨_, jx_al_of ((c1.2 _ q41.1 q41.2).trans w41), ?_⟩
  conv => whnf
  refine ⟨jx_isC_of U1, hC _ _ _ _ (((k_textD (d := d) (f := f) (q := 41) (F := 41 * s + 1) (t := 20) (S := 0) (N := n1) M1 q41 (by decide) ((c1.2 _ q41.1 q41.2).trans w41) (by decide) l41 (by omega) (by omega) (fun j hj => by rw [Nat.zero_add, (z41 j hj).1]) (by omega) (by rw [lhd]; omega)).up (by omega)).mp ?_)⟩
  rintro r t2 ⟨rfl, c2, M2⟩
  have c12 := c1.tr c2
  have X2 := (c12.2 B (by omega) (by omega)).trans X
  obtain ⟨u2, U2⟩ := M2.c11
  conv => whnf
  refine ⟨_, jx_getF_of (X2) rfl, ?_⟩
  conv => whnf
  refine ⟨jx_isC_of U2, hC _ _ _ _ (((k_origin (d := d) (os := R_me f NH 20) M2 hO2 ((c12.2 _ hO2.1 hO2.2).trans hoA) hoL hoX (by rw [List.length_append, lhd, lt1, lme]; omega)).up (by omega)).mp ?_)⟩
  rintro r t3 ⟨rfl, c3, M3⟩
  have c13 := c12.tr c3
  have X3 := (c13.2 B (by omega) (by omega)).trans X
  have S3 := (c13.2 (A 8 s) (by omega) (by omega)).trans e2
  obtain ⟨u3, U3⟩ := M3.c11
  conv => whnf
  refine ⟨_, jx_getF_of (X3) rfl, ?_⟩
  conv => whnf
  refine ⟨_, jx_getF_of (S3) rfl, ?_⟩
  conv => whnf
  refine ⟨_, jx_getF_of (S3) rfl, ?_⟩
  conv => whnf
  refine ⟨_, jx_al_of ((c13.2 _ q43.1 q43.2).trans w43), ?_⟩
  conv => whnf
  refine ⟨jx_isC_of U3, hC _ _ _ _ (((k_textD (d := d) (f := f) (q := 43) (F := 41 * s + 1) (t := 20) (S := 0) (N := n2) M3 q43 (by decide) ((c13.2 _ q43.1 q43.2).trans w43) (by decide) l43 (by omega) (by omega) (fun j hj => by rw [Nat.zero_add, (z43 j hj).1]) (by omega) (by rw [List.length_append, List.length_append, lhd, lt1, lme]; omega)).up (by omega)).mp ?_)⟩
  rintro r t4 ⟨rfl, c4, M4⟩
  have c14 := c13.tr c4
  have X4 := (c14.2 B (by omega) (by omega)).trans X
  have S4 := (c14.2 (A 8 s) (by omega) (by omega)).trans e2
  obtain ⟨u4, U4⟩ := M4.c11
  conv => whnf
  refine ⟨_, jx_getF_of (X4) rfl, ?_⟩
  conv => whnf
  refine ⟨_, jx_getF_of (S4) rfl, ?_⟩
  conv => whnf
  refine ⟨_, jx_getF_of (S4) rfl, ?_⟩
  conv => whnf
  refine ⟨_, jx_al_of ((c14.2 _ q42.1 q42.2).trans w42), ?_⟩
  conv => whnf
  refine ⟨jx_isC_of U4, hC _ _ _ _ (((k_textD (d := d) (f := f) (q := 42) (F := 41 * s + 1) (t := 20) (S := 0) (N := n3) M4 q42 (by decide) ((c14.2 _ q42.1 q42.2).trans w42) (by decide) l42 (by omega) (by omega) (fun j hj => by rw [Nat.zero_add, (z42 j hj).1]) (by omega) (by rw [List.length_append, List.length_append, List.length_append, lhd, lt1, lme, lt1]; omega)).up (by omega)).mp ?_)⟩
  rintro r t5 ⟨rfl, c5, M5⟩
  have c15 := c14.tr c5
  have X5 := (c15.2 B (by omega) (by omega)).trans X
  obtain ⟨u5, U5⟩ := M5.c11
  have l5 : (R_hd 192 258 4 0 0 ++ R_tx f 263 (Int32.ofNat n1) 41 (41 * s + 1) n1 20 ++ R_me f NH 20 ++ R_tx f 283 (Int32.ofNat n2) 43 (41 * s + 1) n2 20 ++ R_tx f 293 (Int32.ofNat n3) 42 (41 * s + 1) n3 20).length ≤ 224 := by
    rw [List.length_append, List.length_append, List.length_append, List.length_append, lhd, lt1, lme, lt1, lt1]
    omega
  conv => whnf
  refine ⟨_, jx_getF_of (X5) rfl, ?_⟩
  conv => whnf
  refine ⟨jx_isC_of U5, hC _ _ _ _ (((k_number (d := d) M5 (by omega)).up (by omega)).mp ?_)⟩
  rintro r t6 ⟨rfl, c6, M6⟩
  have c16 := c15.tr c6
  have X6 := (c16.2 B (by omega) (by omega)).trans X
  obtain ⟨u6, U6⟩ := M6.c11
  have lnm : ∀ x y : Int32, (R_nm x y).length = 12 := fun _ _ => rfl
  conv => whnf
  refine ⟨_, jx_getF_of (X6) rfl, ?_⟩
  conv => whnf
  refine ⟨jx_isC_of U6, hC _ _ _ _ (((k_number (d := d) M6 (by rw [List.length_append, lnm]; omega)).up (by omega)).mp ?_)⟩
  rintro r t7 ⟨rfl, c7, M7⟩
  have c17 := c16.tr c7
  have X7 := (c17.2 B (by omega) (by omega)).trans X
  obtain ⟨u7, U7⟩ := M7.c11
  have t72 : t7.2 = σ.2 := c17.1
  have ebs : R_hd 192 258 4 0 0 ++ R_tx f 263 (Int32.ofNat n1) 41 (41 * s + 1) n1 20 ++ R_me f NH 20 ++ R_tx f 283 (Int32.ofNat n2) 43 (41 * s + 1) n2 20 ++ R_tx f 293 (Int32.ofNat n3) 42 (41 * s + 1) n3 20 ++ R_nm 258 4 ++ R_nm 285 0 = R_hd 192 258 4 0 0 ++ R_sT f s NH n1 n2 n3 := by
    unfold R_sT
    rw [v41, v42, v43]
    simp only [List.append_assoc]
  have M7' : DM B t7 (A 4 0) (R_hd 192 258 4 0 0 ++ R_sT f s NH n1 n2 n3) := by rw [← ebs]; exact M7
  conv => whnf
  refine ⟨_, jx_getF_of (X7) rfl, ?_⟩
  conv => whnf
  refine ⟨jx_isC_of U7, hC _ _ _ _ ((k_copy (d := d) M7' (by rw [List.length_append, lhd]; omega) (by rw [t72]; omega)).mp ?_)⟩
  rintro r t8 ⟨rfl, ⟨n, w', g1, g2, g3, g4, g5⟩, g6, g7, g8, g9, g10⟩
  rw [t72] at g1 g8 g9 g10
  rw [List.length_append, lhd] at g2
  conv => whnf
  refine ⟨by rw [t72], ⟨n, w', g1, g2, g3, g5, dq_word g4 (by omega) (fun i hi => ?_), dq_word g4 (by omega) (fun i hi => ?_), fun j x hx => ?_⟩, g6, g7, fun a a1 a2 a3 => by rw [g8 a a1 a2 a3, c17.2 a a1 a2], g9, g10⟩
  · rw [om_app, List.getElem?_append_left (by show 4 * 1 + i < 20; omega)]
    match i, hi with
    | 0, _ => decide
    | 1, _ => decide
    | 2, _ => decide
    | 3, _ => decide
  · rw [om_app, List.getElem?_append_left (by show 4 * 2 + i < 20; omega)]
    match i, hi with
    | 0, _ => decide
    | 1, _ => decide
    | 2, _ => decide
    | 3, _ => decide
  · refine g4.2 (20 + j) _ (by omega) ?_
    rw [om_app, List.getElem?_append_right (by show 20 ≤ 20 + j; omega), show 20 + j - (om (R_hd 192 258 4 0 0)).length = j by show 20 + j - 20 = j; omega]
    unfold om
    rw [List.getElem?_map, hx]
    rfl
end JxAsk
