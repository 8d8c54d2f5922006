/-! THE CLASS: ASKS are sent, given over -/
section JxAsks
variable {th : Nat → Nat} {d B b p c i q n a : Nat} {xl : List Int32} {σ σ' : jx_S} {f f' : jx_F} {A : Nat → Nat → Nat} {G : Nat → Nat → Int32} {T : Nat → Nat} {Q : Option Value → jx_S → Prop}
theorem k_setSending {X Wd P len : Nat} {w : Nat → Int32} {v1 v2 v4 : Value} {t e h : Int32} (hA : σ.1 X = some (.inr (11, [.ref Wd, v1, v2, .int t, v4, .int e]))) (hw : σ.1 Wd = some (.inl (1, len, .inl w))) (h5 : 5 ≤ len) (h64 : len ≤ 64) : jc th (d + 1) 70 [.ref X, .ref P, .int h] σ (fun r σ' => r = none ∧ σ'.1 X = some (.inr (11, [.ref Wd, .ref P, v2, .int (t + 1), .int h, .int (if t = 0 then h else e)])) ∧ σ'.1 Wd = some (.inl (1, len, .inl (upd (upd (upd w 1 (w 1 ||| (if t = 0 then 0 else 268435456))) 3 h) 4 (if t = 0 then h else e)))) ∧ (∀ q, q ≠ X → q ≠ Wd → σ'.1 q = σ.1 q) ∧ σ'.2 = σ.2) := by
  have hne : X ≠ Wd := fun z => by rw [z, hw] at hA; simp at hA
  refine cl_go dt_70 120 [] dt_70_k rfl ?_
  intro C J hC hJ
  conv => whnf
  refine putK hA rfl (fit_o _ rfl) (fun s1 p1 o1 n1 => ?_)
  conv => whnf
  refine putK p1 rfl (fit_i _) (fun s2 p2 o2 n2 => ?_)
  conv => whnf
  refine ⟨_, jx_getF_of (p2) rfl, ?_⟩
  conv => whnf
  have hl5 : ¬ Int32.ofNat len < 5 := by rw [Int32.lt_iff_toInt_lt, i32_ofNat (by omega)]; have : (5 : Int32).toInt = 5 := by decide
                                         omega
  by_cases h0 : t = 0
  · rw [if_pos h0, if_pos h0]
    refine jx_no (show ¬ ¬ t = 0 from fun z => z h0) ?_
    conv => whnf
    refine putK p2 rfl (fit_i _) (fun s3 p3 o3 n3 => ?_)
    conv => whnf
    have w3 : s3.1 Wd = _ := (o3 Wd (Ne.symm hne)).trans ((o2 Wd (Ne.symm hne)).trans ((o1 Wd (Ne.symm hne)).trans hw))
    refine ⟨_, jx_getF_of (p3) rfl, ?_⟩
    conv => whnf
    refine ⟨_, jx_al_of (w3), ?_⟩
    conv => whnf
    refine jx_no (hl5) ?_
    conv => whnf
    refine ⟨_, jx_getF_of (p3) rfl, ?_⟩
    conv => whnf
    refine ⟨_, jx_ild_of w3 (by decide) (show (1 : Int32).toInt = ((1 : Nat) : Int) by decide) (by omega), ?_⟩
    conv => whnf
    refine ⟨_, jx_getF_of (p3) rfl, ?_⟩
    conv => whnf
    refine jx_no (show ¬ ¬ t = 0 from fun z => z h0) ?_
    conv => whnf
    refine istK w3 (k := 1) (by decide) (by omega) (fun s4 p4 o4 n4 => ?_)
    conv => whnf
    have x4 := (o4 X hne).trans p3
    refine ⟨_, jx_getF_of (x4) rfl, ?_⟩
    conv => whnf
    refine ⟨_, jx_getF_of (x4) rfl, ?_⟩
    conv => whnf
    refine istK p4 (k := 3) (by decide) (by omega) (fun s5 p5 o5 n5 => ?_)
    conv => whnf
    have x5 := (o5 X hne).trans x4
    refine ⟨_, jx_getF_of (x5) rfl, ?_⟩
    conv => whnf
    refine ⟨_, jx_getF_of (x5) rfl, ?_⟩
    conv => whnf
    refine istK p5 (k := 4) (by decide) (by omega) (fun s6 p6 o6 n6 => ?_)
    conv => whnf
    have x6 := (o6 X hne).trans x5
    refine ⟨_, jx_getF_of (x6) rfl, ?_⟩
    conv => whnf
    refine putK x6 rfl (fit_i _) (fun s7 p7 o7 n7 => ?_)
    conv => whnf
    exact ⟨rfl, p7, (o7 Wd (Ne.symm hne)).trans p6, fun q h1 h2 => by rw [o7 q h1, o6 q h2, o5 q h2, o4 q h2, o3 q h1, o2 q h1, o1 q h1], by rw [n7, n6, n5, n4, n3, n2, n1]⟩
  · rw [if_neg h0, if_neg h0]
    refine jx_yes (show ¬ t = 0 from h0) ?_
    conv => whnf
    refine ⟨_, jx_getF_of (p2) rfl, ?_⟩
    conv => whnf
    refine putK p2 rfl (fit_i _) (fun s3 p3 o3 n3 => ?_)
    conv => whnf
    have w3 : s3.1 Wd = _ := (o3 Wd (Ne.symm hne)).trans ((o2 Wd (Ne.symm hne)).trans ((o1 Wd (Ne.symm hne)).trans hw))
    refine ⟨_, jx_getF_of (p3) rfl, ?_⟩
    conv => whnf
    refine ⟨_, jx_al_of (w3), ?_⟩
    conv => whnf
    refine jx_no (hl5) ?_
    conv => whnf
    refine ⟨_, jx_getF_of (p3) rfl, ?_⟩
    conv => whnf
    refine ⟨_, jx_ild_of w3 (by decide) (show (1 : Int32).toInt = ((1 : Nat) : Int) by decide) (by omega), ?_⟩
    conv => whnf
    refine ⟨_, jx_getF_of (p3) rfl, ?_⟩
    conv => whnf
    refine jx_yes (show ¬ t = 0 from h0) ?_
    conv => whnf
    refine istK w3 (k := 1) (by decide) (by omega) (fun s4 p4 o4 n4 => ?_)
    conv => whnf
    have x4 := (o4 X hne).trans p3
    refine ⟨_, jx_getF_of (x4) rfl, ?_⟩
    conv => whnf
    refine ⟨_, jx_getF_of (x4) rfl, ?_⟩
    conv => whnf
    refine istK p4 (k := 3) (by decide) (by omega) (fun s5 p5 o5 n5 => ?_)
    conv => whnf
    have x5 := (o5 X hne).trans x4
    refine ⟨_, jx_getF_of (x5) rfl, ?_⟩
    conv => whnf
    refine ⟨_, jx_getF_of (x5) rfl, ?_⟩
    conv => whnf
    refine istK p5 (k := 4) (by decide) (by omega) (fun s6 p6 o6 n6 => ?_)
    conv => whnf
    have x6 := (o6 X hne).trans x5
    refine ⟨_, jx_getF_of (x6) rfl, ?_⟩
    conv => whnf
    refine putK x6 rfl (fit_i _) (fun s7 p7 o7 n7 => ?_)
    conv => whnf
    exact ⟨rfl, p7, (o7 Wd (Ne.symm hne)).trans p6, fun q h1 h2 => by rw [o7 q h1, o6 q h2, o5 q h2, o4 q h2, o3 q h1, o2 q h1, o1 q h1], by rw [n7, n6, n5, n4, n3, n2, n1]⟩
theorem RelC.qe (hR : RelC th B b xl σ f A G T) (hi : (i : Int) < (f.1 49 0).toInt) : rl_q1 B σ f A T i := by
  obtain ⟨n, h1, -, -, h2⟩ := hR.2.2.2.2.1
  exact h2 i (by omega)
theorem R_askT_le (hq : R_qok f i) (hs : R_hs f ≤ 40) : (R_askT f i (R_hs f) (R_qn f 50 i) (R_qn f 52 i) (R_qn f 51 i)).length ≤ 236 := by
  have hk : ∀ k, k = 50 ∨ k = 51 ∨ k = 52 → R_qn f k i ≤ 40 := by
    intro k hk
    obtain ⟨x, h1, h2⟩ := hq k hk
    unfold R_qn
    rw [i32_nat h1]
    exact h2
  have h50 := hk 50 (by omega)
  have h51 := hk 51 (by omega)
  have h52 := hk 52 (by omega)
  have t4 : ∀ s N, s % 4 = 0 → N ≤ 40 → R_tl s N ≤ 48 ∧ (s + R_tl s N) % 4 = 0 := by
    intro s N h1 h2
    unfold R_tl
    omega
  unfold R_askT
  simp only [List.length_append, R_tx_len, R_me_len]
  show _ + (_ + (_ + (_ + (12 + 12)))) ≤ 236
  obtain ⟨u1, u2⟩ := t4 20 (R_qn f 50 i) (by omega) h50
  have u3 := R_ml_4 (N := R_hs f) u2
  have u4 : R_ml (R_hs f) (20 + R_tl 20 (R_qn f 50 i)) ≤ 60 := by
    have := (t4 _ (R_hs f) u2 hs).1
    unfold R_ml
    omega
  obtain ⟨u5, u6⟩ := t4 _ (R_qn f 52 i) u3 h52
  obtain ⟨u7, -⟩ := t4 _ (R_qn f 51 i) u6 h51
  omega
theorem k_sendAsk (hW : RW th B b xl σ f A T) (hi : (i : Int) < (f.1 49 0).toInt) (hq : (q : Int) < (f.1 7 0).toInt) (hc : c < 8) (hln : (lnf f q).toInt = ((c + 1 : Nat) : Int)) (hcn : R_conn f q = lnf f q) (h26 : ¬ f.1 26 (c + 1) = 0) {t : Nat} (ht : (f.1 55 i).toInt = (t : Int)) (ht2 : t < 2147483640) : jc th (d + 3) 69 [.ref B, .ref (A 11 i), .ref (A 6 q)] σ (fun r σ' => r = none ∧ RW th B b xl σ' (R_sendAsk f i q) A T ∧ kp B σ σ') := by
  obtain ⟨G, hR, hls⟩ := hW
  have hX := hR.X
  refine cl_go dt_69 80 [] dt_69_k rfl ?_
  intro C J hC hJ
  conv => whnf
  refine ⟨_, jx_getF_of (hX) rfl, ?_⟩
  conv => whnf
  refine putK hX rfl (fit_i _) (fun s1 p1 o1 n1 => ?_)
  conv => whnf
  obtain ⟨hR1, hk1⟩ := hR.hop p1 o1 n1
  obtain ⟨f1, hf1⟩ : ∃ f1, f1 = rf_ui f 34 0 (f.1 34 0 + 1) := ⟨_, rfl⟩
  rw [← hf1] at hR1
  have of1 : ∀ q j, q ≠ 34 → f1.1 q j = f.1 q j := fun q j h => by rw [hf1]; exact rf_ui_ne (fun e => h e.1)
  have l1 : f1.2 = f.2 := by rw [hf1]; rfl
  obtain ⟨y1, y2, y3, y4, n0, w, y5, y6, y7, y8, y9, y10⟩ := hR1.qe (i := i) (by rw [of1 49 0 (by omega)]; exact hi)
  have hq4 := hR.p4 hq
  have hT : (R_askT f1 i (R_hs f1) (R_qn f1 50 i) (R_qn f1 52 i) (R_qn f1 51 i)).length ≤ 236 := R_askT_le y4 hR1.hs
  have eT : R_askT f1 i (R_hs f1) (R_qn f1 50 i) (R_qn f1 52 i) (R_qn f1 51 i) = R_askT f i (R_hs f) (R_qn f 50 i) (R_qn f 52 i) (R_qn f 51 i) := by
    unfold R_hs R_qn
    rw [of1 6 0 (by omega), of1 50 _ (by omega), of1 51 _ (by omega), of1 52 _ (by omega)]
    exact R_askT_eq (fun k j hk => of1 k j (by simp only [List.mem_cons, List.not_mem_nil, or_false] at hk; omega))
  unfold cq_e at y3
  refine ⟨jx_isC_of y3, hC _ _ _ _ (((k_setSending (d := d) (P := A 6 q) (h := f.1 34 0 - 1 + 1) y3 y5 (by omega) (by omega)).up (by omega)).mp ?_)⟩
  rintro r s2 ⟨rfl, z1, z2, z3, z4⟩
  rw [Int32.sub_add_cancel, of1 55 i (by omega), of1 57 i (by omega)] at z1 z2
  rw [of1 55 i (by omega)] at y8
  obtain ⟨g, hg⟩ : ∃ g, g = rf_ui (R_askP f i q) 55 i (f.1 55 i + 1) := ⟨_, rfl⟩
  have eg : R_askP f i q = rf_ui (rf_ui (rf_ui (rf_ui f1 56 i (f.1 34 0)) 57 i (if f.1 55 i = 0 then f.1 34 0 else f.1 57 i)) 54 i (Int32.ofNat q)) 58 i (R_conn f q) := by rw [hf1]; rfl
  have og : ∀ k j, ¬ (54 ≤ k ∧ k ≤ 58 ∧ j = i) → g.1 k j = f1.1 k j := fun k j h => by rw [hg, rf_ui_ne (by omega), eg, rf_ui_ne (by omega), rf_ui_ne (by omega), rf_ui_ne (by omega), rf_ui_ne (by omega)]
  have gl : g.2 = f.2 := by rw [hg, ← l1, eg]; rfl
  have g54 : g.1 54 i = Int32.ofNat q := by rw [hg, rf_ui_ne (by omega), eg, rf_ui_ne (by omega), rf_ui_eq]
  have g55 : g.1 55 i = f.1 55 i + 1 := by rw [hg]; exact rf_ui_eq
  have g56 : g.1 56 i = f.1 34 0 := by rw [hg, rf_ui_ne (by omega), eg, rf_ui_ne (by omega), rf_ui_ne (by omega), rf_ui_ne (by omega), rf_ui_eq]
  have g57 : g.1 57 i = if f.1 55 i = 0 then f.1 34 0 else f.1 57 i := by rw [hg, rf_ui_ne (by omega), eg, rf_ui_ne (by omega), rf_ui_ne (by omega), rf_ui_eq]
  have t1 : (f.1 55 i + 1).toInt = ((t + 1 : Nat) : Int) := by rw [i32_add (c := 1) ht (by decide) (by omega) (by omega)]; omega
  have t10 : ¬ f.1 55 i + 1 = 0 := fun z => by
    rw [z] at t1
    have : (0 : Int32).toInt = 0 := by decide
    omega
  have t11 : (f.1 55 i + 1 = 0 ∨ f.1 55 i + 1 = 1) ↔ f.1 55 i = 0 := by
    constructor
    · rintro (z | z)
      · exact absurd z t10
      · rw [z] at t1
        have : (1 : Int32).toInt = 1 := by decide
        exact (i32_z ht).mpr (by omega)
    · intro z
      exact Or.inr (by rw [z]; decide)
  have eTg : R_askT g i (R_hs g) (R_qn g 50 i) (R_qn g 52 i) (R_qn g 51 i) = R_askT f i (R_hs f) (R_qn f 50 i) (R_qn f 52 i) (R_qn f 51 i) := by
    rw [← eT]
    unfold R_hs R_qn
    rw [og 6 0 (by omega), og 50 _ (by omega), og 51 _ (by omega), og 52 _ (by omega)]
    exact R_askT_eq (fun k j hk => og k j (by simp only [List.mem_cons, List.not_mem_nil, or_false] at hk; omega))
  obtain ⟨w', hw'⟩ : ∃ w', w' = upd (upd (upd w 1 (w 1 ||| (if f.1 55 i = 0 then 0 else 268435456))) 3 (f.1 34 0)) 4 (if f.1 55 i = 0 then f.1 34 0 else f.1 57 i) := ⟨_, rfl⟩
  rw [← hw'] at z2
  have w0 : w' 0 = w 0 := by rw [hw', upd_ne (by omega), upd_ne (by omega), upd_ne (by omega)]
  have w1 : w' 1 = if f.1 55 i = 0 then 3221225730 else 3489661186 := by
    rw [hw', upd_ne (by omega), upd_ne (by omega), upd_eq, y8]
    by_cases h0 : f.1 55 i = 0
    · rw [if_pos (Or.inl h0), if_pos h0, if_pos h0]; decide
    · rw [if_neg h0, if_neg h0]
      split <;> decide
  have w2 : w' 2 = 4 := by rw [hw', upd_ne (by omega), upd_ne (by omega), upd_ne (by omega)]; exact y9
  have w3 : w' 3 = f.1 34 0 := by rw [hw', upd_ne (by omega), upd_eq]
  have w4 : w' 4 = if f.1 55 i = 0 then f.1 34 0 else f.1 57 i := by rw [hw', upd_eq]
  have w5 : ∀ j, 5 ≤ j → w' j = w j := fun j hj => by rw [hw', upd_ne (by omega), upd_ne (by omega), upd_ne (by omega)]
  have hR2 : RelC th B b xl s2 g A G T := by
    refine hR1.ask (i := i) (by rw [of1 49 0 (by omega)]; exact hi) z3 z4 (fun k j hk _ _ _ => og k j hk) (fun k j _ _ _ => by rw [gl, l1]) ⟨⟨y1.1, by rw [z4]; exact y1.2.1, y1.2.2⟩, ⟨y2.1, by rw [z4]; exact y2.2.1, y2.2.2⟩, ?_, fun k hk => ?_, n0, w', z2, by rw [eTg, ← eT]; exact y6, by rw [w0]; exact y7, ?_, w2, fun j x hx => ?_⟩
    · rw [z1]
      unfold cq_e
      rw [g55, if_neg t10, g54, g56, g57, gl, l1, i32_nat (i32_ofNat (n := q) (by omega))]
    · obtain ⟨x, h1, h2⟩ := y4 k hk
      exact ⟨x, by rw [og k _ (by omega)]; exact h1, h2⟩
    · rw [w1, g55]
      by_cases h0 : f.1 55 i = 0
      · rw [if_pos h0, if_pos (t11.mpr h0)]
      · rw [if_neg h0, if_neg (fun z => h0 (t11.mp z))]
    · rw [eTg, ← eT] at hx
      rw [cn_pk_eq (w := w) (w5 _ (by omega))]
      exact y10 j x hx
  have hk2 : kp B s1 s2 := ⟨z4, fun a h1 h2 => z3 a (by have := y1.1; omega) (by have := y2.1; omega)⟩
  have b2 := (hR2.pe (p := q) (by rw [og 7 0 (by omega), of1 7 0 (by omega)]; exact hq)).2.1
  have eln : va_rf ((cc_ref B (g.1 13 q)).or (cc_ref B (g.1 14 q))) = .ref (B + 14 + 3 * c) := ln_ref (by unfold lnf; rw [og 13 q (by omega), og 14 q (by omega), of1 13 q (by omega), of1 14 q (by omega)]; exact hln)
  conv => whnf
  refine ⟨jx_isC_of b2, hC _ _ _ _ (((k_line (d := d) b2).up (by omega)).mp ?_)⟩
  rintro r s3 ⟨rfl, hs3⟩
  rw [hs3, eln]
  conv => whnf
  refine ⟨_, jx_getF_of (z1) rfl, ?_⟩
  conv => whnf
  refine ⟨_, jx_getF_of (z1) rfl, ?_⟩
  conv => whnf
  refine ⟨_, jx_al_of (z2), ?_⟩
  conv => whnf
  have hce := (hR2.2.2.1 c hc).1
  have hls2 : g.1 2 0 = lsum G 8 := by rw [og 2 0 (by omega), of1 2 0 (by omega)]; exact hls
  have hd : dq w' n0 (om (R_askH f i ++ R_askT f i (R_hs f) (R_qn f 50 i) (R_qn f 52 i) (R_qn f 51 i))) := by
    have h5 : dq w' 5 (om (R_askH f i)) := by
      unfold R_askH
      refine hd_dq ?_ w2 w3 w4
      rw [w1]
      by_cases h0 : f.1 55 i = 0
      · rw [if_pos h0, if_pos h0]; decide +kernel
      · rw [if_neg h0, if_neg h0]; decide +kernel
    rw [om_app, ← eT, show n0 = 5 + (n0 - 5) by omega]
    refine h5.app (by unfold om; rw [List.length_map]; omega) (fun j x hx => ?_)
    unfold om at hx
    rw [List.getElem?_map] at hx
    obtain ⟨v, hv1, hv2⟩ := Option.map_eq_some_iff.mp hx
    rw [← hv2, ← y10 j v hv1, cn_pk_eq (w := w) (w5 _ (by omega))]
  have hbl : (R_askH f i ++ R_askT f i (R_hs f) (R_qn f 50 i) (R_qn f 52 i) (R_qn f 51 i)).length = 4 * n0 := by have := hd.1; unfold om at this; rw [List.length_map] at this; exact this
  refine ⟨jx_isC_of hce, hC _ _ _ _ (((k_sendR (d := d) (cv := R_conn f q) (n := n0) ⟨G, hR2, hls2⟩ hc (by rw [hcn]; exact hln) (by rw [og 26 _ (by omega), of1 26 _ (by omega)]; exact h26) z2 (Nat.le_refl _) (by omega) (i32_ofNat (by omega)) hbl (fo_w (by omega) hd rfl (by rw [w0]; exact y7))).up (by omega)).mp ?_)⟩
  rintro r s4 ⟨rfl, hW4, hk4⟩
  conv => whnf
  refine ⟨rfl, ?_, (hk1.tr hk2).tr hk4⟩
  have e : R_sendAsk f i q = R_msg g (R_askH f i ++ R_askT f i (R_hs f) (R_qn f 50 i) (R_qn f 52 i) (R_qn f 51 i)) (R_conn f q) := by
    unfold R_sendAsk R_inc
    rw [R_msg_o (by omega) (by omega) (by omega) (by omega) (by omega), ← R_msg_comm (by omega) (by omega) (by omega) (by omega) (by omega) (by omega), hg, show (R_askP f i q).1 55 i = f.1 55 i by rw [eg, rf_ui_ne (by omega), rf_ui_ne (by omega), rf_ui_ne (by omega), rf_ui_ne (by omega), of1 55 i (by omega)]]
  rw [e]
  exact hW4
theorem k_lu_l (hR : RelC th B b xl σ f A G T) (hn : (f.1 7 0).toInt = (n : Int)) (hn4 : n ≤ 4) : ∀ (r k : Nat) (iv : Int32), iv.toInt = (k : Int) → k + r = n → (R_lu f r k ≠ 4 → Q (some (.ref (A 6 (R_lu f r k)))) σ) → (R_lu f r k = 4 → Q (some .null) σ) → cl_fj th (d + 3) 67 2 [(0, .ref B), (1, .int iv)] [] σ Q
  | 0, k, iv, hv, hk, h1, h2 => by
    obtain ⟨n', m1, m2, hal, -⟩ := hR.2.2.2.1
    have en : n = n' := by omega
    subst en
    obtain ⟨⟨mc, hl⟩, -⟩ := hal
    rw [List.length_map, List.length_range] at hl
    refine cl_at dt_67 60 [] dt_67_k ?_
    intro C J hC hJ
    conv => whnf
    refine ⟨_, jx_getF_of (hR.X) rfl, ?_⟩
    conv => whnf
    refine ⟨jx_isC_of hl, hC _ _ _ _ (((k_size (d := d) hl).up (by omega)).mp ?_)⟩
    rintro r σ1 ⟨rfl, hs1⟩
    rw [hs1]
    conv => whnf
    refine jx_yes (show Int32.ofNat n ≤ iv by rw [Int32.le_iff_toInt_le, hv, i32_ofNat (by omega)]; omega) ?_
    conv => whnf
    exact h2 rfl
  | r + 1, k, iv, hv, hk, h1, h2 => by
    obtain ⟨n', m1, m2, hal, hpe⟩ := id hR.2.2.2.1
    have en : n = n' := by omega
    subst en
    have hal0 := hal
    obtain ⟨⟨mc, hl⟩, -⟩ := hal
    rw [List.length_map, List.length_range] at hl
    have a2 := (hpe k (by omega)).2.1
    refine cl_at dt_67 60 [(2, [0, 1])] dt_67_k ?_
    intro C J hC hJ
    conv => whnf
    refine ⟨_, jx_getF_of (hR.X) rfl, ?_⟩
    conv => whnf
    refine ⟨jx_isC_of hl, hC _ _ _ _ (((k_size (d := d) hl).up (by omega)).mp ?_)⟩
    rintro r' σ1 ⟨rfl, hs1⟩
    rw [hs1]
    conv => whnf
    refine jx_no (show ¬ Int32.ofNat n ≤ iv by rw [Int32.le_iff_toInt_le, hv, i32_ofNat (by omega)]; omega) ?_
    conv => whnf
    refine ⟨_, jx_getF_of (hR.X) rfl, ?_⟩
    conv => whnf
    refine ⟨jx_isC_of hl, hC _ _ _ _ ((k_get (d := d) hal0 hv (by simp [show k < n by omega] : ((List.range n).map (A 6))[k]? = some (A 6 k))).mp ?_)⟩
    rintro r' σ2 ⟨rfl, hs2⟩
    rw [hs2]
    conv => whnf
    refine ⟨jx_cast_of a2 (by decide +kernel), ?_⟩
    conv => whnf
    refine ⟨jx_isC_of a2, hC _ _ _ _ (((k_isUsable (d := d) hR (p := k) (by omega)).up (by omega)).mp ?_)⟩
    rintro r' σ3 ⟨hcs, hs3⟩
    rw [hs3]
    rcases hcs with ⟨rfl, hu⟩ | ⟨rfl, hu⟩
    · have e : R_lu f (r + 1) k = k := if_pos hu
      rw [e] at h1
      conv => whnf
      refine jx_no (show ¬ (1 : Int32) = 0 by decide) ?_
      conv => whnf
      refine ⟨_, jx_getF_of (hR.X) rfl, ?_⟩
      conv => whnf
      refine ⟨jx_isC_of hl, hC _ _ _ _ ((k_get (d := d) hal0 hv (by simp [show k < n by omega] : ((List.range n).map (A 6))[k]? = some (A 6 k))).mp ?_)⟩
      rintro r' σ4 ⟨rfl, hs4⟩
      rw [hs4]
      conv => whnf
      refine ⟨jx_cast_of a2 (by decide +kernel), ?_⟩
      conv => whnf
      exact h1 (by omega)
    · have e : R_lu f (r + 1) k = R_lu f r (k + 1) := if_neg hu
      rw [e] at h1 h2
      conv => whnf
      refine jx_yes (show (0 : Int32) = 0 from rfl) ?_
      conv => whnf
      refine hJ _ _ _ _ (k_lu_l hR hn hn4 r (k + 1) _ ?_ (by omega) h1 h2)
      rw [i32_add (c := 1) hv (by decide) (by omega) (by omega)]; omega
theorem k_leastUsable (hR : RelC th B b xl σ f A G T) (hn : (f.1 7 0).toInt = (n : Int)) (hn4 : n ≤ 4) : jc th (d + 4) 67 [.ref B] σ (fun r σ' => ((R_lu f n 0 ≠ 4 ∧ r = some (.ref (A 6 (R_lu f n 0)))) ∨ (R_lu f n 0 = 4 ∧ r = some .null)) ∧ σ' = σ) := by
  refine cl_go dt_67 20 [(2, [0, 1])] dt_67_k rfl ?_
  intro C J hC hJ
  conv => whnf
  exact hJ _ _ _ _ (k_lu_l hR hn hn4 n 0 0 (by decide) (by omega) (fun h => ⟨Or.inl ⟨h, rfl⟩, rfl⟩) (fun h => ⟨Or.inr ⟨h, rfl⟩, rfl⟩))
end JxAsks
