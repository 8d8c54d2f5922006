/-! THE PAIR ask, together -/
section JxAsk3
variable {th : Nat → Nat} {B b m d k s n a i p : Nat} {xl : List Int32} {σ σ' σ0 : jx_S} {f f' F : jx_F} {A A' : Nat → Nat → Nat} {G G' : Nat → Nat → Int32} {T T' : Nat → Nat}
/-- the invariant, put together -/
theorem PI.pack (hS : PS F n a) (hz : ∀ p, n ≤ p → p < 4 → ∀ q, q ∈ [11, 13, 14, 15, 16, 18, 19, 20, 21, 22, 23, 24, 25] → F.1 q p = 0) (hq0 : ∀ i, a ≤ i → i < 64 → F.1 55 i = 0 ∧ F.2 53 i = 0) (hl : F.1 2 0 = lsum G 8) (hc : ∃ t : Nat, (F.1 1 0).toInt = (t : Int) ∧ t ≤ 2000 * k) (hh : ∃ h : Nat, (F.1 34 0).toInt = (h : Int) ∧ 1 ≤ h ∧ h ≤ 1 + 2000000 * k) (hx : ∃ x : Nat, (F.1 35 0).toInt = (x : Int) ∧ ∀ i, x ≤ i → i < 16 → F.2 38 i = 0 ∧ F.2 39 i = 0) (hk : ∀ i : Nat, (i : Int) < (F.1 59 0).toInt → PJ_k F i) (hm : PJ_m F) : PI F G k := by
  obtain ⟨s1, s2, s3, s4, s5, s6, s7⟩ := hS
  exact ⟨n, a, s1, s2, s3, hz, s4, hq0, hl, hc, hh, hx, s5, s6, s7, hk, hm⟩
theorem sendAsk_z {x y : Int32} (h : f.1 55 i = 0) : R_sendAsk (rf_ui (rf_ui f 56 i x) 57 i y) i p = R_sendAsk f i p := by
  obtain ⟨g, hg⟩ : ∃ g, g = rf_ui (rf_ui f 56 i x) 57 i y := ⟨_, rfl⟩
  have o : ∀ q j, q ≠ 56 → q ≠ 57 → g.1 q j = f.1 q j := fun q j z1 z2 => by rw [hg, rf_ui_ne (by omega), rf_ui_ne (by omega)]
  have ec : R_conn g p = R_conn f p := R_conn_eq (o 11 p (by omega) (by omega)) (o 13 p (by omega) (by omega)) (o 14 p (by omega) (by omega))
  have eP : R_askP g i p = R_askP f i p := by
    unfold R_askP
    rw [ec, o 34 0 (by omega) (by omega), o 55 i (by omega) (by omega), if_pos h, if_pos h]
    refine Prod.ext (funext fun q => funext fun j => ?_) (by rw [hg]; rfl)
    by_cases e58 : q = 58 ∧ j = i
    · rw [e58.1, e58.2, rf_ui_eq, rf_ui_eq]
    rw [rf_ui_ne e58, rf_ui_ne e58]
    by_cases e54 : q = 54 ∧ j = i
    · rw [e54.1, e54.2, rf_ui_eq, rf_ui_eq]
    rw [rf_ui_ne e54, rf_ui_ne e54]
    by_cases e57 : q = 57 ∧ j = i
    · rw [e57.1, e57.2, rf_ui_eq, rf_ui_eq]
    rw [rf_ui_ne e57, rf_ui_ne e57]
    by_cases e56 : q = 56 ∧ j = i
    · rw [e56.1, e56.2, rf_ui_eq, rf_ui_eq]
    rw [rf_ui_ne e56, rf_ui_ne e56]
    by_cases e34 : q = 34 ∧ j = 0
    · rw [e34.1, e34.2, rf_ui_eq, rf_ui_eq]
    rw [rf_ui_ne e34, rf_ui_ne e34, hg, rf_ui_ne e57, rf_ui_ne e56]
  have eH : R_askH g i = R_askH f i := by
    unfold R_askH
    rw [o 34 0 (by omega) (by omega), o 55 i (by omega) (by omega), if_pos h, if_pos h, if_pos h]
  have eq : ∀ q, q = 50 ∨ q = 51 ∨ q = 52 → R_qn g q i = R_qn f q i := fun q hq => by unfold R_qn; rw [o q _ (by omega) (by omega)]
  rw [← hg]
  unfold R_sendAsk
  rw [eP, eH, ec, eq 50 (by omega), eq 51 (by omega), eq 52 (by omega), show R_hs g = R_hs f by unfold R_hs; rw [o 6 0 (by omega) (by omega)], R_askT_eq (fun q j hq => o q j (by simp only [List.mem_cons, List.not_mem_nil, or_false] at hq; omega) (by simp only [List.mem_cons, List.not_mem_nil, or_false] at hq; omega))]
theorem k_askInit {X Wd : Nat} {u0 u1 u2 u3 u4 u5 : Value} (hX : σ.1 X = some (.inr (11, [u0, u1, u2, u3, u4, u5]))) : jc th (d + 1) 176 [.ref X, .ref Wd] σ (fun r σ' => r = none ∧ σ'.1 X = some (.inr (11, [.ref Wd, u1, u2, u3, u4, u5])) ∧ (∀ a, a ≠ X → σ'.1 a = σ.1 a) ∧ σ'.2 = σ.2) := by
  refine cl_go dt_176 60 [] dt_176_k rfl ?_
  intro C J hC hJ
  conv => whnf
  refine putK hX rfl (fit_a _ rfl) (fun s1 p1 o1 n1 => ?_)
  conv => whnf
  exact ⟨rfl, p1, o1, n1⟩
/-- the rows of an ASK are those of its SESSION -/
theorem ask0_rows (hR : RelC th B b xl σ f A G T) (hs : (s : Int) < (f.1 40 0).toInt) : R_qok (R_ask0 f s a) a ∧ R_askT (R_ask0 f s a) a (R_hs (R_ask0 f s a)) (R_qn (R_ask0 f s a) 50 a) (R_qn (R_ask0 f s a) 52 a) (R_qn (R_ask0 f s a) 51 a) = R_sT f s (R_hs f) (sn f 41 s) (sn f 43 s) (sn f 42 s) := by
  obtain ⟨-, -, -, -, ⟨n1, f41, l41, -, h41, -, z41⟩, ⟨n3, f42, l42, -, h42, -, z42⟩, ⟨n2, f43, l43, -, h43, -, z43⟩⟩ := hR.se hs
  obtain ⟨-, v⟩ := ask0_v (f := f) (s := s) (a := a)
  have nz : ∀ (x : Int32) (y : Nat), x.toInt = (y : Int) → y ≤ 40 → vp_nar .byte x = x := fun x y hx hy => by
    have key : ∀ y, y < 41 → vp_nar .byte (Int32.ofNat y) = Int32.ofNat y := by decide +kernel
    rw [i32_eq hx (by omega)]
    exact key y (by omega)
  have w50 : (R_ask0 f s a).1 50 (41 * a) = f.1 41 (41 * s) := by have := (v 0 (by omega)).1; rw [Nat.add_zero, Nat.add_zero] at this; rw [this]; exact nz _ _ f41 l41
  have w51 : (R_ask0 f s a).1 51 (41 * a) = f.1 42 (41 * s) := by have := (v 0 (by omega)).2.1; rw [Nat.add_zero, Nat.add_zero] at this; rw [this]; exact nz _ _ f42 l42
  have w52 : (R_ask0 f s a).1 52 (41 * a) = f.1 43 (41 * s) := by have := (v 0 (by omega)).2.2; rw [Nat.add_zero, Nat.add_zero] at this; rw [this]; exact nz _ _ f43 l43
  have e6 : (R_ask0 f s a).1 6 0 = f.1 6 0 := ask0_o (by omega) (by omega)
  have e5 : ∀ j, (R_ask0 f s a).1 5 j = f.1 5 j := fun j => ask0_o (by omega) (by omega)
  have s41 : sn f 41 s = n1 := i32_nat f41
  have s42 : sn f 42 s = n3 := i32_nat f42
  have s43 : sn f 43 s = n2 := i32_nat f43
  have q50 : R_qn (R_ask0 f s a) 50 a = n1 := by unfold R_qn; rw [w50]; exact i32_nat f41
  have q51 : R_qn (R_ask0 f s a) 51 a = n3 := by unfold R_qn; rw [w51]; exact i32_nat f42
  have q52 : R_qn (R_ask0 f s a) 52 a = n2 := by unfold R_qn; rw [w52]; exact i32_nat f43
  refine ⟨fun q hq => ?_, ?_⟩
  · rcases hq with rfl | rfl | rfl
    · exact ⟨n1, by rw [w50]; exact f41, l41⟩
    · exact ⟨n3, by rw [w51]; exact f42, l42⟩
    · exact ⟨n2, by rw [w52]; exact f43, l43⟩
  · rw [q50, q51, q52, s41, s42, s43, show R_hs (R_ask0 f s a) = R_hs f by unfold R_hs; rw [e6]]
    have t1 : (20 + R_tl 20 n1) % 4 = 0 := by rw [tl_4 (by omega)]; omega
    have t2 : (20 + R_tl 20 n1 + R_ml (R_hs f) (20 + R_tl 20 n1)) % 4 = 0 := by unfold R_ml; rw [tl_4 t1]; omega
    have t3 : (20 + R_tl 20 n1 + R_ml (R_hs f) (20 + R_tl 20 n1) + R_tl (20 + R_tl 20 n1 + R_ml (R_hs f) (20 + R_tl 20 n1)) n2) % 4 = 0 := by rw [tl_4 t2]; omega
    have r41 : ∀ j, j < n1 → (R_ask0 f s a).1 50 (41 * a + 1 + j) = f.1 41 (41 * s + 1 + j) := fun j hj => by
      have := (v (j + 1) (by omega)).1
      rw [show 41 * a + (j + 1) = 41 * a + 1 + j by omega, show 41 * s + (j + 1) = 41 * s + 1 + j by omega] at this
      have e : h41 j = f.1 41 (41 * s + 1 + j) := (z41 j hj).1
      rw [this, ← e]
      exact (z41 j hj).2
    have r43 : ∀ j, j < n2 → (R_ask0 f s a).1 52 (41 * a + 1 + j) = f.1 43 (41 * s + 1 + j) := fun j hj => by
      have := (v (j + 1) (by omega)).2.2
      rw [show 41 * a + (j + 1) = 41 * a + 1 + j by omega, show 41 * s + (j + 1) = 41 * s + 1 + j by omega] at this
      have e : h43 j = f.1 43 (41 * s + 1 + j) := (z43 j hj).1
      rw [this, ← e]
      exact (z43 j hj).2
    have r42 : ∀ j, j < n3 → (R_ask0 f s a).1 51 (41 * a + 1 + j) = f.1 42 (41 * s + 1 + j) := fun j hj => by
      have := (v (j + 1) (by omega)).2.1
      rw [show 41 * a + (j + 1) = 41 * a + 1 + j by omega, show 41 * s + (j + 1) = 41 * s + 1 + j by omega] at this
      have e : h42 j = f.1 42 (41 * s + 1 + j) := (z42 j hj).1
      rw [this, ← e]
      exact (z42 j hj).2
    unfold R_askT R_sT
    rw [tx_same (f := f) (f' := R_ask0 f s a) (q := 41) (q' := 50) (F := 41 * s + 1) (F' := 41 * a + 1) (N := n1) (s := 20) (s' := 20) w50 r41 rfl, R_me_eq e5 e6, me_s t1, tx_same (f := f) (f' := R_ask0 f s a) (q := 43) (q' := 52) (F := 41 * s + 1) (F' := 41 * a + 1) (N := n2) (s := 20) w52 r43 (by omega), tx_same (f := f) (f' := R_ask0 f s a) (q := 42) (q' := 51) (F := 41 * s + 1) (F' := 41 * a + 1) (N := n3) (s := 20) w51 r42 (by omega)]
/-- the class makes an ASK and sends it -/
theorem k_askNew {q : Nat} {Q : Option Value → jx_S → Prop} (hW : RW th B b xl σ f A T) (hS : PS f n a) (h55 : f.1 55 a = 0 ∧ f.2 53 a = 0) (ha64 : a < 64) (hs : (s : Int) < (f.1 40 0).toInt) (hq : q < n) (hu : R_us f q) (hQ : ∀ σ' A' T', RW th B b xl σ' (R_sendAsk (R_ask0 f s a) a q) A' T' → kpr B A A' σ σ' → Q (some (.int (Int32.ofNat a))) σ') : cl_fj th (d + 8) 174 61 [(0, .ref B), (2, .ref (A 8 s)), (3, .ref (A 6 q))] [] σ Q := by
  obtain ⟨G1, hR1, hl1⟩ := id hW
  have hB := hR1.1.2.2.2.2.1
  have h7 := hS.1.2.1
  have h49 := hS.1.2.2.2.1
  obtain ⟨nq, m1, m2, hal, hqe⟩ := id hR1.2.2.2.2.1
  have enq : nq = a := by omega
  rw [enq] at hal hqe
  obtain ⟨⟨mc, hlp⟩, hEc⟩ := id hal
  rw [List.length_map, List.length_range] at hlp
  obtain ⟨T1, hT1⟩ : ∃ T1 : Nat → Nat, T1 = fun x => if x = σ.2.1 then 1000 + a else if x = σ.2.1 + 1 then 2000 + a else T x := ⟨_, rfl⟩
  have t1a : T1 σ.2.1 = 1000 + a := by rw [hT1]; exact if_pos rfl
  have t1b : T1 (σ.2.1 + 1) = 2000 + a := by rw [hT1]; exact (if_neg (by omega)).trans (if_pos rfl)
  have t1o : ∀ x, x < σ.2.1 → T1 x = T x := fun x z => by rw [hT1]; exact (if_neg (by omega)).trans (if_neg (by omega))
  obtain ⟨s1, hs1⟩ : ∃ s1, s1 = jx_mk σ (.inr (11, tb_df 11)) 6 := ⟨_, rfl⟩
  have o1 : ∀ q, q ≠ σ.2.1 → s1.1 q = σ.1 q := fun q z => by rw [hs1, jx_mk_ne z]
  have p1 : s1.1 σ.2.1 = some (.inr (11, [.null, .null, .int 0, .int 0, .int 0, .int 0])) := by rw [hs1]; exact jx_mk_eq
  have n1 : s1.2.1 = σ.2.1 + 1 ∧ s1.2.2 = σ.2.2 + 6 := by rw [hs1]; exact ⟨rfl, rfl⟩
  have c9 := hR1.1.2.2.2.2.2.2.2.2.2.2
  have hR1' : RelC th B b xl s1 f A G1 T1 := by
    refine hR1.gm ⟨fun x z1 z2 => o1 x (by omega), by omega, t1o⟩ ?_ ⟨?_, ?_⟩
    · rw [o1 _ (by omega)]; exact c9
    · rw [o1 _ (by omega)]; exact hR1.2.1.1
    · rw [o1 _ (by omega)]; exact hR1.2.1.2.1
  refine cl_at dt_174 80 [] dt_174_k ?_
  intro C J hC hJ
  conv => whnf
  rw [← hs1]
  refine ⟨jx_isC_of hR1'.X, hC _ _ _ _ (((k_draftAsk (d := d) hR1' hs).up (by omega)).mp ?_)⟩
  rintro r s2 ⟨rfl, ⟨nw, w, g1, g2, g3, g4, g5, g6, g7⟩, g8, g9, g10, g11, g12⟩
  rw [n1.1] at g1 g10 g11
  have P2 := (g10 σ.2.1 (by omega) (by omega) (by omega)).trans p1
  conv => whnf
  refine hC _ _ _ _ (((k_askInit (d := d) (Wd := s1.2.1) P2).up (by omega)).mp ?_)
  rintro r s3 ⟨rfl, P3, o3, n3⟩
  have n3' : s3.2.1 = σ.2.1 + 2 ∧ s3.2.2 ≤ σ.2.2 + 70 := by rw [n3]; omega
  have k3 : ∀ x, x < σ.2.1 → x ≠ B + 11 → x ≠ B + 12 → s3.1 x = σ.1 x := fun x z1 z2 z3 => by rw [o3 x (by omega), g10 x z2 z3 (by omega), o1 x (by omega)]
  have Y3 : s3.1 (σ.2.1 + 1) = some (.inl (1, nw, .inl w)) := (o3 _ (by omega)).trans g1
  have hR3 : RelC th B b xl s3 f A G1 T1 := by
    refine hR1.gm ⟨fun x z1 z2 => k3 x z1 (by omega) (by omega), by omega, t1o⟩ ?_ ⟨?_, ?_⟩
    · rw [k3 _ (by omega) (by omega) (by omega)]; exact c9
    · rw [o3 _ (by omega)]; exact g8
    · rw [o3 _ (by omega)]; exact g9
  obtain ⟨nq3, m3, m4, hal3, hqe3⟩ := id hR3.2.2.2.2.1
  have enq3 : nq3 = a := by omega
  rw [enq3] at hal3 hqe3
  have L3 := (k3 (B + 4) (by omega) (by omega) (by omega)).trans hlp
  have hth := hR1.1.2.2.2.1 1 (by omega)
  have hadd := k_add (th := th) (d := d) (x := σ.2.1) hal3 (by omega) (by omega) (by omega) hth hR3.1.2.2.1.2.1 P3 (by omega) (by decide) (by omega) (by rw [List.length_map, List.length_range]; omega) (fun i y hy => by
    obtain ⟨hi, e⟩ := List.getElem?_eq_some_iff.mp hy
    rw [List.length_map, List.length_range] at hi
    have e2 : A 11 i = y := by simpa using e
    obtain ⟨e3, -, e5, -⟩ := hqe3 i hi
    rw [e2] at e3 e5
    have h5 := e3.1
    have h6 := e3.2.1
    exact ⟨by omega, by omega, _, _, e5, by decide⟩)
  conv => whnf
  refine ⟨_, jx_getF_of (hR3.X) rfl, ?_⟩
  conv => whnf
  refine ⟨jx_isC_of L3, hC _ _ _ _ ((hadd.up (by omega)).mp ?_)⟩
  rintro r s4 ⟨rfl, E', T', a1, a2, a3, a4, a5, a6⟩
  have hEl : A 70 1 ≠ σ.2.1 ∧ A 70 1 ≠ σ.2.1 + 1 := by
    rcases hEc with ⟨z1, -⟩ | ⟨z1, -⟩
    · omega
    · have := z1.2.1
      omega
  have hn4 := a2.2.1
  have P4 := (a2.1 σ.2.1 (by omega) (fun z => by omega)).trans P3
  have Y4 := (a2.1 (σ.2.1 + 1) (by omega) (fun z => by omega)).trans Y3
  obtain ⟨F, hF⟩ : ∃ F, F = rf_ui (rf_ui (R_ask0 f s a) 56 a 0) 57 a 0 := ⟨_, rfl⟩
  have oF : ∀ q j, ¬ ((q = 56 ∨ q = 57) ∧ j = a) → F.1 q j = (R_ask0 f s a).1 q j := fun q j z => by rw [hF, rf_ui_ne (by omega), rf_ui_ne (by omega)]
  have lF : F.2 = f.2 := by rw [hF]; rfl
  have oF2 : ∀ q j, ¬ ((q = 50 ∨ q = 51 ∨ q = 52) ∧ 41 * a ≤ j ∧ j < 41 * a + 41) → ¬ (q = 49 ∧ j = 0) → ¬ ((q = 56 ∨ q = 57) ∧ j = a) → F.1 q j = f.1 q j := fun q j z1 z2 z3 => by rw [oF q j z3, ask0_o z1 z2]
  have F56 : F.1 56 a = 0 := by rw [hF, rf_ui_ne (by omega), rf_ui_eq]
  have F57 : F.1 57 a = 0 := by rw [hF, rf_ui_eq]
  have F55 : F.1 55 a = 0 := by rw [oF2 55 a (by omega) (by omega) (by omega)]; exact h55.1
  have F49 : (F.1 49 0).toInt = ((a + 1 : Nat) : Int) := by rw [oF 49 0 (by omega), ask0_v.1, i32_add (c := 1) h49 (by decide) (by omega) (by omega)]; omega
  obtain ⟨f1, hf1⟩ : ∃ f1, f1 = rf_ui (rf_ui f 56 a 0) 57 a 0 := ⟨_, rfl⟩
  have of1 : ∀ q j, ¬ ((q = 56 ∨ q = 57) ∧ j = a) → f1.1 q j = f.1 q j := fun q j z => by rw [hf1, rf_ui_ne (by omega), rf_ui_ne (by omega)]
  have hR3f : RelC th B b xl s3 f1 A G1 T1 := by
    obtain ⟨y1, y2, y3, y4, ⟨nq4, y5, y6, y7, y8⟩, y9, y10, y11⟩ := hR3
    have c := fun q j (z1 : q ≠ 56) (z2 : q ≠ 57) => of1 q j (fun z => by omega)
    have hid : chg (fun _ => False) s3 s3 T1 T1 := ⟨fun _ _ _ => rfl, Nat.le_refl _, fun _ _ => rfl⟩
    have hB3 : B + 102 ≤ s3.2.1 := by omega
    have no : ∀ q : Nat, ¬ False := fun _ z => z
    refine ⟨y1.mv hid (fun _ _ => fun z => z) ⟨fun z => z, fun z => z, fun z => z, fun z => z⟩ (fun _ _ z => z) ?_ (fun q j z1 z2 => c q j (by omega) (by omega)) rfl, y2.mv hid hB3 ⟨fun z => z, fun z => z, fun z => z⟩ (fun _ _ z => z) (fun q j hq => c q j (by omega) (by omega)) rfl, fun c' hc' => (y3 c' hc').mv hc' hid hB3 ⟨fun z => z, fun z => z, fun z => z⟩ (fun _ _ _ _ z => z) (fun q hq => c q _ (by simp only [List.mem_cons, List.not_mem_nil, or_false] at hq; omega) (by simp only [List.mem_cons, List.not_mem_nil, or_false] at hq; omega)) (fun j _ => c 29 _ (by omega) (by omega)) (fun j _ => c 31 _ (by omega) (by omega)) ⟨rfl, rfl, fun _ => rfl⟩ rfl, y4.mv hid hB3 (fun z => z) (fun _ _ _ _ z => z) (fun q j z1 z2 => c q j (by omega) (by omega)) (fun _ _ _ => rfl) (fun _ => rfl), ⟨nq4, by rw [c 49 0 (by omega) (by omega)]; exact y5, y6, y7, fun i hi => ?_⟩, y9.mv hid hB3 (fun z => z) (fun _ _ _ _ z => z) (fun q j z1 z2 => c q j (by omega) (by omega)) (fun _ _ _ => rfl), y10.mv hid hB3 (fun z => z) (fun _ _ _ _ z => z) (c 35 0 (by omega) (by omega)) (fun _ _ _ _ => by rw [hf1]; rfl) (fun _ _ _ => rfl), y11.mv hid hB3 (fun z => z) (fun _ _ _ _ z => z) (fun q j z1 z2 => c q j (by omega) (by omega)) (fun _ _ _ => by rw [hf1]; rfl) (by rw [c 7 0 (by omega) (by omega)]; exact Int.le_refl _) (by rw [c 35 0 (by omega) (by omega)]; exact Int.le_refl _) (fun _ _ _ => rfl) (fun _ _ => rfl) (fun _ _ => rfl)⟩
    · rw [y1.2.2.2.2.2.1]
      unfold cx_e
      rw [c 4 0 (by omega) (by omega), c 1 0 (by omega) (by omega), c 34 0 (by omega) (by omega)]
    · have hia : i ≠ a := by
        have e4 : nq4 = a := by omega
        omega
      exact (y8 i hi).fr (fun j => c 5 j (by omega) (by omega)) (c 6 0 (by omega) (by omega)) (fun q j hq _ => c q _ (by omega) (by omega)) (fun q hq => of1 q i (by omega)) (by rw [hf1]; rfl)
  obtain ⟨A', hA'⟩ : ∃ A' : Nat → Nat → Nat, A' = fun q i => if q = 11 ∧ i = a then σ.2.1 else if q = 111 ∧ i = a then σ.2.1 + 1 else if q = 70 ∧ i = 1 then E' else A q i := ⟨_, rfl⟩
  have b11 : A' 11 a = σ.2.1 := by rw [hA']; exact if_pos ⟨rfl, rfl⟩
  have b111 : A' 111 a = σ.2.1 + 1 := by rw [hA']; exact (if_neg (by omega)).trans (if_pos ⟨rfl, rfl⟩)
  have bo : ∀ q i, q ≠ 11 → q ≠ 111 → q ≠ 70 → A' q i = A q i := fun q i z1 z2 z3 => by rw [hA']; exact (if_neg (by omega)).trans ((if_neg (by omega)).trans (if_neg (by omega)))
  obtain ⟨rq, rT⟩ := ask0_rows (a := a) hR1 hs
  have eT : R_askT F a (R_hs F) (R_qn F 50 a) (R_qn F 52 a) (R_qn F 51 a) = R_sT f s (R_hs f) (sn f 41 s) (sn f 43 s) (sn f 42 s) := by
    rw [← rT, show R_hs F = R_hs (R_ask0 f s a) by unfold R_hs; rw [oF 6 0 (by omega)]]
    have eq : ∀ q, q = 50 ∨ q = 51 ∨ q = 52 → R_qn F q a = R_qn (R_ask0 f s a) q a := fun q hq => by unfold R_qn; rw [oF q _ (by omega)]
    rw [eq 50 (by omega), eq 51 (by omega), eq 52 (by omega)]
    exact R_askT_eq (fun q j hq => oF q j (by simp only [List.mem_cons, List.not_mem_nil, or_false] at hq; omega))
  have hq1 : rl_q1 B s4 F A' T' a := by
    refine ⟨?_, ?_, ?_, fun q hq => ?_, nw, w, ?_, ?_, g4, ?_, g6, ?_⟩
    · rw [b11]; exact ⟨by omega, by omega, by rw [a6 _ (by omega)]; exact t1a⟩
    · rw [b111]; exact ⟨by omega, by omega, by rw [a6 _ (by omega)]; exact t1b⟩
    · rw [b11, P4, n1.1]
      unfold cq_e
      rw [b111, F55, if_pos rfl, F56, F57, lF, h55.2]
      rfl
    · rw [oF q _ (by omega)]; exact rq q hq
    · rw [b111]; exact Y4
    · rw [eT]; exact g2
    · rw [F55, if_pos (Or.inl rfl)]; exact g5
    · rw [eT]; exact g7
  have hRC := hR3f.newq (σ' := s4) (f' := F) (A' := A') (T' := T') (X := σ.2.1) (Y := σ.2.1 + 1) (E' := E') (by rw [of1 49 0 (by omega)]; exact h49) ha64 (fun q j z1 z2 => by
      by_cases e : (q = 56 ∨ q = 57) ∧ j = a
      · rcases e with ⟨rfl | rfl, rfl⟩
        · rw [F56, hf1, rf_ui_ne (by omega), rf_ui_eq]
        · rw [F57, hf1, rf_ui_eq]
      · rw [oF2 q j z1 z2 e, of1 q j e]) (by rw [lF, hf1]; rfl) F49 a2 hA' a1 hq1
  have hW4 : RW th B b xl s4 F A' T' := ⟨G1, hRC, by rw [oF2 2 0 (by omega) (by omega) (by omega)]; exact hl1⟩
  obtain ⟨c, c8, gl1, gl2, gl3⟩ : GL F q := (hS.gl hq hu.1).of (fun u j hu' => oF2 u j (by simp only [List.mem_cons, List.not_mem_nil, or_false] at hu'; omega) (by simp only [List.mem_cons, List.not_mem_nil, or_false] at hu'; omega) (by simp only [List.mem_cons, List.not_mem_nil, or_false] at hu'; omega))
  have ks := k_sendAsk (th := th) (d := d) (i := a) (q := q) (t := 0) hW4 (by rw [F49]; omega) (by rw [oF2 7 0 (by omega) (by omega) (by omega), h7]; omega) c8 gl1 gl2 gl3 (by rw [F55]; decide) (by omega)
  rw [b11, bo 6 q (by omega) (by omega) (by omega)] at ks
  conv => whnf
  refine ⟨jx_isC_of hRC.X, hC _ _ _ _ ((ks.up (by omega)).mp ?_)⟩
  rintro r s5 ⟨rfl, hW5, kp5⟩
  have eS : R_sendAsk F a q = R_sendAsk (R_ask0 f s a) a q := by rw [hF]; exact sendAsk_z (by rw [ask0_o (by omega) (by omega)]; exact h55.1)
  rw [eS] at hW5
  obtain ⟨G5, hR5, hl5⟩ := id hW5
  obtain ⟨nq5, v1, v2, v3, -⟩ := id hR5.2.2.2.2.1
  obtain ⟨⟨mc5, L5⟩, -⟩ := v3
  rw [List.length_map, List.length_range] at L5
  have en5 : nq5 = a + 1 := by
    have : ((R_sendAsk (R_ask0 f s a) a q).1 49 0).toInt = ((a + 1 : Nat) : Int) := by rw [← eS, R_sendAsk_o rfl]; exact F49
    omega
  rw [en5] at L5
  conv => whnf
  refine ⟨_, jx_getF_of (hR5.X) rfl, ?_⟩
  conv => whnf
  refine ⟨jx_isC_of L5, hC _ _ _ _ (((k_size (d := d) L5).up (by omega)).mp ?_)⟩
  rintro r s6 ⟨rfl, hs6⟩
  rw [hs6]
  conv => whnf
  have hng := ngr_eq (A := A) (A' := A') (B := B) (fun c => bo 52 c (by omega) (by omega) (by omega)) 8
  have e1 : (fun x y : Int32 => x - y) (Int32.ofNat (a + 1)) 1 = Int32.ofNat a := by
    show Int32.ofNat (a + 1) - 1 = _
    refine i32_eq ?_ (by omega)
    rw [i32_sub (c := 1) (i32_ofNat (n := a + 1) (by omega)) (by decide) (by omega) (by omega)]
    omega
  have goal := hQ s5 A' T' hW5 ⟨fun x z1 z2 => by rw [kp5.2 x z1 z2, a2.1 x (by omega) (fun z => by omega), k3 x (by omega) (by omega) (by omega)], by rw [kp5.1]; omega, by rw [kp5.1, hng]; omega, by rw [kp5.1, hng]; omega⟩
  rw [← e1] at goal
  exact goal
end JxAsk3
