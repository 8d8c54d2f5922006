/-! THE CLASS answers -/
section JxClsans
variable {th : Nat → Nat} {d B b O n R L s cn bb k p e : Nat} {xl : List Int32} {σ σ' : jx_S} {f f0 g : jx_F} {A : Nat → Nat → Nat} {G : Nat → Nat → Int32} {T : Nat → Nat} {o : Nat → Int32} {bs : List Int32} {c w z res cv : Int32}
theorem scs_in : ∀ (k p e s : Nat), (scs o k 0 p e s).2 = s ∨ (p ≤ (scs o k 0 p e s).2 ∧ 8 ≤ sz o (scs o k 0 p e s).2 ∧ (scs o k 0 p e s).2 + sz o (scs o k 0 p e s).2 ≤ e)
  | 0, _, _, _ => Or.inl rfl
  | k + 1, p, e, s => by
    by_cases hep : e ≤ p
    · rw [ss_end hep]; exact Or.inl rfl
    · cases hx : ck1 o 0 p e with
      | some y => rw [ss_flt hep hx]; exact Or.inl rfl
      | none =>
        obtain ⟨c1, c2, c3, -⟩ := ck1_ok hx
        have hpd := pad_le (n := sz o p)
        by_cases h5 : knd o p = 5
        · have i1 := scs_dd (o := o) k 1 (p + 8) (p + sz o p) s (by omega)
          by_cases ht : (scs o k 1 (p + 8) (p + sz o p) s).1 = none
          · rw [ss_n5n hep hx h5 ht, i1]
            rcases scs_in k (p + pad (sz o p)) e s with i | i
            · exact Or.inl i
            · exact Or.inr ⟨by omega, i.2⟩
          · rw [ss_n5s hep hx h5 ht, i1]
            exact Or.inl rfl
        · rw [ss_nk hep hx h5]
          by_cases hc : knd o p ≠ 0 ∧ w4 o p = 263 ∧ 0 = 0 ∧ s = 0
          · rw [if_pos hc]
            rcases scs_in k (p + pad (sz o p)) e p with i | i
            · rw [i]; exact Or.inr ⟨by omega, by omega, by omega⟩
            · exact Or.inr ⟨by omega, i.2⟩
          · rw [if_neg hc]
            rcases scs_in k (p + pad (sz o p)) e s with i | i
            · exact Or.inl i
            · exact Or.inr ⟨by omega, i.2⟩
theorem sat_in (h : sat o L ≠ 0) : 20 ≤ sat o L ∧ 8 ≤ sz o (sat o L) ∧ sat o L + sz o (sat o L) ≤ L := by
  unfold sat at h ⊢
  split at h
  · rename_i hd
    rw [if_pos hd]
    rcases scs_in (o := o) 700 20 L 0 with i | i
    · exact absurd i h
    · exact i
  · exact absurd rfl h
theorem k_failed (hM : DM B σ O bs) (hl : bs.length + 16 ≤ 256) : jc th (d + 1) 101 [.ref (B + 11), .int c] σ (fun r σ' => r = none ∧ dch B σ σ' ∧ DM B σ' O (bs ++ (R_at 279 8 ++ R_at c 0))) := by
  obtain ⟨w, n, ⟨h11, h12⟩, hn, hq⟩ := hM
  have hbl : bs.length = 4 * n := by have := hq.1; unfold om at this; rw [List.length_map] at this; exact this
  refine cl_go dt_101 80 [] dt_101_k rfl ?_
  intro C J hC hJ
  conv => whnf
  refine ⟨_, jx_getF_of (h11) rfl, ?_⟩
  conv => whnf
  refine jx_no (nneg (a := n) (by omega)) ?_
  conv => whnf
  refine ⟨_, jx_getF_of (h11) rfl, ?_⟩
  conv => whnf
  refine ⟨_, jx_getF_of (h11) rfl, ?_⟩
  conv => whnf
  refine ⟨_, jx_al_of (h12), ?_⟩
  conv => whnf
  refine jx_no (show ¬ Int32.ofNat 64 < Int32.ofNat n + 4 by rw [nadd (c := 4) (q := 4) rfl (by omega), nlt (by omega) (by omega)]; omega) ?_
  conv => whnf
  refine ⟨_, jx_getF_of (h11) rfl, ?_⟩
  conv => whnf
  refine ⟨_, jx_getF_of (h11) rfl, ?_⟩
  conv => whnf
  refine istK h12 (k := n) (i32_ofNat (by omega)) (by omega) (fun s1 p1 o1 n1 => ?_)
  conv => whnf
  have q1 := (o1 (B + 11) (by omega)).trans h11
  refine ⟨_, jx_getF_of (q1) rfl, ?_⟩
  conv => whnf
  refine ⟨_, jx_getF_of (q1) rfl, ?_⟩
  conv => whnf
  refine istK p1 (k := n + 1) (nadd_i (c := 1) rfl (by omega)) (by omega) (fun s2 p2 o2 n2 => ?_)
  conv => whnf
  have q2 := (o2 (B + 11) (by omega)).trans q1
  refine ⟨_, jx_getF_of (q2) rfl, ?_⟩
  conv => whnf
  refine ⟨_, jx_getF_of (q2) rfl, ?_⟩
  conv => whnf
  refine istK p2 (k := n + 2) (nadd_i (c := 2) rfl (by omega)) (by omega) (fun s3 p3 o3 n3 => ?_)
  conv => whnf
  have q3 := (o3 (B + 11) (by omega)).trans q2
  refine ⟨_, jx_getF_of (q3) rfl, ?_⟩
  conv => whnf
  refine ⟨_, jx_getF_of (q3) rfl, ?_⟩
  conv => whnf
  refine istK p3 (k := n + 3) (nadd_i (c := 3) rfl (by omega)) (by omega) (fun s4 p4 o4 n4 => ?_)
  conv => whnf
  have q4 := (o4 (B + 11) (by omega)).trans q3
  refine ⟨_, jx_getF_of (q4) rfl, ?_⟩
  conv => whnf
  refine putK q4 rfl (fit_i _) (fun s5 p5 o5 n5 => ?_)
  conv => whnf
  refine ⟨rfl, ⟨n5.trans (n4.trans (n3.trans (n2.trans n1))), fun a h1 h2 => by rw [o5 a h1, o4 a h2, o3 a h2, o2 a h2, o1 a h2]⟩, _, n + 4, ⟨?_, (o5 (B + 12) (by omega)).trans p4⟩, by omega, ?_⟩
  · rw [← nadd (a := n) (c := 4) (q := 4) rfl (by omega)]
    exact p5
  · have hq3 : dq (upd (upd (upd (upd w n 279) (n + 1) 1073741840) (n + 2) c) (n + 3) 1073741832) n (om bs) := hq.of (fun i _ hi => by rw [upd_ne (by omega), upd_ne (by omega), upd_ne (by omega), upd_ne (by omega)])
    have := hq3.w.w.w.w
    rw [upd_ne (show n ≠ n + 3 by omega), upd_ne (show n ≠ n + 2 by omega), upd_ne (show n ≠ n + 1 by omega), upd_eq, upd_ne (show n + 1 ≠ n + 3 by omega), upd_ne (show n + 1 ≠ n + 2 by omega), upd_eq, show n + 1 + 1 = n + 2 by omega, upd_ne (show n + 2 ≠ n + 3 by omega), upd_eq, show n + 2 + 1 = n + 3 by omega, upd_eq] at this
    rw [om_app]
    have e : om (R_at 279 8 ++ R_at c 0) = ow 279 ++ (ow 1073741840 ++ (ow c ++ ow 1073741832)) := rfl
    rw [e, ← List.append_assoc, ← List.append_assoc, ← List.append_assoc]
    exact this
theorem and64_lt {x y : Int32} (hy : y = 0 ∨ y = 32) : ((x &&& 64) ||| y).toBitVec.toNat < 2 ^ 8 := by
  rcases and64 x with h | h <;> rw [h] <;> rcases hy with rfl | rfl <;> decide
theorem w3_lt {k : Nat} : (w3 o k).toBitVec.toNat < 2 ^ 24 := by
  rw [w3_n]
  have h0 := bn_lt (o := o) (k := k)
  have h1 := bn_lt (o := o) (k := k + 1)
  have h2 := bn_lt (o := o) (k := k + 2)
  omega
/-- what SE tells of an answer's SESSION -/
theorem SE.sok (hL : LK o L bb f0 g) (hb : bb ≤ 4800) : R_sok g ∧ (0 < g.1 79 0 ↔ sat o L ≠ 0) ∧ (sat o L ≠ 0 → R_sF g = bb + (sat o L + 8) ∧ g.1 78 0 = Int32.ofNat (sz o (sat o L) - 8) ∧ 9 ≤ sz o (sat o L) ∧ sz o (sat o L) ≤ 48) := by
  obtain ⟨c, h1, h2, h3, h4⟩ := hL.se
  have hp : 0 < g.1 79 0 ↔ sat o L ≠ 0 := by
    rw [h1, show (0 : Int32) = Int32.ofNat 0 from rfl, nlt (by omega) (by omega), Nat.pos_iff_ne_zero]
    exact ⟨fun z y => z (h3.mp y), fun z y => z (h3.mpr y)⟩
  have hv : sat o L ≠ 0 → (g.1 67 0 + g.1 77 0).toInt = ((bb + (sat o L + 8) : Nat) : Int) ∧ g.1 78 0 = Int32.ofNat (sz o (sat o L) - 8) ∧ 9 ≤ sz o (sat o L) ∧ sz o (sat o L) ≤ 48 := fun z => by
    obtain ⟨q1, q2, q3, q4, q5, q6⟩ := h4 z
    have : 1 ≤ sz o (sat o L) - 8 ∧ sz o (sat o L) - 8 ≤ 40 := by
      unfold okz at q4
      rw [if_pos rfl] at q4
      exact decide_eq_true_iff.mp q4
    refine ⟨?_, q2, by omega, by omega⟩
    rw [hL.h67, q1]
    exact i32_k1 (i32_ofNat (by omega)) (i32_ofNat (by omega)) (by omega)
  refine ⟨fun z => ?_, hp, fun z => ?_⟩
  · obtain ⟨q1, q2, q3, q4⟩ := hv (hp.mp z)
    obtain ⟨-, -, s2⟩ := sat_in (hp.mp z)
    have := (h4 (hp.mp z)).2.2.2.2.2
    exact ⟨_, sz o (sat o L) - 8, q1, by rw [q2]; exact i32_ofNat (by omega), by omega, by omega⟩
  · obtain ⟨q1, q2, q3, q4⟩ := hv z
    exact ⟨i32_nat q1, q2, q3, q4⟩
set_option maxHeartbeats 4000000 in
theorem k_beginAnswer (hR : RelC th B b xl σ g A G T) (hM : MB σ (B + 9) R L o w z c (Int32.ofNat (sat o L))) (hl : 20 ≤ L) (hL : LK o L bb f0 g) (hb : bb ≤ 4800) (ho : o = oct f0 bb) : jc th (d + 4) 97 [.ref B, .int res] σ (fun r σ' => r = none ∧ dch B σ σ' ∧ DM B σ' (A 4 0) (R_ans g res)) := by
  have hX := hR.X
  have hO := hR.dO
  have hs := hR.hs
  have h6 := hM.2.1
  obtain ⟨sk1, sk2, sk3⟩ := SE.sok hL hb
  obtain ⟨⟨cn, d1⟩, ⟨wd, d2⟩, -⟩ := hR.2.1
  have hml := hO.ml hs
  have t128 : ∀ (σ1 : jx_S), dch B σ σ1 → DM B σ1 (A 4 0) (R_hd (R_afl g res) (g.1 70 0) (g.1 71 0) (g.1 72 0) (g.1 73 0) ++ R_asT g) → cl_fj th (d + 3) 97 128 [(0, .ref B), (1, .int res)] [] σ1 (fun r σ' => r = none ∧ dch B σ σ' ∧ DM B σ' (A 4 0) (R_ans g res)) := by
    intro σ1 c1 m1
    have al := R_asT_l sk1
    have hX1 := (c1.2 B (by omega) (by omega)).trans hX
    obtain ⟨cn1, e1⟩ := m1.c11
    refine cl_at dt_97 40 [] dt_97_k ?_
    intro C J hC hJ
    conv => whnf
    refine ⟨_, jx_getF_of (hX1) rfl, ?_⟩
    conv => whnf
    refine ⟨jx_isC_of e1, hC _ _ _ _ (((k_number (d := d) (c := 268) (v := res) m1 (by rw [List.length_append]; show 20 + _ + 12 ≤ 256; omega)).up (by omega)).mp ?_)⟩
    rintro r s2 ⟨rfl, c2, m2⟩
    have hX2 := (c2.2 B (by omega) (by omega)).trans hX1
    have hO2 := (hO.mv c1).mv c2
    obtain ⟨cn2, e2⟩ := m2.c11
    conv => whnf
    refine ⟨_, jx_getF_of (hX2) rfl, ?_⟩
    conv => whnf
    refine ⟨jx_isC_of e2, hC _ _ _ _ (((k_originR (d := d) m2 hO2 hs (by rw [List.length_append, List.length_append]; show 20 + _ + 12 ≤ 190; omega)).up (by omega)).mp ?_)⟩
    rintro r s3 ⟨rfl, c3, m3⟩
    conv => whnf
    refine ⟨rfl, (c1.tr c2).tr c3, ?_⟩
    unfold R_ans
    rw [List.append_assoc, List.append_assoc] at m3
    exact m3
  have t21 : ∀ x : Int32, x = (if 3000 ≤ res ∧ res ≤ 3999 then 32 else 0) → cl_fj th (d + 3) 97 21 [(0, .ref B), (1, .int res), (2, .int x)] [] σ (fun r σ' => r = none ∧ dch B σ σ' ∧ DM B σ' (A 4 0) (R_ans g res)) := by
    intro x hx
    have hx2 : x = 0 ∨ x = 32 := by rw [hx]; split; exact Or.inr rfl; exact Or.inl rfl
    refine cl_at dt_97 80 [(128, [0, 1])] dt_97_k ?_
    intro C J hC hJ
    conv => whnf
    refine ⟨_, jx_getF_of (hX) rfl, ?_⟩
    conv => whnf
    refine ⟨jx_isC_of hM.1, hC _ _ _ _ (((k_command (d := d) hM hl).up (by omega)).mp ?_)⟩
    rintro r s1 ⟨rfl, hs1⟩
    rw [hs1]
    conv => whnf
    refine ⟨_, jx_getF_of (hX) rfl, ?_⟩
    conv => whnf
    refine ⟨_, jx_getF_of (hX) rfl, ?_⟩
    conv => whnf
    refine ⟨jx_isC_of hM.1, hC _ _ _ _ (((k_flags (d := d) hM hl).up (by omega)).mp ?_)⟩
    rintro r s2 ⟨rfl, hs2⟩
    rw [hs2]
    conv => whnf
    refine ⟨_, jx_getF_of (hX) rfl, ?_⟩
    conv => whnf
    refine ⟨jx_isC_of hM.1, hC _ _ _ _ (((k_application (d := d) hM hl).up (by omega)).mp ?_)⟩
    rintro r s3 ⟨rfl, hs3⟩
    rw [hs3]
    conv => whnf
    refine ⟨_, jx_getF_of (hX) rfl, ?_⟩
    conv => whnf
    refine ⟨jx_isC_of hM.1, hC _ _ _ _ (((k_hop (d := d) hM hl).up (by omega)).mp ?_)⟩
    rintro r s4 ⟨rfl, hs4⟩
    rw [hs4]
    conv => whnf
    refine ⟨_, jx_getF_of (hX) rfl, ?_⟩
    conv => whnf
    refine ⟨jx_isC_of hM.1, hC _ _ _ _ (((k_end (d := d) hM hl).up (by omega)).mp ?_)⟩
    rintro r s5 ⟨rfl, hs5⟩
    rw [hs5]
    conv => whnf
    refine ⟨jx_isC_of d1, hC _ _ _ _ (((k_begin (d := d) (th := th) (fl := (ob o 4 &&& 64) ||| x) (c := w3 o 5) (a := w4 o 8) (h := w4 o 12) (e := w4 o 16) d1 d2 (ow_hd (and64_lt hx2) w3_lt)).up (by omega)).mp ?_)⟩
    rintro r s6 ⟨rfl, c6, m6⟩
    have efl : (ob o 4 &&& 64) ||| x = R_afl g res := by unfold R_afl; rw [hL.h69, hx]
    rw [efl, ← hL.h70, ← hL.h71, ← hL.h72, ← hL.h73] at m6
    have hX6 := (c6.2 B (by omega) (by omega)).trans hX
    have hM6 : MB s6 (B + 9) R L o w z c (Int32.ofNat (sat o L)) := hM.same (c6.2 _ (by omega) (by omega)) (c6.2 _ (fun y => by
      obtain ⟨-, -, -, h, hr, -⟩ := hM
      rw [y, d1] at hr; cases hr) (fun y => by
      obtain ⟨-, -, -, h, hr, -⟩ := hM
      rw [y, d2] at hr; cases hr))
    conv => whnf
    refine ⟨fun (h1 : ¬ w3 o 5 = 272) => ?_, fun (h1 : ¬ ¬ w3 o 5 = 272) => ?_⟩
    · conv => whnf
      have e0 : R_asT g = [] := by unfold R_asT; rw [if_neg (fun y => h1 (by rw [← hL.h70]; exact y.1))]
      exact hJ _ _ _ _ (t128 s6 c6 (by rw [e0, List.append_nil]; exact m6))
    have h1 := Decidable.not_not.mp h1
    conv => whnf
    refine ⟨_, jx_getF_of (hX6) rfl, ?_⟩
    conv => whnf
    refine ⟨_, jx_getF_of (hM6.1) rfl, ?_⟩
    conv => whnf
    by_cases s0 : sat o L = 0
    · refine jx_yes (show Int32.ofNat (sat o L) = 0 by rw [s0]; rfl) ?_
      conv => whnf
      have e0 : R_asT g = [] := by unfold R_asT; rw [if_neg (fun y => sk2.mp y.2 s0)]
      exact hJ _ _ _ _ (t128 s6 c6 (by rw [e0, List.append_nil]; exact m6))
    · obtain ⟨a1, a2, a3, a4⟩ := sk3 s0
      obtain ⟨b1, b2, b3⟩ := sat_in s0
      have e0 : R_asT g = R_tx g 263 (Int32.ofNat (sz o (sat o L) - 8)) 29 (bb + (sat o L + 8)) (sz o (sat o L) - 8) 20 := by
        unfold R_asT
        rw [if_pos ⟨by rw [hL.h70]; exact h1, sk2.mpr s0⟩, a1, a2, show R_sN g = sz o (sat o L) - 8 by unfold R_sN; rw [a2]; exact i32_nat (i32_ofNat (by omega))]
      have hsi : (Int32.ofNat (sat o L)).toInt = ((sat o L : Nat) : Int) := i32_ofNat (by omega)
      refine jx_no (show ¬ Int32.ofNat (sat o L) = 0 from ofN_ne s0 (by omega)) ?_
      conv => whnf
      refine ⟨_, jx_getF_of (hX6) rfl, ?_⟩
      conv => whnf
      refine ⟨_, jx_getF_of (hX6) rfl, ?_⟩
      conv => whnf
      refine ⟨_, jx_getF_of (hM6.1) rfl, ?_⟩
      conv => whnf
      refine ⟨_, jx_getF_of (hX6) rfl, ?_⟩
      conv => whnf
      refine ⟨_, jx_getF_of (hM6.1) rfl, ?_⟩
      conv => whnf
      refine ⟨_, jx_getF_of (hX6) rfl, ?_⟩
      conv => whnf
      refine ⟨_, jx_getF_of (hX6) rfl, ?_⟩
      conv => whnf
      refine ⟨_, jx_getF_of (hM6.1) rfl, ?_⟩
      conv => whnf
      refine ⟨jx_isC_of hM6.1, hC _ _ _ _ (((k_dataSize (d := d) (k := sat o L) hM6 hsi (by omega) b2).up (by omega)).mp ?_)⟩
      rintro r s7 ⟨rfl, hs7⟩
      rw [hs7]
      obtain ⟨cn6, e6⟩ := m6.c11
      obtain ⟨-, -, -, hh, hr6, hj6⟩ := hM6
      have hne : R ≠ B + 11 ∧ R ≠ B + 12 := by
        refine ⟨fun y => ?_, fun y => ?_⟩
        · rw [y, e6] at hr6
          cases hr6
        · obtain ⟨wz, nz, ⟨-, dz⟩, -⟩ := m6
          rw [y, dz] at hr6
          cases hr6
      conv => whnf
      refine ⟨jx_isC_of e6, hC _ _ _ _ (((k_textD (d := d) (f := g) (q := 29) (F := bb + (sat o L + 8)) (t := 20) (c := 263) (S := sat o L + 8) (N := sz o (sat o L) - 8) m6 hne (by decide) hr6 (i32_k1 (j := 8) hsi (by decide) (by omega)) (by omega) (by omega) (by omega) (fun j hj => ?_) (by omega) (by show 20 + _ ≤ 256; omega)).up (by omega)).mp ?_)⟩
      · rw [hj6 _ (by omega), ho, hL.fr 29 _ (by omega)]
        show (f0.1 29 _).toInt8 = _
        rw [show bb + (sat (oct f0 bb) L + 8 + j) = bb + (sat (oct f0 bb) L + 8) + j by omega]
      rintro r s8 ⟨rfl, c8, m8⟩
      conv => whnf
      exact hJ _ _ _ _ (t128 s8 (c6.tr c8) (by rw [e0]; exact m8))
  refine cl_go dt_97 40 [(21, [0, 1, 2])] dt_97_k rfl ?_
  intro C J hC hJ
  conv => whnf
  refine ⟨fun (h1 : res < 3000) => ?_, fun (h1 : ¬ res < 3000) => ?_⟩
  · conv => whnf
    exact hJ _ _ _ _ (t21 0 (by rw [if_neg (fun y => absurd h1 (Int32.not_lt.mpr y.1))]))
  · conv => whnf
    refine ⟨fun (h2 : 3999 < res) => ?_, fun (h2 : ¬ 3999 < res) => ?_⟩
    · conv => whnf
      exact hJ _ _ _ _ (t21 0 (by rw [if_neg (fun y => absurd h2 (Int32.not_lt.mpr y.2))]))
    · conv => whnf
      exact hJ _ _ _ _ (t21 32 (by rw [if_pos ⟨Int32.not_lt.mp h1, Int32.not_lt.mp h2⟩]))
end JxClsans
