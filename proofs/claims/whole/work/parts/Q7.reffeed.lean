/-! THE REFERENCE: octets come -/
section JxReffeed
variable {th : Nat → Nat} {B b d n a x h p q c z m N k : Nat} {xl : List Int32} {σ σ' σ0 : jx_S} {f g F f0 : jx_F} {A A' : Nat → Nat → Nat} {G : Nat → Nat → Int32} {T T' : Nat → Nat} {cv t v kv nv : Int32} {u1 u2 u3 u4 w : Int64} {ws : Nat → Int32} {Q : Option Value → jx_F → Prop}
theorem fs_rw (hW : ∃ σ A T, RW th B b xl σ f A T) (hV : MV n a x f) (hq : q < 8) (hcv : cv.toInt = ((q + 1 : Nat) : Int)) (h26 : f.1 26 (q + 1) = 2) (h34 : (f.1 34 0).toInt = (h : Int)) (hh : h < 2147480000) (hv : isb v) (hg : g = R_o1 f (q + 1) v) : ∃ σ A T, RW th B b xl σ (R_fs g n a (q + 1) cv t).2 A T := by
  obtain ⟨σ, A, T, hW⟩ := hW
  obtain ⟨z, hz⟩ := hW.z30 hq h26
  obtain ⟨z6, h30, ⟨V0, M0⟩, key, -⟩ := hV.o1 (by omega) (by omega) h26 hz hg
  have og : ∀ u j, ¬ (u = 29 ∧ j = 600 * (q + 1) + z) → ¬ (u = 30 ∧ j = q + 1) → u ≠ 67 → g.1 u j = f.1 u j := fun u j z1 z2 z3 => by rw [hg]; exact o1_o hz z1 z2 z3
  have g26 : g.1 26 (q + 1) = 2 := by rw [og 26 _ (by omega) (by omega) (by omega)]; exact h26
  have h342 : ((rf_ui g 30 (q + 1) 0).1 34 0).toInt = (h : Int) := by rw [rf_ui_ne (by omega), og 34 0 (by omega) (by omega) (by omega)]; exact h34
  obtain ⟨_, _, s1, -, -, W1, -⟩ := k_addO (d := 0) hW hq (by rw [h26]; decide) hz z6 hv
  have W1' : RW th B b xl s1 g A T := by
    rw [hg]
    unfold R_o1
    rw [i32_nat hz]
    exact W1.scr
  unfold R_fs
  by_cases hb : R_brk g (q + 1)
  · rw [if_pos hb]
    obtain ⟨_, _, s2, -, -, W2, -⟩ := k_closeBad (d := 0) W1' rfl V0.1 h342 (by omega) hq
    exact ⟨s2, A, T, W2⟩
  rw [if_neg hb]
  by_cases hw : R_whl g (q + 1)
  · rw [if_pos hw, i32_nat h30]
    have y1 := hw.1
    rw [Int32.le_iff_toInt_le, h30, show (4 : Int32).toInt = 4 by decide] at y1
    obtain ⟨u, k1, k2, k3, k4⟩ := key hb (by omega)
    have y2 := hw.2
    rw [k1] at y2
    have h30' := h30
    rw [y2, i32_ofNat (by omega)] at h30'
    obtain ⟨_, _, s2, -, -, A', T', W2, -⟩ := k_doMessage (d := 0) W1' hq hcv g26 h30 (by omega) (by omega) rfl rfl V0 h342 hh
    exact ⟨s2, A', T', W2⟩
  · rw [if_neg hw]
    exact ⟨s1, A, T, W1'⟩
theorem r_fd_d (hq : q < 8) (hcv : cv.toInt = ((q + 1 : Nat) : Int)) (V0 : MV n a x (rf_ui g 30 (q + 1) 0)) (hb : R_brk g (q + 1)) (hL : jx_fj th (rf_g m) (rf σ0 m) (d + 14) 216 47 [(0, .ref 0), (1, .int cv), (2, .long u1), (4, .long u2), (6, .long u3), (8, .long u4), (10, .int nv), (11, .int (R_fs g n a (q + 1) cv t).1), (12, .int (kv + Int32.ofInt 1))] [] (R_fs g n a (q + 1) cv t).2 Q) : jx_fj th (rf_g m) (rf σ0 m) (d + 14) 216 208 [(0, .ref 0), (1, .int cv), (2, .long u1), (4, .long u2), (6, .long u3), (8, .long u4), (10, .int nv), (11, .int t), (12, .int kv)] [] g Q := by
  have e1 : R_fs g n a (q + 1) cv t = (t, R_drop g n a (q + 1)) := if_pos hb
  rw [e1] at hL
  refine rf_at dt_216 90 [(47, [0, 1, 2, 4, 6, 8, 10, 11, 12])] dt_216_k (by decide +kernel) ?_
  intro C J hC hJ
  conv => whnf
  refine hC _ _ _ _ (((r_dropBad (d := d) rfl V0.1 hcv (by omega) (by omega)).up (by omega)).mp ?_)
  rintro r f' ⟨rfl, hf'⟩
  rw [hf']
  conv => whnf
  exact hJ _ _ _ _ hL
theorem r_fd_w {W : Int32} (hq : q < 8) (hcv : cv.toInt = ((q + 1 : Nat) : Int)) (V0 : MV n a x (rf_ui g 30 (q + 1) 0)) (h30 : (g.1 30 (q + 1)).toInt = ((z + 1 : Nat) : Int)) (z6 : z < 600) (hRO : RO g) (h26 : g.1 26 (q + 1) = 2) (h34 : (g.1 34 0).toInt = (h : Int)) (hh : h < 2147480000) (hb : ¬ R_brk g (q + 1)) (hW : 4 ≤ z + 1 → W = w3 (oct g (600 * (q + 1))) 1) (hL : jx_fj th (rf_g m) (rf σ0 m) (d + 14) 216 47 [(0, .ref 0), (1, .int cv), (2, .long u1), (4, .long u2), (6, .long u3), (8, .long u4), (10, .int nv), (11, .int (R_fs g n a (q + 1) cv t).1), (12, .int (kv + Int32.ofInt 1))] [] (R_fs g n a (q + 1) cv t).2 Q) : jx_fj th (rf_g m) (rf σ0 m) (d + 14) 216 216 [(0, .ref 0), (1, .int cv), (2, .long u1), (4, .long u2), (6, .long u3), (8, .long u4), (10, .int nv), (11, .int t), (12, .int kv), (15, .int W)] [] g Q := by
  have i9 : jx_in cv 9 := jx_in_nat hcv (show q + 1 < 9 by omega)
  refine rf_at dt_216 90 [(47, [0, 1, 2, 4, 6, 8, 10, 11, 12])] dt_216_k (by decide +kernel) ?_
  intro C J hC hJ
  conv => whnf
  refine ⟨i9, ?_⟩
  conv => whnf
  rw [i32_nat hcv]
  refine ⟨fun (c1 : g.1 30 (q + 1) < 4) => ?_, fun (c1 : ¬ g.1 30 (q + 1) < 4) => ?_⟩
  · have hw : ¬ R_whl g (q + 1) := fun y => Int32.not_lt.mpr y.1 c1
    have e1 : R_fs g n a (q + 1) cv t = (t, g) := by
      unfold R_fs
      rw [if_neg hb, if_neg hw]
    rw [e1] at hL
    conv => whnf
    exact hJ _ _ _ _ hL
  · have c4 := Int32.not_lt.mp c1
    have c4' := c4
    rw [Int32.le_iff_toInt_le, h30, show (4 : Int32).toInt = 4 by decide] at c4'
    have eW := hW (by omega)
    conv => whnf
    refine ⟨i9, ?_⟩
    conv => whnf
    rw [i32_nat hcv]
    refine ⟨fun (c2 : ¬ g.1 30 (q + 1) = W) => ?_, fun (c2 : ¬ ¬ g.1 30 (q + 1) = W) => ?_⟩
    · have hw : ¬ R_whl g (q + 1) := fun y => c2 (by rw [eW]; exact y.2)
      have e1 : R_fs g n a (q + 1) cv t = (t, g) := by
        unfold R_fs
        rw [if_neg hb, if_neg hw]
      rw [e1] at hL
      conv => whnf
      exact hJ _ _ _ _ hL
    · have c2 := Decidable.not_not.mp c2
      have hw : R_whl g (q + 1) := ⟨c4, by rw [c2, eW]⟩
      have e1 : R_fs g n a (q + 1) cv t = (t + 1, R_hdl (R_look (rf_ui g 30 (q + 1) 0) (600 * (q + 1)) (z + 1)) n a (q + 1) cv) := by
        unfold R_fs
        rw [if_neg hb, if_pos hw, i32_nat h30]
      rw [e1] at hL
      conv => whnf
      refine ⟨i9, ?_⟩
      conv => whnf
      rw [i32_nat hcv]
      refine hC _ _ _ _ (((r_handle (d := d) (L := z + 1) hq hcv ?_ (by omega) rfl V0 (hRO.eq (fun u j hu => rf_ui_ne (by omega))) (by rw [rf_ui_ne (by omega)]; exact h26) (by rw [rf_ui_ne (by omega)]; exact h34) hh).up (by omega)).mp ?_)
      · rw [show oct (rf_ui g 30 (q + 1) 0) (600 * (q + 1)) = oct g (600 * (q + 1)) from funext fun j => rf_ui_ne (by omega), ← hw.2]
        exact i32_eq h30 (by omega)
      · rintro r f' ⟨rfl, hf'⟩
        rw [hf']
        conv => whnf
        exact hJ _ _ _ _ hL
theorem r_fd_b (hRO : RO f) (hz : (f.1 30 (q + 1)).toInt = (z : Int)) (hV : MV n a x f) (hq : q < 8) (hcv : cv.toInt = ((q + 1 : Nat) : Int)) (h26 : f.1 26 (q + 1) = 2) (h34 : (f.1 34 0).toInt = (h : Int)) (hh : h < 2147480000) (hk : kv.toInt = (k : Int)) (hk2 : k < 32) (hg : g = R_o1 f (q + 1) (R_oc w (Int32.ofNat k)))
    (hL : jx_fj th (rf_g m) (rf σ0 m) (d + 14) 216 47 [(0, .ref 0), (1, .int cv), (2, .long u1), (4, .long u2), (6, .long u3), (8, .long u4), (10, .int nv), (11, .int (R_fs g n a (q + 1) cv t).1), (12, .int (kv + Int32.ofInt 1))] [] (R_fs g n a (q + 1) cv t).2 Q) :
    jx_fj th (rf_g m) (rf σ0 m) (d + 14) 216 103 [(0, .ref 0), (1, .int cv), (2, .long u1), (4, .long u2), (6, .long u3), (8, .long u4), (10, .int nv), (11, .int t), (12, .int kv), (13, .long w)] [] f Q := by
  obtain ⟨z6, h30, ⟨V0, M0⟩, key, -⟩ := hV.o1 (by omega) (by omega) h26 hz hg
  have og : ∀ u j, ¬ (u = 29 ∧ j = 600 * (q + 1) + z) → ¬ (u = 30 ∧ j = q + 1) → u ≠ 67 → g.1 u j = f.1 u j := fun u j z1 z2 z3 => by rw [hg]; exact o1_o hz z1 z2 z3
  have g26 : g.1 26 (q + 1) = 2 := by rw [og 26 _ (by omega) (by omega) (by omega)]; exact h26
  have g34 : (g.1 34 0).toInt = (h : Int) := by rw [og 34 0 (by omega) (by omega) (by omega)]; exact h34
  have gRO : RO g := hRO.eq (fun u j hu => og u j (by omega) (by omega) (by omega))
  have g67 : (g.1 67 0).toInt = ((600 * (q + 1) : Nat) : Int) := by
    rw [hg]
    unfold R_o1
    rw [rf_ui_eq, i32_ofNat (by omega)]
  have e6 : ((600 : Int32) * cv).toInt = ((600 * (q + 1) : Nat) : Int) := by rw [i32_mul (a := 600) (by decide) hcv (by omega) (by omega)]; omega
  have e6' : (600 : Int32) * cv = Int32.ofNat (600 * (q + 1)) := i32_eq e6 (by omega)
  have hix : ((600 : Int32) * cv + f.1 30 (q + 1)).toInt = ((600 * (q + 1) + z : Nat) : Int) := by rw [i32_add e6 hz (by omega) (by omega)]; omega
  have i9 : jx_in cv 9 := jx_in_nat hcv (show q + 1 < 9 by omega)
  obtain ⟨f1, hf1⟩ : ∃ f1, f1 = rf_ui f 29 (600 * (q + 1) + z) (R_oc w (Int32.ofNat k)) := ⟨_, rfl⟩
  have e29 : rf_ui f 29 (600 * (q + 1) + z) (vp_nar .byte (w >>> ((56 - 8 * (kv - kv / 8 * 8)).toInt64 &&& 63)).toInt32.toInt8.toInt32) = f1 := by
    rw [hf1, nar_b, oc_eq hk hk2]
  have f130 : f1.1 30 (q + 1) = f.1 30 (q + 1) := by rw [hf1, rf_ui_ne (by omega)]
  have eg : rf_ui (rf_ui f1 30 (q + 1) (f1.1 30 (q + 1) + 1)) 67 0 (600 * cv) = g := by
    rw [hg, f130, e6', hf1]
    unfold R_o1 R_in
    rw [i32_nat hz]
  have D := r_fd_d (th := th) (σ0 := σ0) (m := m) (d := d) (u1 := u1) (u2 := u2) (u3 := u3) (u4 := u4) (nv := nv) (kv := kv) (t := t) (Q := Q) hq hcv V0
  have E := fun (W : Int32) (hb : ¬ R_brk g (q + 1)) (hW : 4 ≤ z + 1 → W = w3 (oct g (600 * (q + 1))) 1) => r_fd_w (th := th) (σ0 := σ0) (m := m) (d := d) (u1 := u1) (u2 := u2) (u3 := u3) (u4 := u4) (nv := nv) (kv := kv) (t := t) (Q := Q) hq hcv V0 h30 z6 gRO g26 g34 hh hb hW hL
  refine rf_at dt_216 90 [(208, [0, 1, 2, 4, 6, 8, 10, 11, 12]), (216, [0, 1, 2, 4, 6, 8, 10, 11, 12, 15])] dt_216_k (by decide +kernel) ?_
  intro C J hC hJ
  conv => whnf
  refine ⟨i9, ?_⟩
  conv => whnf
  rw [i32_nat hcv]
  refine ⟨jx_in_nat hix (show 600 * (q + 1) + z < 5400 by omega), ?_⟩
  rw [i32_nat hix]
  conv => whnf
  rw [e29]
  refine ⟨i9, ?_⟩
  conv => whnf
  refine ⟨i9, ?_⟩
  conv => whnf
  rw [i32_nat hcv, eg]
  refine ⟨i9, ?_⟩
  conv => whnf
  refine ⟨fun (c1 : 4 ≤ g.1 30 (q + 1)) => ?_, fun (c1 : ¬ 4 ≤ g.1 30 (q + 1)) => ?_⟩
  · conv => whnf
    refine hC _ _ _ _ (((r_number3 (d := d) (k := 1) g67 (by decide) (by omega)).up (by omega)).mp ?_)
    rintro r f' ⟨rfl, hf'⟩
    rw [hf']
    conv => whnf
    refine ⟨i9, ?_⟩
    conv => whnf
    rw [i32_nat hcv]
    refine ⟨fun (c2 : ¬ g.1 30 (q + 1) = 4) => ?_, fun (c2 : ¬ ¬ g.1 30 (q + 1) = 4) => ?_⟩
    · conv => whnf
      exact hJ _ _ _ _ (E _ (fun y => c2 y.1) (fun _ => rfl))
    · have c2 := Decidable.not_not.mp c2
      conv => whnf
      refine ⟨fun (c3 : w3 (oct g (600 * (q + 1))) 1 < 20) => ?_, fun (c3 : ¬ w3 (oct g (600 * (q + 1))) 1 < 20) => ?_⟩
      · conv => whnf
        exact hJ _ _ _ _ (D ⟨c2, Or.inl c3⟩ hL)
      · conv => whnf
        refine ⟨fun (c5 : 600 < w3 (oct g (600 * (q + 1))) 1) => ?_, fun (c5 : ¬ 600 < w3 (oct g (600 * (q + 1))) 1) => ?_⟩
        · conv => whnf
          exact hJ _ _ _ _ (D ⟨c2, Or.inr (Or.inl c5)⟩ hL)
        · have a3 : w3 (oct g (600 * (q + 1))) 1 - w3 (oct g (600 * (q + 1))) 1 / 4 * 4 = 0 ↔ w3 (oct g (600 * (q + 1))) 1 &&& 3 = 0 := by
            have b1 := c3
            have b2 := c5
            rw [Int32.lt_iff_toInt_lt, show (20 : Int32).toInt = 20 by decide] at b1
            rw [Int32.lt_iff_toInt_lt, show (600 : Int32).toInt = 600 by decide] at b2
            obtain ⟨u, hu⟩ : ∃ u : Nat, (w3 (oct g (600 * (q + 1))) 1).toInt = (u : Int) := ⟨(w3 (oct g (600 * (q + 1))) 1).toInt.toNat, by omega⟩
            rw [i32_z (i32_rem (c := 4) hu (by decide) (by omega)), ← and3 u (by omega), ← i32_eq hu (by omega)]
          conv => whnf
          refine ⟨fun (c6 : w3 (oct g (600 * (q + 1))) 1 - w3 (oct g (600 * (q + 1))) 1 / 4 * 4 = 0) => ?_, fun (c6 : ¬ w3 (oct g (600 * (q + 1))) 1 - w3 (oct g (600 * (q + 1))) 1 / 4 * 4 = 0) => ?_⟩
          · conv => whnf
            refine hJ _ _ _ _ (E _ (fun y => ?_) (fun _ => rfl))
            rcases y.2 with y | y | y
            · exact c3 y
            · exact c5 y
            · exact y (a3.mp c6)
          · conv => whnf
            exact hJ _ _ _ _ (D ⟨c2, Or.inr (Or.inr (fun y => c6 (a3.mpr y)))⟩ hL)
  · have c1' := c1
    rw [Int32.le_iff_toInt_le, h30, show (4 : Int32).toInt = 4 by decide] at c1'
    conv => whnf
    refine ⟨i9, ?_⟩
    conv => whnf
    rw [i32_nat hcv]
    refine ⟨fun (c2 : ¬ g.1 30 (q + 1) = 4) => ?_, fun (c2 : ¬ ¬ g.1 30 (q + 1) = 4) => ?_⟩
    · conv => whnf
      exact hJ _ _ _ _ (E _ (fun y => c2 y.1) (fun y => by omega))
    · have c2 := Decidable.not_not.mp c2
      rw [c2, show (4 : Int32).toInt = 4 by decide] at h30
      omega
end JxReffeed
