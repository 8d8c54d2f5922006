/-! THE CLASS: what a CREDIT asks for is read -/
def c_typ (o : Nat → Int32) (L : Nat) : Int64 := (w4 o (fst o 416 (top o L) + 8)).toInt64 &&& 4294967295
def c_cnt (o : Nat → Int32) (L : Nat) : Int64 := (w4 o (fst o 415 (top o L) + 8)).toInt64 &&& 4294967295
def c_who (o : Nat → Int32) (L : Nat) : Int64 := (acc o (C_fin o L 443 444)).getD 0
def c_act (o : Nat → Int32) (L : Nat) : Int64 := if fst o 436 (top o L) = 0 then -1 else (w4 o (fst o 436 (top o L) + 8)).toInt64 &&& 4294967295
def c_un (o : Nat → Int32) (L : Nat) (x : Int32) (v : Int64) : Int64 := if C_fin o L x 421 = 0 then v else w8 o (C_fin o L x 421 + 8)
def c_inr (v : Int64) : Prop := 0 ≤ v.toInt ∧ v.toInt ≤ 1152921504606846976
def c_ur (o : Nat → Int32) (L : Nat) : Int32 := if (0 ≤ (c_un o L 437 0).toInt ∧ (c_un o L 437 0).toInt ≤ 1152921504606846976) ∧ 0 ≤ (c_un o L 446 0).toInt ∧ (c_un o L 446 0).toInt ≤ 1152921504606846976 then 1 else 0
def c_row (o : Nat → Int32) (L : Nat) (x : Int32) (j : Nat) : Int32 := o (fst o x (top o L) + 8 + j)
def c_len (o : Nat → Int32) (L : Nat) (x : Int32) : Nat := sz o (fst o x (top o L)) - 8
def CX (B : Nat) (σ : jx_S) (T : Nat → Nat) (X S H Z : Nat) (pe : Value) (t : Int32) (o : Nat → Int32) (L : Nat) (gr en : Int64) : Prop := dy B σ T X 7 ∧ σ.1 X = some (.inr (7, [.ref S, .ref H, .ref Z, pe, .int t, .long (c_typ o L), .long (c_cnt o L), .long (c_who o L), .long (c_act o L), .int (c_ur o L), .long (c_un o L 437 (-1)), .long (c_un o L 446 (-1)), .long gr, .long en])) ∧ ro_at B σ T S (c_len o L 263) (c_row o L 263) ∧ ro_at B σ T H (c_len o L 264) (c_row o L 264) ∧ ro_at B σ T Z (c_len o L 296) (c_row o L 296)
section JxNewcred
variable {th : Nat → Nat} {d B X R L : Nat} {σ σ' : jx_S} {T : Nat → Nat} {o : Nat → Int32} {w z c ev t : Int32} {pe : Value} {u : Int64} {v0 v1 v2 v3 v4 v5 v6 v7 v8 v9 v10 v11 v12 v13 : Value}
theorem MB.kp' {Y : Nat} (h : MB σ Y R L o w z c ev) (h1 : σ'.1 Y = σ.1 Y) (h2 : σ'.1 R = σ.1 R) : MB σ' Y R L o w z c ev := by
  obtain ⟨a1, a2, a3, hh, a4, a5⟩ := h
  exact ⟨h1.trans a1, a2, a3, hh, h2.trans a4, a5⟩
theorem k_isInRange : jc th (d + 1) 127 [.long u] σ (fun r σ' => ((r = some (.int 1) ∧ 0 ≤ u.toInt ∧ u.toInt ≤ 1152921504606846976) ∨ (r = some (.int 0) ∧ ¬ (0 ≤ u.toInt ∧ u.toInt ≤ 1152921504606846976))) ∧ σ' = σ) := by
  refine cl_go dt_127 20 [] dt_127_k rfl ?_
  intro C J hC hJ
  conv => whnf
  refine ⟨fun (h1 : lg_cmp u 0 < 0) => ?_, fun (h1 : ¬ lg_cmp u 0 < 0) => ?_⟩
  · conv => whnf
    refine ⟨by decide, Or.inr ⟨rfl, fun z => ?_⟩, rfl⟩
    have := lg_lt.mp h1
    have e0 : (0 : Int64).toInt = 0 := by decide
    omega
  · have g1 := lg_ge0 h1
    conv => whnf
    refine ⟨fun (h2 : 0 < lg_cmp u 1152921504606846976) => ?_, fun (h2 : ¬ 0 < lg_cmp u 1152921504606846976) => ?_⟩
    · conv => whnf
      refine ⟨by decide, Or.inr ⟨rfl, fun z => ?_⟩, rfl⟩
      have := lg_gt.mp h2
      have e0 : (1152921504606846976 : Int64).toInt = 1152921504606846976 := by decide
      omega
    · conv => whnf
      exact ⟨by decide, Or.inl ⟨rfl, g1, lg_leT h2⟩, rfl⟩
theorem c_ur1 (h : c_inr (c_un o L 437 0)) (h2 : c_inr (c_un o L 446 0)) : c_ur o L = 1 := if_pos ⟨h, h2⟩
theorem c_ur0 (h : ¬ (c_inr (c_un o L 437 0) ∧ c_inr (c_un o L 446 0))) : c_ur o L = 0 := if_neg h
theorem k_inRange : jc th (d + 1) 127 [.long u] σ (fun r σ' => ((r = some (.int 1) ∧ c_inr u) ∨ (r = some (.int 0) ∧ ¬ c_inr u)) ∧ σ' = σ) := k_isInRange
theorem k_unitsC {x : Int32} (hM : MB σ (B + 9) R L o w z c ev) (h16 : C_fin o L x 421 ≠ 0 → C_fin o L x 421 + 16 ≤ L) : jc th (d + 2) 126 [.ref (B + 9), .int (Int32.ofNat (C_fin o L x 421)), .long u] σ (fun r σ' => r = some (.long (c_un o L x u)) ∧ σ' = σ) := k_unitsAt (dd := d) (p := C_fin o L x 421) (av := u) hM h16
theorem k_findC {x y : Int32} (hM : MB σ (B + 9) R L o w z c ev) (hw : wf o 700 20 L) (hg : fst o x (top o L) ≠ 0 → wf o (sz o (fst o x (top o L))) (fst o x (top o L) + 8) (fst o x (top o L) + sz o (fst o x (top o L)))) : jc th (d + 3) 124 [.ref (B + 9), .int x, .int y] σ (fun r σ' => r = some (.int (Int32.ofNat (C_fin o L x y))) ∧ σ' = σ) := k_findIn (dd := d) hM hw hg
theorem k_nc_e {Q : Option Value → jx_S → Prop} {ur : Int32} (hX : σ.1 X = some (.inr (7, [v0, v1, v2, v3, v4, v5, v6, v7, v8, v9, v10, v11, v12, v13]))) (hu01 : ur = 0 ∨ ur = 1) (hQ : ∀ σ', σ'.1 X = some (.inr (7, [v0, v1, v2, v3, v4, v5, v6, v7, v8, .int ur, v10, v11, v12, v13])) → (∀ a, a ≠ X → σ'.1 a = σ.1 a) → σ'.2 = σ.2 → Q none σ') : cl_fj th (d + 5) 118 199 [] [.int ur, .ref X] σ Q := by
  refine cl_at dt_118 20 [] dt_118_k ?_
  intro C J hC' hJ
  conv => whnf
  refine putK hX rfl (fit_z hu01) (fun s26 p26 o26 n26 => ?_)
  conv => whnf
  exact hQ s26 p26 o26 n26
theorem k_nc_f {Q : Option Value → jx_S → Prop} (hM : MB σ (B + 9) R L o w z c ev) (hu : C_fin o L 446 421 ≠ 0 → C_fin o L 446 421 + 16 ≤ L) (h1 : c_inr (c_un o L 446 0) → cl_fj th (d + 5) 118 199 [] [.int 1, .ref X] σ Q) (h0 : ¬ c_inr (c_un o L 446 0) → cl_fj th (d + 5) 118 199 [] [.int 0, .ref X] σ Q) : cl_fj th (d + 5) 118 181 [(1, .ref (B + 9)), (5, .int (Int32.ofNat (C_fin o L 446 421)))] [.ref X] σ Q := by
  refine cl_at dt_118 60 [(199, [])] dt_118_k ?_
  intro C J hC' hJ
  conv => whnf
  refine ⟨jx_isC_of hM.1, hC' _ _ _ _ (((k_unitsC (d := d) (x := 446) (u := 0) hM hu).up (by omega)).mp ?_)⟩
  rintro r s29 ⟨rfl, hs29⟩
  rw [hs29]
  conv => whnf
  refine hC' _ _ _ _ (((k_inRange (d := d)).up (by omega)).mp ?_)
  rintro r s30 ⟨hr2, hs30⟩
  rw [hs30]
  rcases hr2 with ⟨rfl, hr2⟩ | ⟨rfl, hr2⟩
  · conv => whnf
    refine jx_no (show ¬ (1 : Int32) = 0 by decide) ?_
    conv => whnf
    exact hJ _ _ _ _ (h1 hr2)
  · conv => whnf
    refine jx_yes (show (0 : Int32) = 0 from rfl) ?_
    conv => whnf
    exact hJ _ _ _ _ (h0 hr2)
theorem k_nc_d {Q : Option Value → jx_S → Prop} (hM : MB σ (B + 9) R L o w z c ev) (hu : ∀ x, x = 437 ∨ x = 446 → C_fin o L x 421 ≠ 0 → C_fin o L x 421 + 16 ≤ L) (hX : σ.1 X = some (.inr (7, [v0, v1, v2, v3, v4, v5, v6, v7, v8, v9, v10, v11, v12, v13]))) (hQ : ∀ σ', σ'.1 X = some (.inr (7, [v0, v1, v2, v3, v4, v5, v6, v7, v8, .int (c_ur o L), v10, v11, v12, v13])) → (∀ a, a ≠ X → σ'.1 a = σ.1 a) → σ'.2 = σ.2 → Q none σ') : cl_fj th (d + 5) 118 167 [(0, .ref X), (1, .ref (B + 9)), (4, .int (Int32.ofNat (C_fin o L 437 421))), (5, .int (Int32.ofNat (C_fin o L 446 421)))] [] σ Q := by
  have f1 : c_ur o L = 1 → cl_fj th (d + 5) 118 199 [] [.int 1, .ref X] σ Q := fun e => k_nc_e hX (Or.inr rfl) (by rw [← e]; exact hQ)
  have f0 : c_ur o L = 0 → cl_fj th (d + 5) 118 199 [] [.int 0, .ref X] σ Q := fun e => k_nc_e hX (Or.inl rfl) (by rw [← e]; exact hQ)
  refine cl_at dt_118 60 [(181, [1, 5]), (199, [])] dt_118_k ?_
  intro C J hC' hJ
  conv => whnf
  refine ⟨jx_isC_of hM.1, hC' _ _ _ _ (((k_unitsC (d := d) (x := 437) (u := 0) hM (hu 437 (Or.inl rfl))).up (by omega)).mp ?_)⟩
  rintro r s27 ⟨rfl, hs27⟩
  rw [hs27]
  conv => whnf
  refine hC' _ _ _ _ (((k_inRange (d := d)).up (by omega)).mp ?_)
  rintro r s28 ⟨hr, hs28⟩
  rw [hs28]
  rcases hr with ⟨rfl, hr⟩ | ⟨rfl, hr⟩
  · conv => whnf
    refine jx_no (show ¬ (1 : Int32) = 0 by decide) ?_
    conv => whnf
    exact hJ _ _ _ _ (k_nc_f (d := d) hM (hu 446 (Or.inr rfl)) (fun y => f1 (c_ur1 hr y)) (fun y => f0 (c_ur0 (fun y' => y y'.2))))
  · conv => whnf
    refine jx_yes (show (0 : Int32) = 0 from rfl) ?_
    conv => whnf
    exact hJ _ _ _ _ (f0 (c_ur0 (fun y => hr y.1)))
theorem k_nc_c {Q : Option Value → jx_S → Prop} (hM : MB σ (B + 9) R L o w z c ev) (hw : wf o 700 20 L) (hgf : ∀ x, x = 443 ∨ x = 437 ∨ x = 446 → fst o x (top o L) ≠ 0 → wf o (sz o (fst o x (top o L))) (fst o x (top o L) + 8) (fst o x (top o L) + sz o (fst o x (top o L)))) (hu : ∀ x, x = 437 ∨ x = 446 → C_fin o L x 421 ≠ 0 → C_fin o L x 421 + 16 ≤ L) (hX : σ.1 X = some (.inr (7, [v0, v1, v2, v3, v4, v5, v6, v7, v8, v9, v10, v11, v12, v13]))) (hXM : X ≠ B + 9) (hXR : X ≠ R) (hQ : ∀ σ', σ'.1 X = some (.inr (7, [v0, v1, v2, v3, v4, v5, v6, v7, v8, .int (c_ur o L), .long (c_un o L 437 (-1)), .long (c_un o L 446 (-1)), v12, v13])) → (∀ a, a ≠ X → σ'.1 a = σ.1 a) → σ'.2 = σ.2 → Q none σ') : cl_fj th (d + 5) 118 117 [(0, .ref X), (1, .ref (B + 9))] [] σ Q := by
  refine cl_at dt_118 80 [(167, [0, 1, 4, 5])] dt_118_k ?_
  intro C J hC' hJ
  conv => whnf
  refine ⟨jx_isC_of hM.1, hC' _ _ _ _ (((k_findC (d := d) (x := 437) (y := 421) hM hw (hgf 437 (Or.inr (Or.inl rfl)))).up (by omega)).mp ?_)⟩
  rintro r s20 ⟨rfl, hs20⟩
  rw [hs20]
  conv => whnf
  refine ⟨jx_isC_of hM.1, hC' _ _ _ _ (((k_findC (d := d) (x := 446) (y := 421) hM hw (hgf 446 (Or.inr (Or.inr rfl)))).up (by omega)).mp ?_)⟩
  rintro r s21 ⟨rfl, hs21⟩
  rw [hs21]
  conv => whnf
  refine ⟨jx_isC_of hM.1, hC' _ _ _ _ (((k_unitsC (d := d) (x := 437) (u := -1) hM (hu 437 (Or.inl rfl))).up (by omega)).mp ?_)⟩
  rintro r s22 ⟨rfl, hs22⟩
  rw [hs22]
  conv => whnf
  refine putK hX rfl (fit_l _) (fun s23 p23 o23 n23 => ?_)
  conv => whnf
  have M23 := hM.kp' (o23 _ (fun y => hXM y.symm)) (o23 _ (fun y => hXR y.symm))
  refine ⟨jx_isC_of M23.1, hC' _ _ _ _ (((k_unitsC (d := d) (x := 446) (u := -1) M23 (hu 446 (Or.inr rfl))).up (by omega)).mp ?_)⟩
  rintro r s24 ⟨rfl, hs24⟩
  rw [hs24]
  conv => whnf
  refine putK p23 rfl (fit_l _) (fun s25 p25 o25 n25 => ?_)
  conv => whnf
  have M25 := M23.kp' (o25 _ (fun y => hXM y.symm)) (o25 _ (fun y => hXR y.symm))
  exact hJ _ _ _ _ (k_nc_d (d := d) M25 hu p25 (fun σ' q1 q2 q3 => hQ σ' q1 (fun a h => (q2 a h).trans ((o25 a h).trans (o23 a h))) (by rw [q3, n25, n23])))
theorem k_nc_b {Q : Option Value → jx_S → Prop} (hM : MB σ (B + 9) R L o w z c ev) (hw : wf o 700 20 L) (hgf : ∀ x, x = 443 ∨ x = 437 ∨ x = 446 → fst o x (top o L) ≠ 0 → wf o (sz o (fst o x (top o L))) (fst o x (top o L) + 8) (fst o x (top o L) + sz o (fst o x (top o L)))) (hC : CRM o L) (hu : ∀ x, x = 437 ∨ x = 446 → C_fin o L x 421 ≠ 0 → C_fin o L x 421 + 16 ≤ L) (hwh : C_fin o L 443 444 ≠ 0 → C_fin o L 443 444 + 8 ≤ L ∧ 8 ≤ sz o (C_fin o L 443 444) ∧ C_fin o L 443 444 + sz o (C_fin o L 443 444) ≤ L) (hX : σ.1 X = some (.inr (7, [v0, v1, v2, v3, v4, v5, v6, v7, v8, v9, v10, v11, v12, v13]))) (hXM : X ≠ B + 9) (hXR : X ≠ R) (hQ : ∀ σ', σ'.1 X = some (.inr (7, [v0, v1, v2, v3, v4, .long (c_typ o L), .long (c_cnt o L), .long (c_who o L), .long (c_act o L), .int (c_ur o L), .long (c_un o L 437 (-1)), .long (c_un o L 446 (-1)), v12, v13])) → (∀ a, a ≠ X → σ'.1 a = σ.1 a) → σ'.2 = σ.2 → Q none σ') : cl_fj th (d + 5) 118 61 [(0, .ref X), (1, .ref (B + 9))] [] σ Q := by
  obtain ⟨c5, c5'⟩ := hC.2.1 416 (Or.inl rfl)
  obtain ⟨c6, c6'⟩ := hC.2.1 415 (Or.inr rfl)
  refine cl_at dt_118 80 [(117, [0, 1])] dt_118_k ?_
  intro C J hC' hJ
  conv => whnf
  refine ⟨jx_isC_of hM.1, hC' _ _ _ _ (((k_longOf (dd := d) (x := 416) (av := 0) hM hw (fun _ => c5')).up (by omega)).mp ?_)⟩
  rintro r s11 ⟨rfl, hs11⟩
  rw [hs11, if_neg c5]
  conv => whnf
  refine putK hX rfl (fit_l _) (fun s12 p12 o12 n12 => ?_)
  conv => whnf
  have M12 := hM.kp' (o12 _ (fun y => hXM y.symm)) (o12 _ (fun y => hXR y.symm))
  refine ⟨jx_isC_of M12.1, hC' _ _ _ _ (((k_longOf (dd := d) (x := 415) (av := 0) M12 hw (fun _ => c6')).up (by omega)).mp ?_)⟩
  rintro r s13 ⟨rfl, hs13⟩
  rw [hs13, if_neg c6]
  conv => whnf
  refine putK p12 rfl (fit_l _) (fun s14 p14 o14 n14 => ?_)
  conv => whnf
  have M14 := M12.kp' (o14 _ (fun y => hXM y.symm)) (o14 _ (fun y => hXR y.symm))
  refine ⟨jx_isC_of M14.1, hC' _ _ _ _ (((k_findC (d := d) (x := 443) (y := 444) M14 hw (hgf 443 (Or.inl rfl))).up (by omega)).mp ?_)⟩
  rintro r s15 ⟨rfl, hs15⟩
  rw [hs15]
  conv => whnf
  refine ⟨jx_isC_of M14.1, hC' _ _ _ _ (((k_accountAt (dd := d) (p := C_fin o L 443 444) M14 hwh).up (by omega)).mp ?_)⟩
  rintro r s16 ⟨rfl, hs16⟩
  rw [hs16]
  conv => whnf
  refine putK p14 rfl (fit_l _) (fun s17 p17 o17 n17 => ?_)
  conv => whnf
  have M17 := M14.kp' (o17 _ (fun y => hXM y.symm)) (o17 _ (fun y => hXR y.symm))
  refine ⟨jx_isC_of M17.1, hC' _ _ _ _ (((k_longOf (dd := d) (x := 436) (av := -1) M17 hw hC.2.2).up (by omega)).mp ?_)⟩
  rintro r s18 ⟨rfl, hs18⟩
  rw [hs18]
  conv => whnf
  refine putK p17 rfl (fit_l _) (fun s19 p19 o19 n19 => ?_)
  conv => whnf
  have M19 := M17.kp' (o19 _ (fun y => hXM y.symm)) (o19 _ (fun y => hXR y.symm))
  refine hJ _ _ _ _ (k_nc_c (d := d) M19 hw hgf hu p19 hXM hXR (fun σ' q1 q2 q3 => hQ σ' q1 (fun a h => (q2 a h).trans ((o19 a h).trans ((o17 a h).trans ((o14 a h).trans (o12 a h))))) (by rw [q3, n19, n17, n14, n12])))
theorem k_newCredit {pp : Nat} (hM : MB σ (B + 9) R L o w z c ev) (hbo : ∀ j, j < L → isb (o j)) (hw : wf o 700 20 L) (hgf : ∀ x, x = 443 ∨ x = 437 ∨ x = 446 → fst o x (top o L) ≠ 0 → wf o (sz o (fst o x (top o L))) (fst o x (top o L) + 8) (fst o x (top o L) + sz o (fst o x (top o L)))) (hC : CRM o L) (hu : ∀ x, x = 437 ∨ x = 446 → C_fin o L x 421 ≠ 0 → C_fin o L x 421 + 16 ≤ L) (hwh : C_fin o L 443 444 ≠ 0 → C_fin o L 443 444 + 8 ≤ L ∧ 8 ≤ sz o (C_fin o L 443 444) ∧ C_fin o L 443 444 + sz o (C_fin o L 443 444) ≤ L) (hX : σ.1 X = some (.inr (7, [v0, v1, v2, v3, v4, v5, v6, v7, v8, v9, v10, v11, v12, v13]))) (hd : dy B σ T X 7) (hXR : X ≠ R) (hRl : R < σ.2.1) (hB : B + 102 ≤ σ.2.1) : jc th (d + 6) 118 [.ref X, .ref (B + 9), .ref pp, .int t] σ (fun r σ' => r = none ∧ ∃ T', CX B σ' T' X σ.2.1 (σ.2.1 + 1) (σ.2.1 + 2) (.ref pp) t o L (-1) (-1) ∧ (∀ a, a < σ.2.1 → a ≠ X → σ'.1 a = σ.1 a) ∧ (∀ a, a < σ.2.1 → T' a = T a) ∧ σ'.2.1 = σ.2.1 + 3 ∧ σ'.2.2 ≤ σ.2.2 + 120) := by
  obtain ⟨d1, d2, d3⟩ := hd
  have hXM : X ≠ B + 9 := by omega
  obtain ⟨m1, m2, m3, m4, m5⟩ := hC.1 263 (Or.inl rfl)
  obtain ⟨g1, g2, g3, g4, g5⟩ := hC.1 264 (Or.inr (Or.inl rfl))
  obtain ⟨e1, e2, e3, e4, e5⟩ := hC.1 296 (Or.inr (Or.inr rfl))
  obtain ⟨N0, hN0⟩ : ∃ N0, N0 = σ.2.1 := ⟨_, rfl⟩
  rw [← hN0] at d2 hRl hB ⊢
  refine cl_go dt_118 120 [(61, [0, 1])] dt_118_k rfl ?_
  intro C J hC' hJ
  conv => whnf
  refine putK hX rfl (fit_l _) (fun s1 p1 o1 n1 => ?_)
  conv => whnf
  refine putK p1 rfl (fit_l _) (fun s2 p2 o2 n2 => ?_)
  conv => whnf
  refine putK p2 rfl (fit_o _ rfl) (fun s3 p3 o3 n3 => ?_)
  conv => whnf
  refine putK p3 rfl (fit_i _) (fun s4 p4 o4 n4 => ?_)
  conv => whnf
  have k4 : ∀ a, a ≠ X → s4.1 a = σ.1 a := fun a h => (o4 a h).trans ((o3 a h).trans ((o2 a h).trans (o1 a h)))
  have z4 : s4.2 = σ.2 := by rw [n4, n3, n2, n1]
  have M4 := hM.kp' (k4 _ (fun y => hXM y.symm)) (k4 _ (fun y => hXR y.symm))
  refine ⟨jx_isC_of M4.1, hC' _ _ _ _ (((k_textOf (dd := d) (x := 263) M4 hw (by rw [z4]; omega) rfl m1 m3).up (by omega)).mp ?_)⟩
  rintro r s5 ⟨rfl, ⟨r5, q5, w5⟩, o5, n5, l5⟩
  rw [z4, ← hN0] at q5 o5 n5 ⊢
  conv => whnf
  have X5 := (o5 X (by omega)).trans p4
  refine putK X5 rfl (fit_a _ rfl) (fun s6 p6 o6 n6 => ?_)
  conv => whnf
  have k6 : ∀ a, a ≠ X → a ≠ N0 → s6.1 a = σ.1 a := fun a h h' => (o6 a h).trans ((o5 a h').trans (k4 a h))
  have M6 := hM.kp' (k6 _ (fun y => hXM y.symm) (by omega)) (k6 _ (fun y => hXR y.symm) (by omega))
  have N6 : s6.2.1 = N0 + 1 := by rw [n6]; exact n5
  refine ⟨jx_isC_of M6.1, hC' _ _ _ _ (((k_textOf (dd := d) (x := 264) M6 hw (by rw [N6]; omega) rfl g1 g3).up (by omega)).mp ?_)⟩
  rintro r s7 ⟨rfl, ⟨r7, q7, w7⟩, o7, n7, l7⟩
  rw [N6] at q7 o7 n7 ⊢
  conv => whnf
  have X7 := (o7 X (by omega)).trans p6
  refine putK X7 rfl (fit_a _ rfl) (fun s8 p8 o8 n8 => ?_)
  conv => whnf
  have k8 : ∀ a, a ≠ X → a ≠ N0 → a ≠ N0 + 1 → s8.1 a = σ.1 a := fun a h h' h'' => (o8 a h).trans ((o7 a h'').trans (k6 a h h'))
  have M8 := hM.kp' (k8 _ (fun y => hXM y.symm) (by omega) (by omega)) (k8 _ (fun y => hXR y.symm) (by omega) (by omega))
  have N8 : s8.2.1 = N0 + 2 := by rw [n8]; exact n7
  refine ⟨jx_isC_of M8.1, hC' _ _ _ _ (((k_textOf (dd := d) (x := 296) M8 hw (by rw [N8]; omega) rfl e1 e3).up (by omega)).mp ?_)⟩
  rintro r s9 ⟨rfl, ⟨r9, q9, w9⟩, o9, n9, l9⟩
  rw [N8] at q9 o9 n9 ⊢
  conv => whnf
  have X9 := (o9 X (by omega)).trans p8
  refine putK X9 rfl (fit_a _ rfl) (fun s10 p10 o10 n10 => ?_)
  conv => whnf
  have k10 : ∀ a, a ≠ X → a ≠ N0 → a ≠ N0 + 1 → a ≠ N0 + 2 → s10.1 a = σ.1 a := fun a h h' h'' h3 => (o10 a h).trans ((o9 a h3).trans (k8 a h h' h''))
  have M10 := hM.kp' (k10 _ (fun y => hXM y.symm) (by omega) (by omega) (by omega)) (k10 _ (fun y => hXR y.symm) (by omega) (by omega) (by omega))
  have N10 : s10.2.1 = N0 + 3 := by rw [n10]; exact n9
  have S10 : s10.2.2 ≤ σ.2.2 + 120 := by
    have a4 : s4.2.2 = σ.2.2 := by rw [z4]
    have a6 : s6.2.2 = s5.2.2 := by rw [n6]
    have a8 : s8.2.2 = s7.2.2 := by rw [n8]
    have a10 : s10.2.2 = s9.2.2 := by rw [n10]
    omega
  have rw1 : s10.1 N0 = some (.inl (0, sz o (fst o 263 (top o L)) - 8, .inl r5)) := (o10 _ (by omega)).trans ((o9 _ (by omega)).trans ((o8 _ (by omega)).trans ((o7 _ (by omega)).trans ((o6 _ (by omega)).trans q5))))
  have rw2 : s10.1 (N0 + 1) = some (.inl (0, sz o (fst o 264 (top o L)) - 8, .inl r7)) := (o10 _ (by omega)).trans ((o9 _ (by omega)).trans ((o8 _ (by omega)).trans q7))
  have rw3 : s10.1 (N0 + 2) = some (.inl (0, sz o (fst o 296 (top o L)) - 8, .inl r9)) := (o10 _ (by omega)).trans q9
  refine hJ _ _ _ _ (k_nc_b (d := d) M10 hw hgf hC hu hwh p10 hXM hXR (fun s26 p26 k26 N26 => ?_))
  have T81 : ∀ a, a = N0 ∨ a = N0 + 1 ∨ a = N0 + 2 → (if N0 ≤ a ∧ a < N0 + 3 then 81 else T a) = 81 := fun a h => if_pos (by omega)
  have row : ∀ (a n : Nat) (rr oo : Nat → Int32), a = N0 ∨ a = N0 + 1 ∨ a = N0 + 2 → s10.1 a = some (.inl (0, n, .inl rr)) → (∀ j, j < n → rr j = oo j ∧ isb (rr j)) → ro_at B s26 (fun a => if N0 ≤ a ∧ a < N0 + 3 then 81 else T a) a n oo := by
    intro a n rr oo ha hr hj
    refine ⟨⟨by omega, by rw [N26, N10]; omega, T81 a ha⟩, rr, ?_, hj⟩
    rw [k26 a (by omega)]
    exact hr
  refine ⟨rfl, fun a => if N0 ≤ a ∧ a < N0 + 3 then 81 else T a, ⟨⟨d1, by rw [N26, N10]; omega, (if_neg (by omega)).trans d3⟩, p26, row N0 _ r5 _ (Or.inl rfl) rw1 (fun j hj => ?_), row (N0 + 1) _ r7 _ (Or.inr (Or.inl rfl)) rw2 (fun j hj => ?_), row (N0 + 2) _ r9 _ (Or.inr (Or.inr rfl)) rw3 (fun j hj => ?_)⟩, fun a h1 h2 => ?_, fun a h1 => if_neg (by omega), by rw [N26]; exact N10, by rw [N26]; exact S10⟩
  · have hj : j < sz o (fst o 263 (top o L)) - 8 := hj
    have e : r5 j = o (fst o 263 (top o L) + 8 + j) := w5 j hj
    exact ⟨e, by rw [e]; exact hbo _ (by omega)⟩
  · have hj : j < sz o (fst o 264 (top o L)) - 8 := hj
    have e : r7 j = o (fst o 264 (top o L) + 8 + j) := w7 j hj
    exact ⟨e, by rw [e]; exact hbo _ (by omega)⟩
  · have hj : j < sz o (fst o 296 (top o L)) - 8 := hj
    have e : r9 j = o (fst o 296 (top o L) + 8 + j) := w9 j hj
    exact ⟨e, by rw [e]; exact hbo _ (by omega)⟩
  · rw [k26 a h2]
    exact k10 a h2 (by omega) (by omega) (by omega)
theorem k_isRight {σ : jx_S} {S H Z : Nat} {gr en : Int64} (hX : CX B σ T X S H Z pe t o L gr en) : jc th (d + 1) 129 [.ref X] σ (fun r σ' => ((r = some (.int 1) ∧ (1 ≤ (c_typ o L).toInt ∧ (c_typ o L).toInt ≤ 4) ∧ ¬ c_ur o L = 0 ∧ (c_typ o L = 4 → 0 ≤ (c_act o L).toInt ∧ (c_act o L).toInt ≤ 2)) ∨ (r = some (.int 0) ∧ ¬ ((1 ≤ (c_typ o L).toInt ∧ (c_typ o L).toInt ≤ 4) ∧ ¬ c_ur o L = 0 ∧ (c_typ o L = 4 → 0 ≤ (c_act o L).toInt ∧ (c_act o L).toInt ≤ 2)))) ∧ σ' = σ) := by
  have hx := hX.2.1
  have i0 : (0 : Int64).toInt = 0 := by decide
  have i1 : (1 : Int64).toInt = 1 := by decide
  have i2 : (2 : Int64).toInt = 2 := by decide
  have i4 : (4 : Int64).toInt = 4 := by decide
  obtain ⟨ty, hty⟩ : ∃ ty, ty = c_typ o L := ⟨_, rfl⟩
  obtain ⟨ac, hac⟩ : ∃ ac, ac = c_act o L := ⟨_, rfl⟩
  obtain ⟨ur, hur⟩ : ∃ ur, ur = c_ur o L := ⟨_, rfl⟩
  rw [← hty, ← hac, ← hur] at hx ⊢
  have t25 : ∀ y : Int32, (y = 0 ↔ ¬ (1 ≤ ty.toInt ∧ ty.toInt ≤ 4)) → cl_fj th d 129 25 [(0, .ref X)] [.int y] σ (fun r σ' => ((r = some (.int 1) ∧ (1 ≤ ty.toInt ∧ ty.toInt ≤ 4) ∧ ¬ ur = 0 ∧ (ty = 4 → 0 ≤ ac.toInt ∧ ac.toInt ≤ 2)) ∨ (r = some (.int 0) ∧ ¬ ((1 ≤ ty.toInt ∧ ty.toInt ≤ 4) ∧ ¬ ur = 0 ∧ (ty = 4 → 0 ≤ ac.toInt ∧ ac.toInt ≤ 2)))) ∧ σ' = σ) := by
    intro y hy
    refine cl_at dt_129 60 [] dt_129_k ?_
    intro C J hC hJ
    conv => whnf
    refine ⟨fun (h1 : y = 0) => ?_, fun (h1 : ¬ y = 0) => ?_⟩
    · conv => whnf
      exact ⟨by decide, Or.inr ⟨rfl, fun w => hy.mp h1 w.1⟩, rfl⟩
    · have h1' : 1 ≤ ty.toInt ∧ ty.toInt ≤ 4 := Classical.byContradiction (fun w => h1 (hy.mpr w))
      conv => whnf
      refine ⟨_, jx_getF_of (hx) rfl, ?_⟩
      conv => whnf
      refine ⟨fun (h2 : ur = 0) => ?_, fun (h2 : ¬ ur = 0) => ?_⟩
      · conv => whnf
        exact ⟨by decide, Or.inr ⟨rfl, fun w => w.2.1 h2⟩, rfl⟩
      · conv => whnf
        refine ⟨_, jx_getF_of (hx) rfl, ?_⟩
        conv => whnf
        refine ⟨fun (h3 : ¬ lg_cmp ty 4 = 0) => ?_, fun (h3 : ¬ ¬ lg_cmp ty 4 = 0) => ?_⟩
        · conv => whnf
          exact ⟨by decide, Or.inl ⟨rfl, h1', h2, fun w => absurd (lg_cmp_z.mpr w) h3⟩, rfl⟩
        · have e4 := lg_cmp_z.mp (Decidable.not_not.mp h3)
          conv => whnf
          refine ⟨_, jx_getF_of (hx) rfl, ?_⟩
          conv => whnf
          refine ⟨fun (h4 : lg_cmp ac 0 < 0) => ?_, fun (h4 : ¬ lg_cmp ac 0 < 0) => ?_⟩
          · conv => whnf
            exact ⟨by decide, Or.inr ⟨rfl, fun w => by have := lg_lt.mp h4; have := (w.2.2 e4).1; omega⟩, rfl⟩
          · conv => whnf
            refine ⟨_, jx_getF_of (hx) rfl, ?_⟩
            conv => whnf
            refine ⟨fun (h5 : 0 < lg_cmp ac 2) => ?_, fun (h5 : ¬ 0 < lg_cmp ac 2) => ?_⟩
            · conv => whnf
              exact ⟨by decide, Or.inr ⟨rfl, fun w => by have := lg_gt.mp h5; have := (w.2.2 e4).2; omega⟩, rfl⟩
            · conv => whnf
              refine ⟨by decide, Or.inl ⟨rfl, h1', h2, fun _ => ⟨lg_ge0 h4, ?_⟩⟩, rfl⟩
              have := (show ¬ (2 : Int64).toInt < ac.toInt from fun w => h5 (lg_gt.mpr w))
              omega
  refine cl_go dt_129 60 [(25, [0])] dt_129_k rfl ?_
  intro C J hC hJ
  conv => whnf
  refine ⟨_, jx_getF_of (hx) rfl, ?_⟩
  conv => whnf
  refine ⟨fun (h1 : lg_cmp ty 1 < 0) => ?_, fun (h1 : ¬ lg_cmp ty 1 < 0) => ?_⟩
  · conv => whnf
    exact hJ _ _ _ _ (t25 0 ⟨fun _ w => by have := lg_lt.mp h1; omega, fun _ => rfl⟩)
  · conv => whnf
    refine ⟨_, jx_getF_of (hx) rfl, ?_⟩
    conv => whnf
    refine ⟨fun (h2 : 0 < lg_cmp ty 4) => ?_, fun (h2 : ¬ 0 < lg_cmp ty 4) => ?_⟩
    · conv => whnf
      exact hJ _ _ _ _ (t25 0 ⟨fun _ w => by have := lg_gt.mp h2; omega, fun _ => rfl⟩)
    · conv => whnf
      refine hJ _ _ _ _ (t25 1 ⟨fun w => absurd w (by decide), fun w => absurd ⟨?_, ?_⟩ w⟩)
      · have := (show ¬ ty.toInt < (1 : Int64).toInt from fun w => h1 (lg_lt.mpr w))
        omega
      · have := (show ¬ (4 : Int64).toInt < ty.toInt from fun w => h2 (lg_gt.mpr w))
        omega
end JxNewcred
