/-! THE CLASS reads the attributes -/
def RA (th : Nat → Nat) (X R L : Nat) (o : Nat → Int32) (k d D : Nat) : Prop := ∀ (p e s : Nat) (σ : jx_S), MB σ X R L o 0 0 0 (Int32.ofNat s) → e ≤ L → p ≤ 1000 → p ≠ 0 → s ≤ 1000 → e - p < k → jc th D 86 [.ref X, .int (Int32.ofNat p), .int (Int32.ofNat e), .int (Int32.ofNat d)] σ (fun r σ' => r = none ∧ RS X R L o σ (scs o k d p e s) σ')
section JxMsgread
variable {th : Nat → Nat} {d dd X R L k n p s D : Nat} {σ σ' σ2 : jx_S} {o h : Nat → Int32} {w z c kv x y : Int32} {Q : Option Value → jx_S → Prop} {e : Nat} {ev : Int32}
theorem RS.flt {x : Int32 × Int32} (hM : MB σ' X R L o x.1 1 x.2 (Int32.ofNat s)) (h1 : ∀ q, q ≠ X → σ'.1 q = σ.1 q) (h2 : σ'.2 = σ.2) : RS X R L o σ (some x, s) σ' := ⟨⟨_, _, _, Or.inr ⟨x, rfl, rfl, rfl, rfl⟩, hM⟩, h1, h2⟩
theorem RS.non (hM : MB σ' X R L o 0 0 0 (Int32.ofNat s)) (h1 : ∀ q, q ≠ X → σ'.1 q = σ.1 q) (h2 : σ'.2 = σ.2) : RS X R L o σ (none, s) σ' := ⟨⟨_, _, _, Or.inl ⟨rfl, rfl, rfl, rfl⟩, hM⟩, h1, h2⟩
theorem knd_5 : knd o p ≤ 5 := by
  unfold knd kdc
  repeat' split
  all_goals omega
set_option maxHeartbeats 4000000 in
theorem k_rone (hIH : d < 3 → RA th X R L o k (d + 1) (dd + 1)) (hM : MB σ X R L o 0 0 0 (Int32.ofNat s)) (he : e ≤ L) (hp : p < e) (hp0 : p ≠ 0) (hs : s ≤ 1000) (hd : d ≤ 3) (hk : e - p < k + 1) : jc th (dd + 2) 87 [.ref X, .int (Int32.ofNat p), .int (Int32.ofNat e), .int (Int32.ofNat d)] σ (fun r σ' => r = none ∧ RS X R L o σ (one o k d p e s) σ') := by
  have hL := hM.2.1
  have hpi : (Int32.ofNat p).toInt = (p : Int) := i32_ofNat (by omega)
  have hei : (Int32.ofNat e).toInt = (e : Int) := i32_ofNat (by omega)
  have esub : Int32.ofNat e - Int32.ofNat p = Int32.ofNat (e - p) := i32_eq (by rw [i32_sub hei hpi (by omega) (by omega)]; omega) (by omega)
  have hsz := sz_lt (o := o) (k := p)
  have h4i : (Int32.ofNat p + Int32.ofInt 4).toInt = ((p + 4 : Nat) : Int) := i32_k1 (j := 4) hpi (by decide) (by omega)
  obtain ⟨r0, hr0⟩ : ∃ r0, r0 = one o k d p e s := ⟨_, rfl⟩
  rw [← hr0]
  have e1 : e < p + 8 → r0 = (some (5014, 0), s) := fun z => by
    rw [hr0]; unfold one ck1; rw [if_pos z]
  refine cl_go dt_87 60 [(17, [0, 1, 2, 3])] dt_87_k rfl ?_
  intro C J hC hJ
  conv => whnf
  rw [show (fun x y : Int32 => x - y) (Int32.ofNat e) (Int32.ofNat p) = Int32.ofNat (e - p) from esub]
  refine ⟨fun (h1 : Int32.ofNat 8 ≤ Int32.ofNat (e - p)) => ?_, fun (h1 : ¬ Int32.ofNat 8 ≤ Int32.ofNat (e - p)) => ?_⟩
  rotate_left
  · rw [nle (by omega) (by omega)] at h1
    rw [e1 (by omega)]
    conv => whnf
    refine ⟨jx_isC_of hM.1, hC _ _ _ _ (((k_nameWrong (d := 0) (x := 5014) (y := 0) hM).up (by omega)).mp ?_)⟩
    rintro r s1 ⟨rfl, m1, m2, m3⟩
    conv => whnf
    exact ⟨rfl, RS.flt (x := (5014, 0)) m1 m2 m3⟩
  rw [nle (by omega) (by omega)] at h1
  conv => whnf
  refine hJ _ _ _ _ ?_
  clear hJ hC
  have n1 : ¬ e < p + 8 := by omega
  have e2 : sz o p < (if ob o (p + 4) &&& 128 = 0 then 8 else 12) ∨ e < p + sz o p → r0 = (some (5014, w4 o p), s) := fun z => by
    rw [hr0]; unfold one ck1; rw [if_neg n1, if_pos z]
  have t96 : ¬ (sz o p < (if ob o (p + 4) &&& 128 = 0 then 8 else 12) ∨ e < p + sz o p) → ∀ mv : Int32, mv = (if ob o (p + 4) &&& 128 = 0 then 0 else 1) → cl_fj th (dd + 1) 87 96 [(0, .ref X), (1, .int (Int32.ofNat p)), (2, .int (Int32.ofNat e)), (3, .int (Int32.ofNat d)), (4, .int (w4 o p)), (5, .int (ob o (p + 4))), (6, .int (Int32.ofNat (sz o p))), (7, .int mv)] [] σ (fun r σ' => r = none ∧ RS X R L o σ r0 σ') := by
    intro n2 mv hmv
    have h8 : 8 ≤ sz o p ∧ p + sz o p ≤ e := by
      by_cases z : ob o (p + 4) &&& 128 = 0
      · rw [if_pos z] at n2; omega
      · rw [if_neg z] at n2; omega
    have e3 : ¬ ob o (p + 4) &&& 31 = 0 → r0 = (some (3009, w4 o p), s) := fun z => by
      rw [hr0]; unfold one ck1; rw [if_neg n1, if_neg n2, if_pos z]
    have t131 : ob o (p + 4) &&& 31 = 0 → cl_fj th (dd + 1) 87 131 [(0, .ref X), (1, .int (Int32.ofNat p)), (2, .int (Int32.ofNat e)), (3, .int (Int32.ofNat d)), (4, .int (w4 o p)), (5, .int (ob o (p + 4))), (6, .int (Int32.ofNat (sz o p))), (8, .int (Int32.ofNat (knd o p)))] [] σ (fun r σ' => r = none ∧ RS X R L o σ r0 σ') := by
      intro z3
      have n3 : ¬ ¬ ob o (p + 4) &&& 31 = 0 := fun w => w z3
      have k5 := knd_5 (o := o) (p := p)
      have t178 : knd o p ≠ 0 → (okz (knd o p) (sz o p - 8) = false ∨ (knd o p = 5 ∧ d = 3)) → cl_fj th (dd + 1) 87 178 [(0, .ref X), (4, .int (w4 o p))] [] σ (fun r σ' => r = none ∧ RS X R L o σ r0 σ') := by
        intro k0 zz
        have e5 : r0 = (some (5014, w4 o p), s) := by
          rw [hr0]; unfold one ck1; rw [if_neg n1, if_neg n2, if_neg n3, if_neg k0, if_pos zz]
        rw [e5]
        refine cl_at dt_87 60 [] dt_87_k ?_
        intro C J hC hJ
        conv => whnf
        refine ⟨jx_isC_of hM.1, hC _ _ _ _ (((k_nameWrong (d := 0) (x := 5014) (y := w4 o p) hM).up (by omega)).mp ?_)⟩
        rintro r s1 ⟨rfl, m1, m2, m3⟩
        conv => whnf
        exact ⟨rfl, RS.flt (x := (5014, w4 o p)) m1 m2 m3⟩
      have t190 : knd o p ≠ 0 → ¬ (okz (knd o p) (sz o p - 8) = false ∨ (knd o p = 5 ∧ d = 3)) → cl_fj th (dd + 1) 87 190 [(0, .ref X), (1, .int (Int32.ofNat p)), (3, .int (Int32.ofNat d)), (4, .int (w4 o p)), (6, .int (Int32.ofNat (sz o p))), (8, .int (Int32.ofNat (knd o p)))] [] σ (fun r σ' => r = none ∧ RS X R L o σ r0 σ') := by
        intro k0 zz
        have hck : ck1 o d p e = none := by unfold ck1; rw [if_neg n1, if_neg n2, if_neg n3, if_neg k0, if_neg zz]
        refine cl_at dt_87 60 [] dt_87_k ?_
        intro C J hC hJ
        conv => whnf
        refine ⟨fun (h5 : ¬ Int32.ofNat (knd o p) = Int32.ofNat 5) => ?_, fun (h5 : ¬ ¬ Int32.ofNat (knd o p) = Int32.ofNat 5) => ?_⟩
        · have n5 : ¬ knd o p = 5 := fun z => h5 (by rw [z])
          have eo : r0 = (none, if knd o p ≠ 0 ∧ w4 o p = 263 ∧ d = 0 ∧ s = 0 then p else s) := by rw [hr0]; unfold one; rw [hck]; exact if_neg n5
          rw [eo]
          conv => whnf
          refine ⟨fun (h6 : ¬ w4 o p = 263) => ?_, fun (h6 : ¬ ¬ w4 o p = 263) => ?_⟩
          · conv => whnf
            rw [if_neg (fun w => h6 w.2.1)]
            exact ⟨rfl, RS.non hM (fun _ _ => rfl) rfl⟩
          have h6 := Decidable.not_not.mp h6
          conv => whnf
          refine ⟨fun (h7 : ¬ Int32.ofNat d = 0) => ?_, fun (h7 : ¬ ¬ Int32.ofNat d = 0) => ?_⟩
          · conv => whnf
            rw [if_neg (fun w => h7 (by rw [w.2.2.1]; rfl))]
            exact ⟨rfl, RS.non hM (fun _ _ => rfl) rfl⟩
          have h7 : d = 0 := ofN_inj (y := 0) (by omega) (by omega) (Decidable.not_not.mp h7)
          conv => whnf
          refine ⟨_, jx_getF_of (hM.1) rfl, ?_⟩
          conv => whnf
          refine ⟨fun (h8 : ¬ Int32.ofNat s = 0) => ?_, fun (h8 : ¬ ¬ Int32.ofNat s = 0) => ?_⟩
          · conv => whnf
            rw [if_neg (fun w => h8 (by rw [w.2.2.2]; rfl))]
            exact ⟨rfl, RS.non hM (fun _ _ => rfl) rfl⟩
          have h8 : s = 0 := ofN_inj (y := 0) (by omega) (by omega) (Decidable.not_not.mp h8)
          conv => whnf
          obtain ⟨hX, _, hXR, hh, hR, hj⟩ := hM
          refine putK hX rfl (fit_i _) (fun s1 p1 o1 n1 => ?_)
          conv => whnf
          rw [if_pos ⟨k0, h6, h7, h8⟩]
          exact ⟨rfl, RS.non ⟨p1, hL, hXR, hh, by rw [o1 R (fun z => hXR z.symm)]; exact hR, hj⟩ o1 n1⟩
        · have h5 : knd o p = 5 := ofN_inj (by omega) (by omega) (Decidable.not_not.mp h5)
          have d3 : d < 3 := by
            have : ¬ d = 3 := fun w => zz (Or.inr ⟨h5, w⟩)
            omega
          have eo : r0 = scs o k (d + 1) (p + 8) (p + sz o p) s := by rw [hr0]; unfold one; rw [hck]; exact if_pos h5
          conv => whnf
          have ea : Int32.ofNat p + Int32.ofInt 8 = Int32.ofNat (p + 8) := nadd rfl (by omega)
          have eb : Int32.ofNat p + Int32.ofNat (sz o p) = Int32.ofNat (p + sz o p) := nadd rfl (by omega)
          have ec : Int32.ofNat d + Int32.ofInt 1 = Int32.ofNat (d + 1) := nadd rfl (by omega)
          have IH := hIH d3 (p + 8) (p + sz o p) s σ hM (by omega) (by omega) (by omega) hs (by omega)
          rw [← ea, ← eb, ← ec] at IH
          refine ⟨jx_isC_of hM.1, hC _ _ _ _ ((IH.up (by omega)).mp ?_)⟩
          rintro r s1 ⟨rfl, hrs⟩
          conv => whnf
          rw [eo]
          exact ⟨rfl, hrs⟩
      refine cl_at dt_87 60 [(178, [0, 4]), (190, [0, 1, 3, 4, 6, 8])] dt_87_k ?_
      intro C J hC hJ
      conv => whnf
      refine ⟨fun (h0 : ¬ Int32.ofNat (knd o p) = 0) => ?_, fun (h0 : ¬ ¬ Int32.ofNat (knd o p) = 0) => ?_⟩
      · have k0 : knd o p ≠ 0 := fun z => h0 (by rw [z]; rfl)
        conv => whnf
        have ed : Int32.ofNat (sz o p) - Int32.ofInt 8 = Int32.ofNat (sz o p - 8) := i32_eq (by rw [i32_sub (i32_ofNat (by omega)) (by decide : (Int32.ofInt 8).toInt = 8) (by omega) (by omega)]; omega) (by omega)
        have kf := k_fits (th := th) (d := dd) (σ := σ) (s := knd o p) (n := sz o p - 8) k5 (by omega)
        rw [← ed] at kf
        refine hC _ _ _ _ (kf.mp ?_)
        rintro r s1 ⟨rfl, hs1⟩
        rw [hs1]
        conv => whnf
        cases ho : okz (knd o p) (sz o p - 8) with
        | false =>
          refine jx_yes (show (if false = true then (1 : Int32) else 0) = 0 by decide) ?_
          conv => whnf
          exact hJ _ _ _ _ (t178 k0 (Or.inl ho))
        | true =>
          refine jx_no (show ¬ (if true = true then (1 : Int32) else 0) = 0 by decide) ?_
          conv => whnf
          refine ⟨fun (h5 : ¬ Int32.ofNat (knd o p) = Int32.ofNat 5) => ?_, fun (h5 : ¬ ¬ Int32.ofNat (knd o p) = Int32.ofNat 5) => ?_⟩
          · have n5 : ¬ knd o p = 5 := fun z => h5 (by rw [z])
            conv => whnf
            exact hJ _ _ _ _ (t190 k0 (fun w => by rcases w with w | w; rw [ho] at w; cases w; exact n5 w.1))
          · have h5 : knd o p = 5 := ofN_inj (by omega) (by omega) (Decidable.not_not.mp h5)
            conv => whnf
            refine ⟨fun (h6 : Int32.ofNat d < Int32.ofNat 3) => ?_, fun (h6 : ¬ Int32.ofNat d < Int32.ofNat 3) => ?_⟩
            · rw [nlt (by omega) (by omega)] at h6
              conv => whnf
              exact hJ _ _ _ _ (t190 k0 (fun w => by rcases w with w | w; rw [ho] at w; cases w; omega))
            · rw [nlt (by omega) (by omega)] at h6
              conv => whnf
              exact hJ _ _ _ _ (t178 k0 (Or.inr ⟨h5, by omega⟩))
      · have k0 : knd o p = 0 := ofN_inj (y := 0) (by omega) (by omega) (Decidable.not_not.mp h0)
        conv => whnf
        refine ⟨fun (h6 : ob o (p + 4) &&& 64 = 0) => ?_, fun (h6 : ¬ ob o (p + 4) &&& 64 = 0) => ?_⟩
        · have eo : r0 = (none, s) := by
            have hck : ck1 o d p e = none := by unfold ck1; rw [if_neg n1, if_neg n2, if_neg n3, if_pos k0, if_pos h6]
            rw [hr0]
            unfold one
            rw [hck]
            show (if _ then _ else _) = _
            rw [if_neg (by omega), if_neg (fun w => w.1 k0)]
          rw [eo]
          conv => whnf
          exact ⟨rfl, RS.non hM (fun _ _ => rfl) rfl⟩
        · have eo : r0 = (some (5001, w4 o p), s) := by
            have hck : ck1 o d p e = some (5001, w4 o p) := by unfold ck1; rw [if_neg n1, if_neg n2, if_neg n3, if_pos k0, if_neg h6]
            rw [hr0]
            unfold one
            rw [hck]
          rw [eo]
          conv => whnf
          refine ⟨jx_isC_of hM.1, hC _ _ _ _ (((k_nameWrong (d := 0) (x := 5001) (y := w4 o p) hM).up (by omega)).mp ?_)⟩
          rintro r s1 ⟨rfl, m1, m2, m3⟩
          conv => whnf
          exact ⟨rfl, RS.flt (x := (5001, w4 o p)) m1 m2 m3⟩
    refine cl_at dt_87 60 [(131, [0, 1, 2, 3, 4, 5, 6, 8])] dt_87_k ?_
    intro C J hC hJ
    conv => whnf
    refine ⟨fun (h3 : ob o (p + 4) &&& (-225) = 0) => ?_, fun (h3 : ¬ ob o (p + 4) &&& (-225) = 0) => ?_⟩
    · rw [fl_224] at h3
      conv => whnf
      by_cases zm : ob o (p + 4) &&& 128 = 0
      · rw [if_pos zm] at hmv
        subst hmv
        refine jx_yes (show (0 : Int32) = 0 from rfl) ?_
        conv => whnf
        refine hC _ _ _ _ ((k_kindOf (d := dd) (c := w4 o p)).mp ?_)
        rintro r s1 ⟨rfl, hs1⟩
        rw [hs1, show kdc (w4 o p) = knd o p by unfold knd; rw [if_pos zm]]
        conv => whnf
        exact hJ _ _ _ _ (t131 h3)
      · rw [if_neg zm] at hmv
        subst hmv
        refine jx_no (show ¬ (1 : Int32) = 0 by decide) ?_
        conv => whnf
        have := t131 h3
        rw [show knd o p = 0 by unfold knd; rw [if_neg zm]] at this
        exact hJ _ _ _ _ this
    · rw [fl_224] at h3
      rw [e3 h3]
      conv => whnf
      refine ⟨jx_isC_of hM.1, hC _ _ _ _ (((k_nameWrong (d := 0) (x := 3009) (y := w4 o p) hM).up (by omega)).mp ?_)⟩
      rintro r s1 ⟨rfl, m1, m2, m3⟩
      conv => whnf
      exact ⟨rfl, RS.flt (x := (3009, w4 o p)) m1 m2 m3⟩
  have t86 : (sz o p < (if ob o (p + 4) &&& 128 = 0 then 8 else 12) ∨ e < p + sz o p) → cl_fj th (dd + 1) 87 86 [(0, .ref X), (4, .int (w4 o p))] [] σ (fun r σ' => r = none ∧ RS X R L o σ r0 σ') := by
    intro zz
    rw [e2 zz]
    refine cl_at dt_87 60 [] dt_87_k ?_
    intro C J hC hJ
    conv => whnf
    refine ⟨jx_isC_of hM.1, hC _ _ _ _ (((k_nameWrong (d := 0) (x := 5014) (y := w4 o p) hM).up (by omega)).mp ?_)⟩
    rintro r s1 ⟨rfl, m1, m2, m3⟩
    conv => whnf
    exact ⟨rfl, RS.flt (x := (5014, w4 o p)) m1 m2 m3⟩
  have t61 : ∀ mv : Int32, mv = (if ob o (p + 4) &&& 128 = 0 then 0 else 1) → cl_fj th (dd + 1) 87 61 [(0, .ref X), (1, .int (Int32.ofNat p)), (2, .int (Int32.ofNat e)), (3, .int (Int32.ofNat d)), (4, .int (w4 o p)), (5, .int (ob o (p + 4))), (6, .int (Int32.ofNat (sz o p))), (7, .int mv)] [] σ (fun r σ' => r = none ∧ RS X R L o σ r0 σ') := by
    intro mv hmv
    have t75 : ∀ m : Nat, m = (if ob o (p + 4) &&& 128 = 0 then 8 else 12) → cl_fj th (dd + 1) 87 75 [(0, .ref X), (1, .int (Int32.ofNat p)), (2, .int (Int32.ofNat e)), (3, .int (Int32.ofNat d)), (4, .int (w4 o p)), (5, .int (ob o (p + 4))), (6, .int (Int32.ofNat (sz o p))), (7, .int mv)] [.int (Int32.ofNat m), .int (Int32.ofNat (sz o p))] σ (fun r σ' => r = none ∧ RS X R L o σ r0 σ') := by
      intro m hm
      have hm12 : m ≤ 12 := by rw [hm]; split <;> omega
      refine cl_at dt_87 60 [(86, [0, 4]), (96, [0, 1, 2, 3, 4, 5, 6, 7])] dt_87_k ?_
      intro C J hC hJ
      conv => whnf
      refine ⟨fun (h3 : Int32.ofNat (sz o p) < Int32.ofNat m) => ?_, fun (h3 : ¬ Int32.ofNat (sz o p) < Int32.ofNat m) => ?_⟩
      · rw [nlt (by omega) (by omega)] at h3
        conv => whnf
        exact hJ _ _ _ _ (t86 (Or.inl (by rw [← hm]; exact h3)))
      · rw [nlt (by omega) (by omega)] at h3
        conv => whnf
        rw [show (fun x y : Int32 => x - y) (Int32.ofNat e) (Int32.ofNat p) = Int32.ofNat (e - p) from esub]
        refine ⟨fun (h4 : Int32.ofNat (sz o p) ≤ Int32.ofNat (e - p)) => ?_, fun (h4 : ¬ Int32.ofNat (sz o p) ≤ Int32.ofNat (e - p)) => ?_⟩
        · rw [nle (by omega) (by omega)] at h4
          conv => whnf
          exact hJ _ _ _ _ (t96 (fun w => by rw [← hm] at w; omega) mv hmv)
        · rw [nle (by omega) (by omega)] at h4
          conv => whnf
          exact hJ _ _ _ _ (t86 (Or.inr (by omega)))
    refine cl_at dt_87 60 [(75, [0, 1, 2, 3, 4, 5, 6, 7])] dt_87_k ?_
    intro C J hC hJ
    conv => whnf
    by_cases zm : ob o (p + 4) &&& 128 = 0
    · rw [if_pos zm] at hmv
      refine jx_yes hmv ?_
      conv => whnf
      exact hJ _ _ _ _ (t75 8 (by rw [if_pos zm]))
    · rw [if_neg zm] at hmv
      refine jx_no (show ¬ mv = 0 by rw [hmv]; decide) ?_
      conv => whnf
      exact hJ _ _ _ _ (t75 12 (by rw [if_neg zm]))
  refine cl_at dt_87 60 [(61, [0, 1, 2, 3, 4, 5, 6, 7])] dt_87_k ?_
  intro C J hC hJ
  conv => whnf
  refine ⟨jx_isC_of hM.1, hC _ _ _ _ ((k_word (d := dd) (k := p) hM hpi (by omega)).mp ?_)⟩
  rintro r s1 ⟨rfl, hs1⟩
  rw [hs1]
  conv => whnf
  refine ⟨jx_isC_of hM.1, hC _ _ _ _ ((k_octet (d := dd) (k := p + 4) hM h4i (by omega)).mp ?_)⟩
  rintro r s2 ⟨rfl, hs2⟩
  rw [hs2]
  conv => whnf
  refine ⟨jx_isC_of hM.1, hC _ _ _ _ ((k_word (d := dd) (k := p + 4) hM h4i (by omega)).mp ?_)⟩
  rintro r s3 ⟨rfl, hs3⟩
  rw [hs3]
  conv => whnf
  rw [show (fun x y : Int32 => x &&& y) (w4 o (p + 4)) 16777215 = Int32.ofNat (sz o p) from w4_sz]
  refine ⟨fun (h4 : ob o (p + 4) &&& 128 = 0) => ?_, fun (h4 : ¬ ob o (p + 4) &&& 128 = 0) => ?_⟩
  · conv => whnf
    exact hJ _ _ _ _ (t61 0 (by rw [if_pos h4]))
  · conv => whnf
    exact hJ _ _ _ _ (t61 1 (by rw [if_neg h4]))
end JxMsgread
