/-! A MESSAGE IN AN OPEN STATE: what it tells of its PEER -/
/-- it answers the WATCH that is awaited -/
def R_wat (f : jx_F) (p : Nat) : Bool := decide (¬ f.1 16 p = 0 ∧ (f.1 69 0 &&& 128 = 0 ∧ f.1 70 0 = 280 ∧ f.1 72 0 = f.1 21 p) ∧ f.1 74 0 = 0)
def R_w1 (f : jx_F) (p : Nat) : jx_F := if R_wat f p = true then rf_ui f 16 p 0 else f
/-- whether there is more to be done with it, and the state -/
def R_hm (f : jx_F) (p : Nat) : Bool × jx_F := if f.1 15 p = 4 then (if R_wat f p = true then (false, rf_ui (rf_ui (R_w1 f p) 19 p (f.1 19 p + 1)) 15 p (if f.1 19 p + 1 = 3 then 1 else 4)) else if ¬ f.1 69 0 &&& 128 = 0 ∧ (f.1 70 0 = 280 ∨ f.1 70 0 = 282) then (true, f) else (false, rf_ui f 2 0 (f.1 2 0 + 1))) else (!R_wat f p, rf_ui (rf_ui (R_w1 f p) 15 p 1) 17 p (f.1 1 0 + 30))
section JxHasmore
variable {th : Nat → Nat} {d B b n a R L bb q p : Nat} {xl : List Int32} {σ σ' : jx_S} {f f0 g : jx_F} {A : Nat → Nat → Nat} {G : Nat → Nat → Int32} {T : Nat → Nat} {o : Nat → Int32} {c w z ev cv : Int32}
theorem w1_o {u j : Nat} (h : ¬ (u = 16 ∧ j = p)) : (R_w1 f p).1 u j = f.1 u j := by
  unfold R_w1
  split
  · rw [rf_ui_ne h]
  · rfl
theorem k_setTimerF (hR : RelC th B b xl σ g A G T) (hp : (p : Int) < (g.1 7 0).toInt) : jc th (d + 1) 30 [.ref B, .ref (A 6 p)] σ (fun r σ' => r = none ∧ RelC th B b xl σ' (rf_ui g 17 p (g.1 1 0 + 30)) A G T ∧ (∀ u, u ≠ A 6 p → σ'.1 u = σ.1 u) ∧ σ'.2 = σ.2) := by
  obtain ⟨-, a2, -⟩ := hR.pe hp
  have hX := hR.X
  refine cl_go dt_30 40 [] dt_30_k rfl ?_
  intro C J hC hJ
  conv => whnf
  refine ⟨_, jx_getF_of (hX) rfl, ?_⟩
  conv => whnf
  refine putK a2 rfl (fit_i _) (fun s1 p1 o1 n1 => ?_)
  conv => whnf
  refine ⟨rfl, (hR.pe1 (σ' := s1) (f' := rf_ui g 17 p (g.1 1 0 + 30)) hp ?_ o1 n1 (ui_pe ⟨by omega, by omega⟩ (fun _ _ _ => rfl)) rfl (rf_ui_ne (by omega))).1, o1, n1⟩
  rw [p1]
  simp [cp_e, lim, rf_ui]
set_option maxHeartbeats 4000000 in
theorem k_hasMore (hW : RW th B b xl σ g A T) (hS : PS g n a) (hM : MR σ (B + 9) R L o) (hl : 20 ≤ L) (hL : LK o L bb f0 g) (hp : p < n) : jc th (d + 4) 107 [.ref B, .ref (A 6 p)] σ (fun r σ' => r = some (.int (if (R_hm g p).1 = true then 1 else 0)) ∧ RW th B b xl σ' (R_hm g p).2 A T ∧ MR σ' (B + 9) R L o ∧ kp B σ σ') := by
  obtain ⟨G, hR, hls⟩ := id hW
  have hX := hR.X
  have hn4 := hS.1.2.2.1
  have hp7 : (p : Int) < (g.1 7 0).toInt := by rw [hS.1.2.1]; omega
  unfold MR at hM ⊢
  obtain ⟨a1, a2, -, a4⟩ := hR.pe hp7
  have hA9 : A 6 p ≠ B + 9 := by have := a1.1; omega
  have hAB : A 6 p ≠ B := by have := a1.1; omega
  have hAR : A 6 p ≠ R := fun y => by
    obtain ⟨-, -, -, hh, hr, -⟩ := hM
    rw [← y, a2] at hr
    cases hr
  have hBR : B ≠ R := fun y => by
    obtain ⟨-, -, -, hh, hr, -⟩ := hM
    rw [← y, hX] at hr
    cases hr
  have h19 := (hS.2.2.2.2.1 p (by omega)).2
  have wz : R_wat g p = true ↔ (¬ g.1 16 p = 0 ∧ wr o L = 0 ∧ ob o 4 &&& 128 = 0 ∧ w3 o 5 = 280 ∧ w4 o 12 = g.1 21 p) := by
    unfold R_wat
    rw [decide_eq_true_iff, hL.h69, hL.h70, hL.h72, hL.wz]
    exact ⟨fun y => ⟨y.1, y.2.2, y.2.1⟩, fun y => ⟨y.1, y.2.2, y.2.1⟩⟩
  have t39 : ∀ (s1 : jx_S) (wv : Int32), wv = (if R_wat g p = true then 1 else 0) → RelC th B b xl s1 (R_w1 g p) A G T → (∀ u, u ≠ A 6 p → s1.1 u = σ.1 u) → s1.2 = σ.2 → cl_fj th (d + 3) 107 39 [(0, .ref B), (1, .ref (A 6 p)), (2, .int wv)] [] s1 (fun r σ' => r = some (.int (if (R_hm g p).1 = true then 1 else 0)) ∧ RW th B b xl σ' (R_hm g p).2 A T ∧ MB σ' (B + 9) R L o (wr o L) (nmb o L) (wcd o L) (Int32.ofNat (sat o L)) ∧ kp B σ σ') := by
    intro s1 wv hwv hR1 f1 f2
    have hp71 : (p : Int) < ((R_w1 g p).1 7 0).toInt := by rw [w1_o (by omega)]; exact hp7
    have b2 := (hR1.pe hp71).2.1
    have hX1 := hR1.X
    have hM1 := hM.same (f1 _ (fun y => hA9 y.symm)) (f1 _ (fun y => hAR y.symm))
    refine cl_at dt_107 60 [(138, [0])] dt_107_k ?_
    intro C J hC hJ
    conv => whnf
    refine ⟨_, jx_getF_of (b2) rfl, ?_⟩
    conv => whnf
    rw [w1_o (show ¬ (15 = 16 ∧ p = p) by omega)]
    refine ⟨fun (h4 : g.1 15 p = 4) => ?_, fun (h4 : ¬ g.1 15 p = 4) => ?_⟩
    · conv => whnf
      by_cases hwt : R_wat g p = true
      · rw [if_pos hwt] at hwv
        have eH : R_hm g p = (false, rf_ui (rf_ui (R_w1 g p) 19 p (g.1 19 p + 1)) 15 p (if g.1 19 p + 1 = 3 then 1 else 4)) := by unfold R_hm; rw [if_pos h4, if_pos hwt]
        rw [eH]
        have e19 : (R_w1 g p).1 19 p = g.1 19 p := w1_o (by omega)
        obtain ⟨nb, hnb, hnb2⟩ := h19 h4
        have e191 : (g.1 19 p + 1).toInt = ((nb + 1 : Nat) : Int) := i32_k1 (j := 1) hnb (by decide) (by omega)
        have e3 : (3 : Int32) ≤ g.1 19 p + 1 ↔ g.1 19 p + 1 = 3 := by
          rw [Int32.le_iff_toInt_le, e191, show (3 : Int32).toInt = 3 by decide]
          constructor
          · intro y
            exact i32_eq (n := 3) (by rw [e191]; omega) (by omega)
          · intro y
            rw [y, show (3 : Int32).toInt = 3 by decide] at e191
            omega
        refine jx_no (show ¬ wv = 0 by rw [hwv]; decide) ?_
        conv => whnf
        refine ⟨_, jx_getF_of (b2) rfl, ?_⟩
        conv => whnf
        refine putK b2 rfl (fit_i _) (fun s2 p2 o2 n2 => ?_)
        conv => whnf
        refine ⟨_, jx_getF_of (p2) rfl, ?_⟩
        conv => whnf
        rw [w1_o (show ¬ (19 = 16 ∧ p = p) by omega)]
        have fin : ∀ (x : Int32) (s3 : jx_S), s3.1 (A 6 p) = some (cp_e B (rf_ui (rf_ui (R_w1 g p) 19 p (g.1 19 p + 1)) 15 p x) A G p) → (∀ u, u ≠ A 6 p → s3.1 u = s2.1 u) → s3.2 = s2.2 → RW th B b xl s3 (rf_ui (rf_ui (R_w1 g p) 19 p (g.1 19 p + 1)) 15 p x) A T ∧ MB s3 (B + 9) R L o (wr o L) (nmb o L) (wcd o L) (Int32.ofNat (sat o L)) ∧ kp B σ s3 := fun x s3 y1 y2 y3 => by
          obtain ⟨z1, z2⟩ := hR1.pe1 (σ' := s3) (f' := rf_ui (rf_ui (R_w1 g p) 19 p (g.1 19 p + 1)) 15 p x) hp71 y1 (fun u hu => (y2 u hu).trans (o2 u hu)) (y3.trans n2) (ui_pe ⟨by omega, by omega⟩ (ui_pe ⟨by omega, by omega⟩ (fun _ _ _ => rfl))) rfl (by rw [rf_ui_ne (by omega), rf_ui_ne (by omega)])
          refine ⟨⟨G, z1, by rw [rf_ui_ne (by omega), rf_ui_ne (by omega), w1_o (by omega)]; exact hls⟩, hM1.same ((y2 _ (fun y => hA9 y.symm)).trans (o2 _ (fun y => hA9 y.symm))) ((y2 _ (fun y => hAR y.symm)).trans (o2 _ (fun y => hAR y.symm))), ?_⟩
          exact ⟨(y3.trans n2).trans f2, fun u u1 u2 => ((z2.2 u u1 u2).trans (f1 u (by have := a1.1; omega)))⟩
        refine ⟨fun (h5 : g.1 19 p + 1 < 3) => ?_, fun (h5 : ¬ g.1 19 p + 1 < 3) => ?_⟩
        · rw [if_neg (fun y => absurd (e3.mpr y) (Int32.not_le.mpr h5))]
          conv => whnf
          refine putK p2 rfl (fit_i _) (fun s3 p3 o3 n3 => ?_)
          conv => whnf
          exact ⟨by decide, rfl, fin 4 s3 (by rw [p3]; simp [cp_e, lim, rf_ui, e19]) o3 n3⟩
        · rw [if_pos (e3.mp (Int32.not_lt.mp h5))]
          conv => whnf
          refine putK p2 rfl (fit_i _) (fun s3 p3 o3 n3 => ?_)
          conv => whnf
          exact ⟨by decide, rfl, fin 1 s3 (by rw [p3]; simp [cp_e, lim, rf_ui, e19]) o3 n3⟩
      · rw [if_neg hwt] at hwv
        have eW : R_w1 g p = g := by unfold R_w1; rw [if_neg hwt]
        rw [eW] at hR1
        have hk1 : kp B σ s1 := ⟨f2, fun u u1 u2 => f1 u (by have := a1.1; omega)⟩
        have eH : R_hm g p = if ¬ g.1 69 0 &&& 128 = 0 ∧ (g.1 70 0 = 280 ∨ g.1 70 0 = 282) then (true, g) else (false, rf_ui g 2 0 (g.1 2 0 + 1)) := by unfold R_hm; rw [if_pos h4, if_neg hwt]
        rw [hL.h69, hL.h70] at eH
        have t138 : R_hm g p = (false, rf_ui g 2 0 (g.1 2 0 + 1)) → cl_fj th (d + 3) 107 138 [(0, .ref B)] [] s1 (fun r σ' => r = some (.int (if (R_hm g p).1 = true then 1 else 0)) ∧ RW th B b xl σ' (R_hm g p).2 A T ∧ MB σ' (B + 9) R L o (wr o L) (nmb o L) (wcd o L) (Int32.ofNat (sat o L)) ∧ kp B σ σ') := by
          intro eQ
          rw [eQ]
          refine cl_at dt_107 60 [] dt_107_k ?_
          intro C J hC hJ
          conv => whnf
          refine ⟨_, jx_getF_of (hR1.X) rfl, ?_⟩
          conv => whnf
          refine putK hR1.X rfl (fit_i _) (fun s2 p2 o2 n2 => ?_)
          conv => whnf
          obtain ⟨hW2, hk2⟩ := RW.pas hR1 hls p2 o2 n2
          exact ⟨by decide, rfl, hW2, hM1.same (o2 _ (by omega)) (o2 _ (fun y => hBR y.symm)), hk1.tr hk2⟩
        refine jx_yes (show wv = 0 from hwv) ?_
        conv => whnf
        refine ⟨_, jx_getF_of (hX1) rfl, ?_⟩
        conv => whnf
        refine ⟨jx_isC_of hM1.1, hC _ _ _ _ (((k_isReq (d := d) hM1 hl).up (by omega)).mp ?_)⟩
        rintro r s2 ⟨hr, hs2⟩
        rw [hs2]
        rcases hr with ⟨rfl, hr⟩ | ⟨rfl, hr⟩
        · rw [if_neg (fun y => y.1 hr)] at eH
          conv => whnf
          refine jx_yes (show (0 : Int32) = 0 from rfl) ?_
          conv => whnf
          exact hJ _ _ _ _ (t138 eH)
        · conv => whnf
          refine jx_no (show ¬ (1 : Int32) = 0 by decide) ?_
          conv => whnf
          refine ⟨_, jx_getF_of (hX1) rfl, ?_⟩
          conv => whnf
          refine ⟨jx_isC_of hM1.1, hC _ _ _ _ (((k_command (d := d) hM1 hl).up (by omega)).mp ?_)⟩
          rintro r s3 ⟨rfl, hs3⟩
          rw [hs3]
          have hgo : w3 o 5 = 280 ∨ w3 o 5 = 282 → some (Value.int 1) = some (.int (if (R_hm g p).1 = true then 1 else 0)) ∧ RW th B b xl s1 (R_hm g p).2 A T ∧ MB s1 (B + 9) R L o (wr o L) (nmb o L) (wcd o L) (Int32.ofNat (sat o L)) ∧ kp B σ s1 := fun y => by
            rw [if_pos ⟨hr, y⟩] at eH
            rw [eH]
            exact ⟨rfl, ⟨G, hR1, hls⟩, hM1, hk1⟩
          conv => whnf
          refine ⟨fun (h5 : w3 o 5 = 280) => ?_, fun (h5 : ¬ w3 o 5 = 280) => ?_⟩
          · conv => whnf
            exact ⟨by decide, hgo (Or.inl h5)⟩
          · conv => whnf
            refine ⟨_, jx_getF_of (hX1) rfl, ?_⟩
            conv => whnf
            refine ⟨jx_isC_of hM1.1, hC _ _ _ _ (((k_command (d := d) hM1 hl).up (by omega)).mp ?_)⟩
            rintro r s4 ⟨rfl, hs4⟩
            rw [hs4]
            conv => whnf
            refine ⟨fun (h6 : ¬ w3 o 5 = 282) => ?_, fun (h6 : ¬ ¬ w3 o 5 = 282) => ?_⟩
            · rw [if_neg (fun y => by rcases y.2 with y | y; exact h5 y; exact h6 y)] at eH
              conv => whnf
              exact hJ _ _ _ _ (t138 eH)
            · conv => whnf
              exact ⟨by decide, hgo (Or.inr (Decidable.not_not.mp h6))⟩
    · have eH : R_hm g p = (!R_wat g p, rf_ui (rf_ui (R_w1 g p) 15 p 1) 17 p (g.1 1 0 + 30)) := by unfold R_hm; rw [if_neg h4]
      rw [eH]
      conv => whnf
      refine putK b2 rfl (fit_i _) (fun s2 p2 o2 n2 => ?_)
      conv => whnf
      obtain ⟨hR2, hk2⟩ := hR1.pe1 (σ' := s2) (f' := rf_ui (R_w1 g p) 15 p 1) hp71 (by rw [p2]; simp [cp_e, lim, rf_ui]) o2 n2 (ui_pe ⟨by omega, by omega⟩ (fun _ _ _ => rfl)) rfl (rf_ui_ne (by omega))
      refine ⟨jx_isC_of hR2.X, hC _ _ _ _ (((k_setTimerF (d := d) hR2 (ui7 (by omega) hp71)).up (by omega)).mp ?_)⟩
      rintro r s3 ⟨rfl, hR3, o3, n3⟩
      have e10 : (rf_ui (R_w1 g p) 15 p 1).1 1 0 = g.1 1 0 := by rw [rf_ui_ne (by omega), w1_o (by omega)]
      rw [e10] at hR3
      have hM3 := hM1.same ((o3 _ (fun y => hA9 y.symm)).trans (o2 _ (fun y => hA9 y.symm))) ((o3 _ (fun y => hAR y.symm)).trans (o2 _ (fun y => hAR y.symm)))
      have hk3 : kp B σ s3 := ⟨(n3.trans n2).trans f2, fun u u1 u2 => by rw [o3 u (by have := a1.1; omega), o2 u (by have := a1.1; omega), f1 u (by have := a1.1; omega)]⟩
      have hW3 : RW th B b xl s3 (rf_ui (rf_ui (R_w1 g p) 15 p 1) 17 p (g.1 1 0 + 30)) A T := ⟨G, hR3, by rw [rf_ui_ne (by omega), rf_ui_ne (by omega), w1_o (by omega)]; exact hls⟩
      conv => whnf
      cases hwt : R_wat g p with
      | true =>
        rw [hwt] at hwv
        refine jx_yes (show ¬ wv = 0 by rw [hwv]; decide) ?_
        conv => whnf
        exact ⟨by decide, rfl, hW3, hM3, hk3⟩
      | false =>
        rw [hwt] at hwv
        refine jx_no (show ¬ ¬ wv = 0 by rw [hwv]; decide) ?_
        conv => whnf
        exact ⟨by decide, rfl, hW3, hM3, hk3⟩
  have t30 : ∀ wv : Int32, wv = (if R_wat g p = true then 1 else 0) → cl_fj th (d + 3) 107 30 [(0, .ref B), (1, .ref (A 6 p)), (2, .int wv)] [] σ (fun r σ' => r = some (.int (if (R_hm g p).1 = true then 1 else 0)) ∧ RW th B b xl σ' (R_hm g p).2 A T ∧ MB σ' (B + 9) R L o (wr o L) (nmb o L) (wcd o L) (Int32.ofNat (sat o L)) ∧ kp B σ σ') := by
    intro wv hwv
    refine cl_at dt_107 60 [(39, [0, 1, 2])] dt_107_k ?_
    intro C J hC hJ
    conv => whnf
    by_cases hwt : R_wat g p = true
    · have hv : wv = 1 := by rw [hwv, if_pos hwt]
      have eW : R_w1 g p = rf_ui g 16 p 0 := by unfold R_w1; rw [if_pos hwt]
      refine jx_no (show ¬ wv = 0 by rw [hv]; decide) ?_
      conv => whnf
      refine putK a2 rfl (fit_z (Or.inl rfl)) (fun s1 p1 o1 n1 => ?_)
      conv => whnf
      obtain ⟨hR1, hk1⟩ := hR.pe1 (σ' := s1) (f' := rf_ui g 16 p 0) hp7 (by rw [p1]; simp [cp_e, lim, rf_ui]) o1 n1 (ui_pe ⟨by omega, by omega⟩ (fun _ _ _ => rfl)) rfl (rf_ui_ne (by omega))
      exact hJ _ _ _ _ (t39 s1 wv hwv (by rw [eW]; exact hR1) o1 n1)
    · have hv : wv = 0 := by rw [hwv, if_neg hwt]
      have eW : R_w1 g p = g := by unfold R_w1; rw [if_neg hwt]
      refine jx_yes hv ?_
      conv => whnf
      exact hJ _ _ _ _ (t39 σ wv hwv (by rw [eW]; exact hR) (fun _ _ => rfl) rfl)
  refine cl_go dt_107 60 [(30, [0, 1, 2])] dt_107_k rfl ?_
  intro C J hC hJ
  conv => whnf
  refine ⟨_, jx_getF_of (a2) rfl, ?_⟩
  conv => whnf
  refine ⟨fun (h1 : g.1 16 p = 0) => ?_, fun (h1 : ¬ g.1 16 p = 0) => ?_⟩
  · conv => whnf
    exact hJ _ _ _ _ (t30 0 (by rw [if_neg (fun y => (wz.mp y).1 h1)]))
  · conv => whnf
    refine ⟨_, jx_getF_of (hX) rfl, ?_⟩
    conv => whnf
    refine ⟨_, jx_getF_of (a2) rfl, ?_⟩
    conv => whnf
    refine ⟨jx_isC_of hM.1, hC _ _ _ _ ((k_isAns (d := d) (x := 280) (hv := g.1 21 p) hM hl).mp ?_)⟩
    rintro r s1 ⟨hr, hs1⟩
    rw [hs1]
    rcases hr with ⟨rfl, hr⟩ | ⟨rfl, hr⟩
    · conv => whnf
      refine jx_no (show ¬ (1 : Int32) = 0 by decide) ?_
      conv => whnf
      exact hJ _ _ _ _ (t30 1 (by rw [if_pos (wz.mpr ⟨h1, hr⟩)]))
    · conv => whnf
      refine jx_yes (show (0 : Int32) = 0 from rfl) ?_
      conv => whnf
      exact hJ _ _ _ _ (t30 0 (by rw [if_neg (fun y => hr (wz.mp y).2)]))
end JxHasmore
