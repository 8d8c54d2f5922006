/-! THE CLASS: a message in an open state -/
noncomputable def R_oo (g : jx_F) (n a p : Nat) (cv : Int32) (Y : jx_F) : jx_F := if g.1 69 0 &&& 128 = 0 then R_ta g cv p a 0 else R_req g n a p cv Y
section JxOnopen
variable {th : Nat → Nat} {B b d n a n0 nk nA mm k h L bb p q : Nat} {xl : List Int32} {σ σ' : jx_S} {f f' f0 g F : jx_F} {A A' : Nat → Nat → Nat} {G : Nat → Nat → Int32} {T T' : Nat → Nat} {o : Nat → Int32} {c cv w z ev t pv res : Int32}
theorem rq_cmd (h0 : wr o L = 0) (hr : ¬ ob o 4 &&& 128 = 0) : w3 o 5 = 257 ∨ w3 o 5 = 280 ∨ w3 o 5 = 282 ∨ w3 o 5 = 272 := by
  have hd : hdw o = 0 := by
    unfold wr at h0
    by_cases e : hdw o = 0
    · exact e
    · rw [if_neg e] at h0; exact absurd h0 e
  unfold hdw at hd
  by_cases e1 : ob o 0 = 1
  · rw [if_pos e1, if_neg hr] at hd
    by_cases e2 : w3 o 5 = 257 ∨ w3 o 5 = 280 ∨ w3 o 5 = 282 ∨ w3 o 5 = 272
    · exact e2
    · rw [if_neg e2] at hd; exact absurd hd (by decide)
  · rw [if_neg e1] at hd; exact absurd hd (by decide)
theorem k_onOpen (hW : RW th B b xl σ g A T) (hS : PS g n a) (hM : MR σ (B + 9) (A 51 q) L o) (hl : 20 ≤ L) (hbo : ∀ j, j < L → isb (o j)) (hL : LK o L bb f0 g) (hb : bb ≤ 4800) (ho : o = oct f0 bb) (hq : q < 8) (hcv : cv.toInt = ((q + 1 : Nat) : Int)) (h26 : ¬ g.1 26 (q + 1) = 0) (hp : p < n) (hop : R_open (g.1 11 p)) (hcn : R_conn g p = cv) (h34 : (g.1 34 0).toInt = (h : Int)) (hh : h < 2147480000) (hMI : MI g) (hn0 : (g.1 59 0).toInt = (n0 : Int)) (hn320 : n0 ≤ 32) (hKT : KT g n0) (hnk : ((R_stale n0 g).1 59 0).toInt = (nk : Int)) (h35 : (g.1 35 0).toInt = (nA : Int)) (h40 : (g.1 40 0).toInt = (mm : Int)) : jc th (d + 10) 109 [.ref B, .ref (A 6 p), .ref (B + 14 + 3 * q)] σ (fun r σ' => r = none ∧ ∃ A' T', RW th B b xl σ' (R_oo g n a p cv (R_crd g nA mm n0 nk cv (Int32.ofNat p))) A' T' ∧ kpm B A A' 9 610 σ σ') := by
  obtain ⟨G, hR, hls⟩ := id hW
  have hn4 := hS.1.2.2.1
  have h7 := hS.1.2.1
  have hok := hS.1.1
  have hM' : MB σ (B + 9) (A 51 q) L o (wr o L) (nmb o L) (wcd o L) (Int32.ofNat (sat o L)) := hM
  obtain ⟨Y, hY⟩ : ∃ Y, Y = R_crd g nA mm n0 nk cv (Int32.ofNat p) := ⟨_, rfl⟩
  rw [← hY]
  have ka := fun res => k_answer (th := th) (d := d) (res := res) hW hok hM' hl hL hb ho hq hcv h26
  refine cl_go dt_109 90 [] dt_109_k rfl ?_
  intro C J hC hJ
  conv => whnf
  refine ⟨_, jx_getF_of (hR.X) rfl, ?_⟩
  conv => whnf
  refine ⟨jx_isC_of hM'.1, hC _ _ _ _ (((k_isReq (d := d) hM' hl).up (by omega)).mp ?_)⟩
  rintro r s1 ⟨hr, hs1⟩
  rw [hs1]
  unfold R_oo
  rcases hr with ⟨rfl, hr⟩ | ⟨rfl, hr⟩
  · rw [if_pos (by rw [hL.h69]; exact hr)]
    conv => whnf
    refine jx_no (show ¬ ¬ (0 : Int32) = 0 by decide) ?_
    conv => whnf
    refine ⟨jx_isC_of hR.X, hC _ _ _ _ (((k_onAskAnswer (d := d) hW hS hM hl hL hb ho hp hcn).up (by omega)).mp ?_)⟩
    rintro r s2 ⟨rfl, y1, y2⟩
    conv => whnf
    exact ⟨rfl, A, T, y1, kpm.of_kp y2⟩
  rw [if_neg (by rw [hL.h69]; exact hr)]
  have e74 := (hL.wq hr).1
  unfold R_req
  conv => whnf
  refine jx_yes (show ¬ (1 : Int32) = 0 by decide) ?_
  conv => whnf
  refine ⟨_, jx_getF_of (hR.X) rfl, ?_⟩
  conv => whnf
  refine ⟨_, jx_getF_of (hM'.1) rfl, ?_⟩
  conv => whnf
  refine ⟨fun (e : wr o L = 0) => ?_, fun (e : ¬ wr o L = 0) => ?_⟩
  rotate_left
  · have e' : 0 < wr o L := by rcases wr_in (o := o) (L := L) with y | y; exact absurd y e; exact y
    rw [if_pos (by rw [e74]; exact e')]
    conv => whnf
    refine ⟨_, jx_getF_of (hR.X) rfl, ?_⟩
    conv => whnf
    refine ⟨_, jx_getF_of (hM'.1) rfl, ?_⟩
    conv => whnf
    refine ⟨jx_isC_of hR.X, hC _ _ _ _ (((ka (wr o L)).up (by omega)).mp ?_)⟩
    rintro r s2 ⟨rfl, y1, y2⟩
    rw [ref_eq hL hr] at y1
    conv => whnf
    exact ⟨rfl, A, T, y1, kpm.of_kp y2⟩
  rw [if_neg (by rw [e74, e]; decide)]
  have hcmd := rq_cmd e hr
  have e70 := hL.h70
  rw [e70]
  have h0 : g.1 74 0 = 0 := by rw [e74]; exact e
  conv => whnf
  refine ⟨_, jx_getF_of (hR.X) rfl, ?_⟩
  conv => whnf
  refine ⟨jx_isC_of hM'.1, hC _ _ _ _ (((k_command (d := d) hM' hl).up (by omega)).mp ?_)⟩
  rintro r s2 ⟨rfl, hs2⟩
  rw [hs2]
  conv => whnf
  refine ⟨fun (c1 : ¬ w3 o 5 = 257) => ?_, fun (c1 : ¬ ¬ w3 o 5 = 257) => ?_⟩
  rotate_left
  · rw [if_pos (Decidable.not_not.mp c1)]
    conv => whnf
    refine ⟨jx_isC_of hR.X, hC _ _ _ _ (((ka 5012).up (by omega)).mp ?_)⟩
    rintro r s3 ⟨rfl, y1, y2⟩
    rw [ans_eq e] at y1
    conv => whnf
    exact ⟨rfl, A, T, y1, kpm.of_kp y2⟩
  rw [if_neg c1]
  conv => whnf
  refine ⟨_, jx_getF_of (hR.X) rfl, ?_⟩
  conv => whnf
  refine ⟨jx_isC_of hM'.1, hC _ _ _ _ (((k_command (d := d) hM' hl).up (by omega)).mp ?_)⟩
  rintro r s3 ⟨rfl, hs3⟩
  rw [hs3]
  conv => whnf
  refine ⟨fun (c2 : ¬ w3 o 5 = 280) => ?_, fun (c2 : ¬ ¬ w3 o 5 = 280) => ?_⟩
  rotate_left
  · rw [if_pos (Decidable.not_not.mp c2)]
    conv => whnf
    refine ⟨jx_isC_of hR.X, hC _ _ _ _ (((ka 2001).up (by omega)).mp ?_)⟩
    rintro r s4 ⟨rfl, y1, y2⟩
    rw [ans_eq e] at y1
    conv => whnf
    exact ⟨rfl, A, T, y1, kpm.of_kp y2⟩
  rw [if_neg c2]
  conv => whnf
  refine ⟨_, jx_getF_of (hR.X) rfl, ?_⟩
  conv => whnf
  refine ⟨jx_isC_of hM'.1, hC _ _ _ _ (((k_command (d := d) hM' hl).up (by omega)).mp ?_)⟩
  rintro r s4 ⟨rfl, hs4⟩
  rw [hs4]
  conv => whnf
  refine ⟨fun (c3 : ¬ w3 o 5 = 282) => ?_, fun (c3 : ¬ ¬ w3 o 5 = 282) => ?_⟩
  · have c4 : w3 o 5 = 272 := by
      rcases hcmd with y | y | y | y
      · exact absurd y c1
      · exact absurd y c2
      · exact absurd y c3
      · exact y
    rw [if_pos c4]
    conv => whnf
    refine ⟨jx_isC_of hR.X, hC _ _ _ _ ((k_onCredit (d := d) (n := nk) (pv := Int32.ofNat p) hW hM hl hbo hL hb ho h0 hr c4 hq hcv h26 hok hMI (by omega) (by omega) rfl hn0 hn320 hKT hnk h35 h40).mp ?_)⟩
    rintro r s5 ⟨rfl, y⟩
    conv => whnf
    rw [← hY] at y
    exact ⟨rfl, y⟩
  · have c3 := Decidable.not_not.mp c3
    rw [if_neg (by rw [c3]; decide)]
    conv => whnf
    refine ⟨jx_isC_of hR.X, hC _ _ _ _ (((ka 2001).up (by omega)).mp ?_)⟩
    rintro r s5 ⟨rfl, W5, k5⟩
    rw [ans_eq e] at W5
    obtain ⟨g1, hg1⟩ : ∃ g1, g1 = R_ansW g cv 2001 := ⟨_, rfl⟩
    rw [← hg1] at W5 ⊢
    have og1 : ∀ u j, u ≠ 65 → u ≠ 2 → u ≠ 31 → u ≠ 32 → u ≠ 66 → g1.1 u j = g.1 u j := fun u j z1 z2 z3 z4 z5 => by rw [hg1]; exact R_msg_o z1 z2 z3 z4 z5
    have lg1 : g1.2 = g.2 := by rw [hg1]; exact R_msg_l
    obtain ⟨G5, R5, l5⟩ := id W5
    have hp5 : (p : Int) < (g1.1 7 0).toInt := by rw [og1 7 0 (by omega) (by omega) (by omega) (by omega) (by omega), h7]; omega
    have a5 := (R5.pe hp5).2.1
    conv => whnf
    refine putK a5 rfl (fit_z (Or.inl rfl)) (fun s6 p6 o6 n6 => ?_)
    conv => whnf
    obtain ⟨g2, hg2⟩ : ∃ g2, g2 = rf_ui g1 22 p 0 := ⟨_, rfl⟩
    rw [← hg2]
    have og2 : ∀ u j, u ≠ 22 → g2.1 u j = g1.1 u j := fun u j z1 => by rw [hg2, rf_ui_ne (by omega)]
    have R6 : RelC th B b xl s6 g2 A G5 T := by
      refine R5.peer (p := p) hp5 (fun u hu => o6 u hu) n6 (fun u j z1 z2 z3 z4 => by rw [hg2, rf_ui_ne (by omega)]) (fun u j _ _ => by rw [hg2]; rfl) (fun _ _ _ => rfl) ?_ (fun y => absurd (by rw [hg2, rf_ui_eq]) y)
      rw [p6, hg2]
      simp [cp_e, lim, rf_ui]
    have W6 : RW th B b xl s6 g2 A T := ⟨G5, R6, by rw [og2 2 0 (by omega)]; exact l5⟩
    have og : ∀ u j, u ≠ 65 → u ≠ 2 → u ≠ 31 → u ≠ 32 → u ≠ 66 → u ≠ 22 → g2.1 u j = g.1 u j := fun u j z1 z2 z3 z4 z5 z6 => by rw [og2 u j z6, og1 u j z1 z2 z3 z4 z5]
    have lg2 : g2.2 = g.2 := by rw [hg2]; exact lg1
    have hgq := hS.gq h34 (by omega)
    refine ⟨jx_isC_of R6.X, hC _ _ _ _ (((k_leaveOpen (d := d) (s := 7) (a := a) (n := n) (p := p) W6 (by rw [og 49 0 (by omega) (by omega) (by omega) (by omega) (by omega) (by omega)]; exact hS.1.2.2.2.1) hS.1.2.2.2.2.1 (by rw [og 7 0 (by omega) (by omega) (by omega) (by omega) (by omega) (by omega)]; exact h7) hn4 hp (fun i i1 i2 => by rw [og 54 i (by omega) (by omega) (by omega) (by omega) (by omega) (by omega), og 55 i (by omega) (by omega) (by omega) (by omega) (by omega) (by omega), lg2]; exact hgq i i1 i2) (fun u _ u2 u3 => ?_)).up (by omega)).mp ?_)⟩
    · have e11 := og 11 u (by omega) (by omega) (by omega) (by omega) (by omega) (by omega)
      refine (hS.gl u2 ?_).of (fun v j hv => ?_)
      · have := u3.1
        rw [e11] at this
        exact this
      · simp only [List.mem_cons, List.not_mem_nil, or_false] at hv
        exact og v j (by omega) (by omega) (by omega) (by omega) (by omega) (by omega)
    · rintro r s7 ⟨rfl, W7, k7⟩
      conv => whnf
      rw [R_become_yn (fun y => by rcases y with y | y <;> exact absurd y (by decide)) (by rw [og 11 p (by omega) (by omega) (by omega) (by omega) (by omega) (by omega)]; exact hop)]
      refine ⟨rfl, A, T, W7, kpm.of_kp ((k5.tr ⟨n6, fun v z1 z2 => o6 v (fun y => ?_)⟩).tr k7)⟩
      have := (R5.pe hp5).1.1
      omega
end JxOnopen
