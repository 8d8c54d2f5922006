/-! THE CLASS: a CREDIT, together -/
section JxOncred4
variable {th : Nat → Nat} {B b d n n0 nA mm k X S H Z L bb p q : Nat} {xl : List Int32} {σ σ' : jx_S} {f f' f0 g F : jx_F} {A A' : Nat → Nat → Nat} {G : Nat → Nat → Int32} {T T' : Nat → Nat} {o : Nat → Int32} {c cv w z ev t pv res : Int32} {gr en : Int64} {Q : Option Value → jx_S → Prop}
theorem kpm.of_kp {n s : Nat} (h : kp B σ σ') : kpm B A A n s σ σ' := ⟨h.2, by rw [h.1]; exact Nat.le_refl _, by rw [h.1]; omega, by rw [h.1]; omega, fun _ _ _ => rfl⟩
theorem k_onCredit (hW : RW th B b xl σ g A T) (hM : MR σ (B + 9) (A 51 q) L o) (hl : 20 ≤ L) (hbo : ∀ j, j < L → isb (o j)) (hL : LK o L bb f0 g) (hb : bb ≤ 4800) (ho : o = oct f0 bb) (h0 : g.1 74 0 = 0) (hr : ¬ ob o 4 &&& 128 = 0) (hc : w3 o 5 = 272) (hq : q < 8) (hcv : cv.toInt = ((q + 1 : Nat) : Int)) (h26 : ¬ g.1 26 (q + 1) = 0) (hok : R_ok g) (hMI : MI g) (hp : (p : Int) < (g.1 7 0).toInt) (hp4 : p < 4) (hpv : pv = Int32.ofNat p) (hn0 : (g.1 59 0).toInt = (n0 : Int)) (hn320 : n0 ≤ 32) (hKT : KT g n0) (hn : ((R_stale n0 g).1 59 0).toInt = (n : Int)) (h35 : (g.1 35 0).toInt = (nA : Int)) (h40 : (g.1 40 0).toInt = (mm : Int)) : jc th (d + 9) 112 [.ref B, .ref (A 6 p), .ref (B + 14 + 3 * q)] σ (fun r σ' => r = none ∧ ∃ A' T', RW th B b xl σ' (R_crd g nA mm n0 n cv pv) A' T' ∧ kpm B A A' 9 610 σ σ') := by
  obtain ⟨G, hR, hls⟩ := id hW
  have hB := hR.1.2.2.2.2.1
  have hL6 := hM.2.1
  have hC := hL.crm h0 hb hL6 ho hr hc
  have hwf := top_in (hL.si h0).2.2.1
  obtain ⟨hce, hrw⟩ := hR.2.2.1 q hq
  rcases hrw with e | ⟨d1, d2, -⟩
  · exact absurd e.2.2.2.2.1 h26
  obtain ⟨f, hf⟩ : ∃ f, f = R_stale n0 g := ⟨_, rfl⟩
  have of : ∀ u j, ¬ (59 ≤ u ∧ u ≤ 64) → f.1 u j = g.1 u j := fun u j z1 => by rw [hf]; exact R_stale_o z1 n0 g
  have lf : f.2 = g.2 := by rw [hf]; exact R_stale_l n0 g
  rw [← hf] at hn
  obtain ⟨nA', x35, x16, -⟩ := id hR.2.2.2.2.2.2.1
  obtain ⟨mm', y40, y16, -, -, hse⟩ := id hR.2.2.2.2.2.2.2
  have eA : nA' = nA := by omega
  have eM : mm' = mm := by omega
  rw [eA] at x16
  rw [eM] at y16 hse
  have hcf := hL.crf h0 hb hL6 ho hC h35 x16 h40 y16 (fun k hk => by obtain ⟨-, -, -, -, ⟨N, hN, hN4, -⟩, -⟩ := hse k hk; exact ⟨N, hN, hN4⟩) (fun s hs => by obtain ⟨-, -, ⟨i, hi, hi2⟩, -⟩ := hse s hs; exact ⟨i, hi, by omega⟩)
  have hE := (hL.cre h0 hb hL6 ho hC hcf.2).eq (f' := f) (fun u j hu => of u j (by omega))
  obtain ⟨hLf, hof⟩ := hL.mv ho (g' := f) (fun u j hu => of u j (by omega))
  have h73 : f.1 73 0 = w4 o 16 := hLf.h73
  obtain ⟨kn, kk1, kk2, khal, -⟩ := id hR.2.2.2.2.2.1
  have hRn : A 51 q ≠ B + 5 ∧ A 51 q ≠ A 70 2 := by
    refine ⟨by have := d1.1; omega, fun z' => ?_⟩
    rcases khal.2 with ⟨e1, -⟩ | ⟨e1, -⟩
    · have := hR.1.2.2.2.1 1 (by omega)
      have := d1.1
      omega
    · have h1 := e1.2.2
      rw [← z', d1.2.2] at h1
      omega
  refine cl_go dt_112 60 [(34, [0, 1, 2])] dt_112_k rfl ?_
  intro C J hC' hJ
  conv => whnf
  refine ⟨jx_isC_of hR.X, hC' _ _ _ _ (((k_keptOf (d := d) (n := n) hR (show MB σ (B + 9) (A 51 q) L o (wr o L) (nmb o L) (wcd o L) (Int32.ofNat (sat o L)) from hM) hRn hl hbo hwf hn0 hn320 hKT hf hE hC h73 hn).up (by omega)).mp ?_)⟩
  rintro r s1 ⟨A1, R1, oA, k1, o1, hr1⟩
  have W1 : RW th B b xl s1 f A1 T := ⟨G, R1, by rw [of 2 0 (by omega)]; exact hls⟩
  have n70 : B + 9 ≠ A 70 2 := fun z' => by
    rcases khal.2 with ⟨e1, -⟩ | ⟨e1, -⟩
    · have := hR.1.2.2.2.1 1 (by omega)
      omega
    · have := e1.1; omega
  have M1 := MB.kp' (show MB σ (B + 9) (A 51 q) L o (wr o L) (nmb o L) (wcd o L) (Int32.ofNat (sat o L)) from hM) (o1 (B + 9) (by omega) n70) (o1 (A 51 q) hRn.1 hRn.2)
  have e51 : A1 51 q = A 51 q := oA 51 q (by omega)
  unfold R_crd
  rw [← hf]
  rcases hr1 with ⟨e1, rfl⟩ | ⟨e1, rfl⟩
  · rw [if_neg e1]
    obtain ⟨k, hk⟩ : ∃ k, k = R_ksf f n 0 := ⟨_, rfl⟩
    have hkn : k < n := by have := R_ksf_r (f := f) n 0 e1; omega
    rw [← hk]
    obtain ⟨kn1, kk11, kk12, khal1, -, hke1⟩ := id R1.2.2.2.2.2.1
    have ek : kn1 = n := by omega
    rw [ek] at kk12 hke1
    obtain ⟨-, -, ko, -⟩ := hke1 k hkn
    have ko' : s1.1 (A1 9 k) = some (.inr (9, [.ref (A1 91 k), .int (f.1 63 k), .int (f.1 64 k - 240), .ref (A1 92 k)])) := ko
    conv => whnf
    refine ⟨_, jx_getF_of (R1.X) rfl, ?_⟩
    conv => whnf
    refine ⟨jx_isC_of M1.1, hC' _ _ _ _ (((k_hop (d := d) M1 hl).up (by omega)).mp ?_)⟩
    rintro r s2 ⟨rfl, hs2⟩
    rw [hs2]
    conv => whnf
    refine ⟨jx_isC_of ko', hC' _ _ _ _ (((k_again (d := d) (k := k) (q := q) (cv := cv) (hv := w4 o 12) W1 (by omega) (by omega) hq hcv (by rw [of _ _ (by omega)]; exact h26) hLf.h72 (fun σ' => ∃ A' T', RW th B b xl σ' (R_go (R_aga f k) cv) A' T' ∧ kpm B A A' 9 610 σ σ') (fun σ' y1 y2 => ⟨A1, T, y1, ?_⟩)).up (by omega)).mp ?_)⟩
    · have := kpm.of_kp (A := A1) (n := 9) (s := 610) (k1.tr y2)
      exact ⟨this.1, this.2.1, this.2.2.1, this.2.2.2.1, fun u i hu => oA u i (by omega)⟩
    · rintro r s3 ⟨rfl, nw, w', y1, y2, y3, y4, y5⟩
      have hce3 := (y4 (B + 14 + 3 * q) (by omega)).trans (R1.2.2.1 q hq).1
      conv => whnf
      refine ⟨_, jx_getF_of (y1) rfl, ?_⟩
      conv => whnf
      refine ⟨_, jx_getF_of (y1) rfl, ?_⟩
      conv => whnf
      refine ⟨_, jx_al_of (y2), ?_⟩
      conv => whnf
      refine ⟨jx_isC_of hce3, hC' _ _ _ _ ((y5.up (by omega)).mp ?_)⟩
      rintro r s4 ⟨rfl, y6⟩
      conv => whnf
      exact ⟨rfl, y6⟩
  · rw [if_pos e1]
    have MIf : MI f := MI.of hMI (of _ _ (by omega)) (of _ _ (by omega)) (fun s => of _ _ (by omega)) (fun u j _ => by rw [lf])
    have okf : R_ok f := hok.of (of _ _ (by omega)) (fun c => of _ _ (by omega)) (fun c => of _ _ (by omega))
    obtain ⟨kn1, kk11, kk12, -⟩ := id R1.2.2.2.2.2.1
    have M1' : MR s1 (B + 9) (A1 51 q) L o := by rw [e51]; exact M1
    have t := k_oc_34 (th := th) (d := d) (q := q) (p := p) (cv := cv) (pv := pv) (n := n) (nA := nA) (mm := mm) (Q := fun r σ' => r = none ∧ ∃ A' T', RW th B b xl σ' (R_cr2 f nA mm n cv pv) A' T' ∧ kpm B A A' 9 610 σ σ') W1 M1' hl hbo hLf hb hof (by rw [of _ _ (by omega)]; exact h0) hr hc hq hcv (by rw [of _ _ (by omega)]; exact h26) okf MIf (by rw [of _ _ (by omega)]; exact hp) hp4 hpv hn (by omega) (by rw [of _ _ (by omega)]; exact h35) (by rw [of _ _ (by omega)]; exact h40) (fun σ' A' T' y1 y2 => ⟨rfl, A', T', y1, ⟨fun a z1 z2 => by rw [y2.1 a z1 z2, k1.2 a z1 z2], by rw [← k1.1]; exact y2.2.1, by rw [← k1.1]; exact y2.2.2.1, by rw [← k1.1]; exact y2.2.2.2.1, fun u i hu => by rw [y2.2.2.2.2 u i hu, oA u i (by omega)]⟩⟩)
    rw [oA 6 p (by omega)] at t
    have eC : R_crd g nA mm n0 n cv pv = R_cr2 f nA mm n cv pv := by unfold R_crd; rw [← hf, if_pos e1]
    rw [← eC] at t
    conv => whnf
    exact hJ _ _ _ _ t
end JxOncred4
