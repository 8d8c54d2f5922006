/-! THE CLASS: sending, with what it leaves as it was -/
section JxSendx
variable {th : Nat → Nat} {d B b c n len Wd : Nat} {xl : List Int32} {σ σ' : jx_S} {w : Nat → Int32} {nv cv : Int32} {f f' : jx_F} {A : Nat → Nat → Nat} {G : Nat → Nat → Int32} {T : Nat → Nat} {bs : List Int32}
theorem k_sendX (hW : RW th B b xl σ f A T) (hc : c < 8) (hcv : cv.toInt = ((c + 1 : Nat) : Int)) (h26 : ¬ f.1 26 (c + 1) = 0) (hw : σ.1 Wd = some (.inl (1, len, .inl w))) (hn : n ≤ len) (hl : len ≤ 64) (hnv : nv.toInt = (n : Int)) (hbs : bs.length = 4 * n) (ho : ∀ j, j < bs.length → (cn_pk w j).toInt32 = R_fo bs j) : jc th (d + 1) 54 [.ref (B + 14 + 3 * c), .ref Wd, .int nv] σ (fun r σ' => r = none ∧ RW th B b xl σ' (R_msg f bs cv) A T ∧ kp B σ σ' ∧ ∀ a, a ≠ B + 14 + 3 * c → a ≠ A 52 c → σ'.1 a = σ.1 a) := by
  obtain ⟨G, hR, hls⟩ := hW
  obtain ⟨hce, hrow⟩ := hR.2.2.1 c hc
  rcases hrow with e | ⟨d1, d2, hin, h, a, z, hh, ha, ha2, hz, hz2, hwr⟩
  · exact absurd e.2.2.2.2.1 h26
  have hsp := R_msg_sp (f := f) (bs := bs) hcv (by omega) (by omega) ha ha2 hz hz2
  have hne : B + 14 + 3 * c ≠ A 52 c ∧ Wd ≠ A 52 c := ⟨by have := d2.1; omega, fun e => by rw [e, hh] at hw; simp at hw⟩
  obtain ⟨g, hg⟩ : ∃ g, g = R_msg f bs cv := ⟨_, rfl⟩
  have og : ∀ q j, q ≠ 65 → q ≠ 2 → q ≠ 31 → q ≠ 32 → q ≠ 66 → g.1 q j = f.1 q j := fun q j e1 e2 e3 e4 e5 => by rw [hg]; exact R_msg_o e1 e2 e3 e4 e5
  have gl : g.2 = f.2 := by rw [hg]; exact R_msg_l
  rw [← hg] at hsp ⊢
  have h4 : (4 * nv).toInt = ((4 * n : Nat) : Int) := by rw [i32_mul (a := 4) (by decide) hnv (by omega) (by omega)]; omega
  rcases hsp with ⟨s1, s2, s3, s4, s5, s6⟩ | ⟨s1, s2, s3, s4⟩
  · refine (k_send1 (d := d) hne hn hl hnv hce hh hw hz ha ha2 (by omega)).mp ?_
    rintro r σ' ⟨rfl, h', k1, k2, k3, k4, k5, k6⟩
    have e32 : g.1 32 (c + 1) = f.1 32 (c + 1) + 4 * nv := Int32.toInt_inj.mp (by rw [s3, i32_add hz h4 (by omega) (by omega)]; omega)
    have hRC : RelC th B b xl σ' g A G T := by
      refine hR.out (c := c) hc (fun q q1 q2 => k3 q q1 (fun e => q2 ⟨e, by rw [e]; exact d2.1⟩)) k4 (fun q j h1 h2 h3 h5 h6 => ?_) (fun q j _ _ => by rw [gl]) (fun _ _ _ => rfl) ⟨?_, Or.inr ⟨⟨d1.1, by rw [k4]; exact d1.2.1, d1.2.2⟩, ⟨d2.1, by rw [k4]; exact d2.2.1, d2.2.2⟩, ?_, h', a, z + bs.length, k2, by rw [og 33 _ (by decide) (by decide) (by decide) (by decide) (by decide)]; exact ha, ha2, s3, s1, fun i hi => ?_⟩⟩
      · by_cases e31 : q = 31
        · subst e31
          rw [s6 j (fun i hi e => h2 ⟨rfl, by omega, by omega⟩)]
        · by_cases e32 : q = 32
          · subst e32
            exact s4 j (fun e => h1 ⟨by decide, e⟩)
          · exact og q j (by omega) h6 e31 e32 (by omega)
      · rw [k1]
        unfold cc_e
        rw [og 26 _ (by decide) (by decide) (by decide) (by decide) (by decide), og 27 _ (by decide) (by decide) (by decide) (by decide) (by decide), og 28 _ (by decide) (by decide) (by decide) (by decide) (by decide), og 30 _ (by decide) (by decide) (by decide) (by decide) (by decide), og 33 _ (by decide) (by decide) (by decide) (by decide) (by decide), e32]
      · obtain ⟨yi, ni, g1, g2, g3, g4⟩ := hin
        have hne2 : A 51 c ≠ A 52 c := fun e => by
          have e1 := d1.2.2
          rw [e, d2.2.2] at e1
          omega
        refine ⟨yi, ni, by rw [k3 _ (by have := d1.1; omega) hne2]; exact g1, by rw [og 30 _ (by decide) (by decide) (by decide) (by decide) (by decide)]; exact g2, g3, fun j hj => by rw [og 29 _ (by decide) (by decide) (by decide) (by decide) (by decide)]; exact g4 j hj⟩
      · by_cases hiz : i < z
        · rw [k6 _ (fun j hj e => by omega), s6 _ (fun j hj e => by omega)]
          exact hwr i hiz
        · have e : a + i = a + z + (i - z) := by omega
          rw [e, k5 (i - z) (by omega), s5 (i - z) (by omega), ho (i - z) (by omega)]
    refine ⟨rfl, ⟨G, hRC, by rw [s2]; exact hls⟩, ⟨k4, fun q q1 q2 => k3 q (by omega) (by have := d2.1; omega)⟩, fun q q1 q2 => k3 q q1 q2⟩
  · refine (k_send0 (d := d) hn hl hnv hce hh hw hz hz2 (by omega)).mp ?_
    rintro r σ' ⟨rfl, k1, k2, k3⟩
    have og2 : ∀ q j, q ≠ 65 → q ≠ 2 → q ≠ 66 → g.1 q j = f.1 q j := by
      intro q j e1 e2 e5
      by_cases e31 : q = 31
      · subst e31; exact s4 j
      · by_cases e32 : q = 32
        · subst e32; exact s3 j
        · exact og q j e1 e2 e31 e32 e5
    have hRC : RelC th B b xl σ' g A (incG G 1 c) T := by
      refine hR.out (c := c) hc (fun q q1 _ => k2 q q1) k3 (fun q j h1 h2 h3 h5 h6 => og2 q j (by omega) h6 (by omega)) (fun q j _ _ => by rw [gl]) (fun q j hq => if_neg hq) ⟨?_, Or.inr ⟨⟨d1.1, by rw [k3]; exact d1.2.1, d1.2.2⟩, ⟨d2.1, by rw [k3]; exact d2.2.1, d2.2.2⟩, ?_, h, a, z, by rw [k2 _ (by have := d2.1; omega)]; exact hh, by rw [og2 33 _ (by decide) (by decide) (by decide)]; exact ha, ha2, by rw [og2 32 _ (by decide) (by decide) (by decide)]; exact hz, hz2, fun i hi => by rw [og2 31 _ (by decide) (by decide) (by decide)]; exact hwr i hi⟩⟩
      · rw [k1]
        unfold cc_e
        rw [og2 26 _ (by decide) (by decide) (by decide), og2 27 _ (by decide) (by decide) (by decide), og2 28 _ (by decide) (by decide) (by decide), og2 30 _ (by decide) (by decide) (by decide), og2 33 _ (by decide) (by decide) (by decide), og2 32 _ (by decide) (by decide) (by decide), show incG G 1 c 1 c = G 1 c + 1 from if_pos ⟨rfl, rfl⟩]
      · obtain ⟨yi, ni, g1, g2, g3, g4⟩ := hin
        exact ⟨yi, ni, by rw [k2 _ (by have := d1.1; omega)]; exact g1, by rw [og2 30 _ (by decide) (by decide) (by decide)]; exact g2, g3, fun j hj => by rw [og2 29 _ (by decide) (by decide) (by decide)]; exact g4 j hj⟩
    exact ⟨rfl, ⟨_, hRC, by rw [s2, lsum_1 8 hc, hls]⟩, ⟨k3, fun q q1 q2 => k2 q (by omega)⟩, fun q q1 _ => k2 q q1⟩
end JxSendx
section JxFinx
variable {th : Nat → Nat} {d B O n k s : Nat} {σ σ' σ'' : jx_S} {w : Nat → Int32} {bs : List Int32} {c v : Int32} {f : jx_F}
theorem k_finishX (hM : DM B σ O bs) (h0 : bs[0]? = some ((1 : Int32) >>> 0)) : jc th (d + 1) 53 [.ref (B + 11)] σ (fun r σ' => r = some (.int (Int32.ofNat (bs.length / 4))) ∧ dch B σ σ' ∧ (∃ c, σ'.1 (B + 11) = some (.inr (4, [.ref (B + 12), .int c, .ref O]))) ∧ DM B σ' O bs ∧ ∃ w, σ'.1 (B + 12) = some (.inl (1, 64, .inl w)) ∧ ∀ j, j < bs.length → (cn_pk w j).toInt32 = R_fo bs j) := by
  obtain ⟨w, n, ⟨h11, h12⟩, hn, hq⟩ := hM
  have hbl : bs.length = 4 * n := by have := hq.1; unfold om at this; rw [List.length_map] at this; exact this
  refine cl_go dt_53 80 [] dt_53_k rfl ?_
  intro C J hC hJ
  conv => whnf
  refine ⟨_, jx_getF_of (h11) rfl, ?_⟩
  conv => whnf
  refine ⟨_, jx_getF_of (h11) rfl, ?_⟩
  conv => whnf
  refine istK h12 (k := 0) (by decide) (by decide) (fun s1 p1 o1 n1 => ?_)
  conv => whnf
  have q1 := (o1 (B + 11) (by omega)).trans h11
  refine ⟨_, jx_getF_of (q1) rfl, ?_⟩
  conv => whnf
  have e4 : (4 : Int32) * Int32.ofNat n = Int32.ofNat (4 * n) := Int32.toInt_inj.mp (by rw [i32_mul (a := 4) (by decide) (i32_ofNat (by omega)) (by omega) (by omega), i32_ofNat (by omega)]; omega)
  refine ⟨by rw [show bs.length / 4 = n by omega], ⟨n1, fun a h1 h2 => o1 a h2⟩, ⟨_, q1⟩, ⟨_, n, ⟨q1, p1⟩, hn, hq.of (fun i h1 _ => upd_ne (by omega))⟩, _, p1, fo_w hn (hq.of (fun i h1 _ => upd_ne (by omega))) h0 (by rw [upd_eq]; show 16777216 ||| 4 * Int32.ofNat n = _; rw [e4])⟩
end JxFinx
section JxLkmv
variable {L bb : Nat} {f0 g g' : jx_F} {o : Nat → Int32}
theorem LK.mv (hL : LK o L bb f0 g) (ho : o = oct f0 bb) (h : ∀ q j, q = 29 ∨ (67 ≤ q ∧ q ≤ 87) → g'.1 q j = g.1 q j) : LK o L bb g' g' ∧ o = oct g' bb := by
  have e : o = oct g' bb := by
    rw [← hL.og ho]
    funext j
    exact (h 29 _ (by omega)).symm
  obtain ⟨h1, h2, h67, h69, h70, h71, h72, h73, hz, hq, hsi, hse, -⟩ := hL
  refine ⟨⟨fun _ _ _ => rfl, rfl, by rw [h 67 0 (by omega)]; exact h67, by rw [h 69 0 (by omega)]; exact h69, by rw [h 70 0 (by omega)]; exact h70, by rw [h 71 0 (by omega)]; exact h71, by rw [h 72 0 (by omega)]; exact h72, by rw [h 73 0 (by omega)]; exact h73, by rw [h 74 0 (by omega)]; exact hz, fun z => ?_, fun z => ?_, hse.of (fun q hq => h q 0 (by omega)) (Nat.le_refl _), fun _ => rfl⟩, e⟩
  · obtain ⟨q1, q2⟩ := hq z
    exact ⟨by rw [h 74 0 (by omega)]; exact q1, fun c hc => by rw [h 75 0 (by omega)]; exact q2 c hc⟩
  · rw [h 74 0 (by omega)] at z
    obtain ⟨q1, q2⟩ := hsi z
    exact ⟨q1.cf (fun q j z1 z2 => h q j (by omega)), q2⟩
end JxLkmv
