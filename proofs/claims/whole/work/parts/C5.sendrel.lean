/-! THE CLASS: a message is sent, as the reference sends it -/
/-- the class's part, and what is lost -/
def RW (th : Nat → Nat) (B b : Nat) (xl : List Int32) (σ : jx_S) (f : jx_F) (A : Nat → Nat → Nat) (T : Nat → Nat) : Prop := ∃ G, RelC th B b xl σ f A G T ∧ f.1 2 0 = lsum G 8
def incG (G : Nat → Nat → Int32) (u c : Nat) : Nat → Nat → Int32 := fun q j => if q = u ∧ j = c then G u c + 1 else G q j
theorem lsum_eq {G G' : Nat → Nat → Int32} (h0 : G' 0 0 = G 0 0) : ∀ (m : Nat), (∀ c, c < m → G' 1 c = G 1 c) → lsum G' m = lsum G m
  | 0, _ => h0
  | m + 1, h => by
    unfold lsum
    rw [lsum_eq h0 m (fun c hc => h c (by omega)), h m (by omega)]
theorem lsum_1 {G : Nat → Nat → Int32} {c : Nat} : ∀ (m : Nat), c < m → lsum (incG G 1 c) m = lsum G m + 1
  | 0, h => by omega
  | m + 1, h => by
    unfold lsum
    by_cases e : c = m
    · subst e
      rw [lsum_eq (G := G) (G' := incG G 1 c) (if_neg (by omega)) c (fun j hj => if_neg (by omega)), show incG G 1 c 1 c = G 1 c + 1 from if_pos ⟨rfl, rfl⟩, Int32.add_assoc]
    · rw [lsum_1 m (by omega), show incG G 1 c 1 m = G 1 m from if_neg (by omega), Int32.add_assoc, Int32.add_comm 1, ← Int32.add_assoc]
theorem lsum_0 {G : Nat → Nat → Int32} : ∀ (m : Nat), lsum (incG G 0 0) m = lsum G m + 1
  | 0 => (show (if 0 = 0 ∧ 0 = 0 then G 0 0 + 1 else G 0 0) = G 0 0 + 1 from if_pos ⟨rfl, rfl⟩)
  | m + 1 => by
    unfold lsum
    rw [lsum_0 m, show incG G 0 0 1 m = G 1 m from if_neg (by omega), Int32.add_assoc, Int32.add_comm 1, ← Int32.add_assoc]
section JxSendrel
variable {th : Nat → Nat} {d B b c n len Wd : Nat} {xl : List Int32} {σ σ' : jx_S} {w : Nat → Int32} {nv cv : Int32} {f f' : jx_F} {A : Nat → Nat → Nat} {G : Nat → Nat → Int32} {T : Nat → Nat} {bs : List Int32}
theorem k_sendR (hW : RW th B b xl σ f A T) (hc : c < 8) (hcv : cv.toInt = ((c + 1 : Nat) : Int)) (h26 : ¬ f.1 26 (c + 1) = 0) (hw : σ.1 Wd = some (.inl (1, len, .inl w))) (hn : n ≤ len) (hl : len ≤ 64) (hnv : nv.toInt = (n : Int)) (hbs : bs.length = 4 * n) (ho : ∀ j, j < bs.length → (cn_pk w j).toInt32 = R_fo bs j) : jc th (d + 1) 54 [.ref (B + 14 + 3 * c), .ref Wd, .int nv] σ (fun r σ' => r = none ∧ RW th B b xl σ' (R_msg f bs cv) A T ∧ kp B σ σ') := by
  obtain ⟨G, hR, hls⟩ := hW
  obtain ⟨hce, hrow⟩ := hR.2.2.1 c hc
  rcases hrow with e | ⟨d1, d2, hin, h, a, z, hh, ha, ha2, hz, hz2, hwr⟩
  · exact absurd e.2.2.2.2.1 h26
  have hsp := R_msg_sp (f := f) (bs := bs) hcv (by omega) (by omega) ha ha2 hz hz2
  have hne : B + 14 + 3 * c ≠ A 52 c ∧ Wd ≠ A 52 c := ⟨by have := d2.1; omega, fun e => by rw [e, hh] at hw; simp at hw⟩
  obtain ⟨g, hg⟩ : ∃ g, g = R_msg f bs cv := ⟨_, rfl⟩
  have og : ∀ q j, q ≠ 65 → q ≠ 2 → q ≠ 31 → q ≠ 32 → q ≠ 66 → g.1 q j = f.1 q j := fun q j e1 e2 e3 e4 e5 => by rw [hg]; exact R_msg_o e1 e2 e3 e4 e5
  have gl : g.2 = f.2 := by rw [hg]; exact R_msg_l
  rw [← hg] at hsp ⊢
  have h4 : (4 * nv).toInt = ((4 * n : Nat) : Int) := by rw [i32_mul (a := 4) (by decide) hnv (by omega) (by omega)]; omega
  rcases hsp with ⟨s1, s2, s3, s4, s5, s6⟩ | ⟨s1, s2, s3, s4⟩
  · refine (k_send1 (d := d) hne hn hl hnv hce hh hw hz ha ha2 (by omega)).mp ?_
    rintro r σ' ⟨rfl, h', k1, k2, k3, k4, k5, k6⟩
    have e32 : g.1 32 (c + 1) = f.1 32 (c + 1) + 4 * nv := Int32.toInt_inj.mp (by rw [s3, i32_add hz h4 (by omega) (by omega)]; omega)
    have hRC : RelC th B b xl σ' g A G T := by
      refine hR.out (c := c) hc (fun q q1 q2 => k3 q q1 (fun e => q2 ⟨e, by rw [e]; exact d2.1⟩)) k4 (fun q j h1 h2 h3 h5 h6 => ?_) (fun q j _ _ => by rw [gl]) (fun _ _ _ => rfl) ⟨?_, Or.inr ⟨⟨d1.1, by rw [k4]; exact d1.2.1, d1.2.2⟩, ⟨d2.1, by rw [k4]; exact d2.2.1, d2.2.2⟩, ?_, h', a, z + bs.length, k2, by rw [og 33 _ (by decide) (by decide) (by decide) (by decide) (by decide)]; exact ha, ha2, s3, s1, fun i hi => ?_⟩⟩
      · by_cases e31 : q = 31
        · subst e31
          rw [s6 j (fun i hi e => h2 ⟨rfl, by omega, by omega⟩)]
        · by_cases e32 : q = 32
          · subst e32
            exact s4 j (fun e => h1 ⟨by decide, e⟩)
          · exact og q j (by omega) h6 e31 e32 (by omega)
      · rw [k1]
        unfold cc_e
        rw [og 26 _ (by decide) (by decide) (by decide) (by decide) (by decide), og 27 _ (by decide) (by decide) (by decide) (by decide) (by decide), og 28 _ (by decide) (by decide) (by decide) (by decide) (by decide), og 30 _ (by decide) (by decide) (by decide) (by decide) (by decide), og 33 _ (by decide) (by decide) (by decide) (by decide) (by decide), e32]
      · obtain ⟨yi, ni, g1, g2, g3, g4⟩ := hin
        have hne2 : A 51 c ≠ A 52 c := fun e => by
          have e1 := d1.2.2
          rw [e, d2.2.2] at e1
          omega
        refine ⟨yi, ni, by rw [k3 _ (by have := d1.1; omega) hne2]; exact g1, by rw [og 30 _ (by decide) (by decide) (by decide) (by decide) (by decide)]; exact g2, g3, fun j hj => by rw [og 29 _ (by decide) (by decide) (by decide) (by decide) (by decide)]; exact g4 j hj⟩
      · by_cases hiz : i < z
        · rw [k6 _ (fun j hj e => by omega), s6 _ (fun j hj e => by omega)]
          exact hwr i hiz
        · have e : a + i = a + z + (i - z) := by omega
          rw [e, k5 (i - z) (by omega), s5 (i - z) (by omega), ho (i - z) (by omega)]
    refine ⟨rfl, ⟨G, hRC, by rw [s2]; exact hls⟩, k4, fun q q1 q2 => k3 q (by omega) (by have := d2.1; omega)⟩
  · refine (k_send0 (d := d) hn hl hnv hce hh hw hz hz2 (by omega)).mp ?_
    rintro r σ' ⟨rfl, k1, k2, k3⟩
    have og2 : ∀ q j, q ≠ 65 → q ≠ 2 → q ≠ 66 → g.1 q j = f.1 q j := by
      intro q j e1 e2 e5
      by_cases e31 : q = 31
      · subst e31; exact s4 j
      · by_cases e32 : q = 32
        · subst e32; exact s3 j
        · exact og q j e1 e2 e31 e32 e5
    have hRC : RelC th B b xl σ' g A (incG G 1 c) T := by
      refine hR.out (c := c) hc (fun q q1 _ => k2 q q1) k3 (fun q j h1 h2 h3 h5 h6 => og2 q j (by omega) h6 (by omega)) (fun q j _ _ => by rw [gl]) (fun q j hq => if_neg hq) ⟨?_, Or.inr ⟨⟨d1.1, by rw [k3]; exact d1.2.1, d1.2.2⟩, ⟨d2.1, by rw [k3]; exact d2.2.1, d2.2.2⟩, ?_, h, a, z, by rw [k2 _ (by have := d2.1; omega)]; exact hh, by rw [og2 33 _ (by decide) (by decide) (by decide)]; exact ha, ha2, by rw [og2 32 _ (by decide) (by decide) (by decide)]; exact hz, hz2, fun i hi => by rw [og2 31 _ (by decide) (by decide) (by decide)]; exact hwr i hi⟩⟩
      · rw [k1]
        unfold cc_e
        rw [og2 26 _ (by decide) (by decide) (by decide), og2 27 _ (by decide) (by decide) (by decide), og2 28 _ (by decide) (by decide) (by decide), og2 30 _ (by decide) (by decide) (by decide), og2 33 _ (by decide) (by decide) (by decide), og2 32 _ (by decide) (by decide) (by decide), show incG G 1 c 1 c = G 1 c + 1 from if_pos ⟨rfl, rfl⟩]
      · obtain ⟨yi, ni, g1, g2, g3, g4⟩ := hin
        exact ⟨yi, ni, by rw [k2 _ (by have := d1.1; omega)]; exact g1, by rw [og2 30 _ (by decide) (by decide) (by decide)]; exact g2, g3, fun j hj => by rw [og2 29 _ (by decide) (by decide) (by decide)]; exact g4 j hj⟩
    exact ⟨rfl, ⟨_, hRC, by rw [s2, lsum_1 8 hc, hls]⟩, k3, fun q q1 q2 => k2 q (by omega)⟩
end JxSendrel
