/-! THE CLASS: its own messages -/
/-- the beginning that every message bears -/
def DO (B : Nat) (σ : jx_S) (f : jx_F) (O : Nat) : Prop := (O ≠ B + 11 ∧ O ≠ B + 12) ∧ ∃ (n : Nat) (o : Nat → Int32), σ.1 O = some (.inl (1, n, .inl o)) ∧ (R_me f (R_hs f) 20).length = 4 * n ∧ ∀ i x, (R_me f (R_hs f) 20)[i]? = some x → cn_pk o i = x.toInt8
theorem and64 (x : Int32) : x &&& 64 = 0 ∨ x &&& 64 = 64 := by
  have key : ∀ y : BitVec 32, y &&& 64#32 = 0#32 ∨ y &&& 64#32 = 64#32 := by
    intro y
    have e : (64#32 : BitVec 32) = BitVec.twoPow 32 6 := by decide
    rw [e, BitVec.and_twoPow]
    split
    · exact Or.inr rfl
    · exact Or.inl rfl
  rcases key x.toBitVec with h | h
  · exact Or.inl (Int32.toBitVec_inj.mp h)
  · exact Or.inr (Int32.toBitVec_inj.mp h)
theorem R_me_s {f : jx_F} {N s : Nat} (h : s % 4 = 0) : R_me f N s = R_me f N 20 := by
  unfold R_me R_tx R_pd
  rw [show (4 - (s + 8 + N) % 4) % 4 = (4 - (20 + 8 + N) % 4) % 4 by omega]
theorem R_ml_4 {N s : Nat} (h : s % 4 = 0) : (s + R_ml N s) % 4 = 0 := by
  unfold R_ml R_tl
  omega
section JxSenders
variable {th : Nat → Nat} {d B b p c : Nat} {xl : List Int32} {σ σ' : jx_S} {f f' : jx_F} {A : Nat → Nat → Nat} {G : Nat → Nat → Int32} {T : Nat → Nat} {O : Nat} {bs : List Int32}
theorem DO.mv (h : DO B σ f O) (hd : dch B σ σ') : DO B σ' f O := by
  obtain ⟨h1, n, o, h2, h3⟩ := h
  exact ⟨h1, n, o, (hd.2 O h1.1 h1.2).trans h2, h3⟩
theorem RelC.dO (hR : RelC th B b xl σ f A G T) : DO B σ f (A 4 0) := by
  obtain ⟨-, -, d3, n, o, d4, d5, d6⟩ := hR.2.1
  refine ⟨?_, n, o, d4, d5, d6⟩
  rcases d3 with e | e
  · omega
  · have := e.1; omega
theorem DO.ml (h : DO B σ f O) (hn : R_hs f ≤ 40) : (R_me f (R_hs f) 20).length ≤ 63 := by
  rw [R_me_len]
  have := R_ml_le (N := R_hs f) (s := 20)
  omega
theorem RelC.hs (hR : RelC th B b xl σ f A G T) : R_hs f ≤ 40 := by
  obtain ⟨n, h1, h2, -⟩ := hR.1.2.2.2.2.2.2.2.1
  unfold R_hs
  rw [i32_nat h1]
  exact h2
theorem k_originR (hM : DM B σ O bs) (hO : DO B σ f O) (hs : R_hs f ≤ 40) (hl : bs.length ≤ 190) : jc th (d + 1) 51 [.ref (B + 11)] σ (fun r σ' => r = none ∧ dch B σ σ' ∧ DM B σ' O (bs ++ R_me f (R_hs f) 20)) := by
  have hm := hO.ml hs
  obtain ⟨h1, n, o, h2, h3, h4⟩ := hO
  exact k_origin hM h1 h2 h3 h4 (by omega)
theorem RelC.dch (hR : RelC th B b xl σ f A G T) (h : dch B σ σ') (h11 : ∃ c, σ'.1 (B + 11) = some (.inr (4, [.ref (B + 12), .int c, .ref (A 4 0)]))) (h12 : ∃ w : Nat → Int32, σ'.1 (B + 12) = some (.inl (1, 64, .inl w))) : RelC th B b xl σ' f A G T ∧ kp B σ σ' :=
  ⟨hR.draft h.2 h.1 ⟨h11, h12⟩, h.1, fun a h1 h2 => h.2 a (by omega) (by omega)⟩
/-- the next HOP -/
theorem RelC.hop (hR : RelC th B b xl σ f A G T) (hX : σ'.1 B = some (.inr (0, [.ref (B + 1), .int (f.1 4 0), .ref (A 0 0), .int (f.1 1 0), .int (f.1 34 0 - 1 + 1), .int (G 0 0), .ref (B + 2), .ref (B + 3), .ref (B + 4), .ref (B + 5), .ref (B + 6), .ref (B + 9), .ref (B + 11)]))) (ho : ∀ q, q ≠ B → σ'.1 q = σ.1 q) (hn : σ'.2 = σ.2) : RelC th B b xl σ' (rf_ui f 34 0 (f.1 34 0 + 1)) A G T ∧ kp B σ σ' := by
  refine ⟨hR.obj ho hn (fun q j _ h34 _ _ _ => rf_ui_ne (by omega)) (fun _ _ _ _ => rfl) (fun _ _ _ => rfl) ?_, hn, fun a h1 h2 => ho a (by omega)⟩
  rw [hX]
  simp [cx_e, rf_ui, Int32.sub_add_cancel, Int32.add_sub_cancel]
theorem ui7 {k j : Nat} {x : Int32} (hk : k ≠ 7) (h : (p : Int) < (f.1 7 0).toInt) : (p : Int) < ((rf_ui f k j x).1 7 0).toInt := by
  rw [rf_ui_ne (by omega)]
  exact h
theorem ui_hs {k j : Nat} {x : Int32} (hk : k ≠ 6) : R_hs (rf_ui f k j x) = R_hs f := by
  unfold R_hs
  rw [rf_ui_ne (by omega)]
theorem ui_me {k j N s : Nat} {x : Int32} (hk : k ≠ 6) (h5 : k ≠ 5) : R_me (rf_ui f k j x) N s = R_me f N s := R_me_eq (fun q => rf_ui_ne (by omega)) (rf_ui_ne (by omega))
theorem k_sendOpening (hW : RW th B b xl σ f A T) (hp : (p : Int) < (f.1 7 0).toInt) (hc : c < 8) (h13 : (f.1 13 p).toInt = ((c + 1 : Nat) : Int)) (h26 : ¬ f.1 26 (c + 1) = 0) : jc th (d + 3) 49 [.ref B, .ref (A 6 p), .ref (B + 14 + 3 * c)] σ (fun r σ' => r = none ∧ RW th B b xl σ' (R_sendOpening f p) A T ∧ kp B σ σ') := by
  obtain ⟨G, hR, hls⟩ := hW
  have hX := hR.X
  refine cl_go dt_49 80 [] dt_49_k rfl ?_
  intro C J hC hJ
  conv => whnf
  refine ⟨_, jx_getF_of (hX) rfl, ?_⟩
  conv => whnf
  refine putK hX rfl (fit_i _) (fun s1 p1 o1 n1 => ?_)
  conv => whnf
  obtain ⟨hR1, hk1⟩ := hR.hop p1 o1 n1
  have hp1 := ui7 (f := f) (k := 34) (j := 0) (x := f.1 34 0 + 1) (by omega) hp
  obtain ⟨a1, a2, a3, a6⟩ := hR1.pe hp1
  refine putK a2 rfl (fit_i _) (fun s2 p2 o2 n2 => ?_)
  conv => whnf
  obtain ⟨g, hg⟩ : ∃ g, g = rf_ui (rf_ui f 34 0 (f.1 34 0 + 1)) 20 p (f.1 34 0) := ⟨_, rfl⟩
  obtain ⟨hR2, hk2⟩ := hR1.pe1 (σ' := s2) (f' := g) hp1 (by rw [p2, hg]; simp [cp_e, lim, rf_ui, Int32.sub_add_cancel]) o2 n2 (by rw [hg]; exact ui_pe ⟨by omega, by omega⟩ (fun _ _ _ => rfl)) (by rw [hg]; rfl) (by rw [hg]; exact rf_ui_ne (by omega))
  have e34 : g.1 34 0 - 1 = f.1 34 0 := by rw [hg, rf_ui_ne (by omega), rf_ui_eq]; exact Int32.add_sub_cancel _ _
  have ehs : R_hs g = R_hs f := by rw [hg, ui_hs (by omega), ui_hs (by omega)]
  have eme : R_me g (R_hs g) 20 = R_me f (R_hs f) 20 := by rw [ehs, hg, ui_me (by omega) (by omega), ui_me (by omega) (by omega)]
  have hX2 := hR2.X
  have hO2 := hR2.dO
  have hs2 := hR2.hs
  obtain ⟨⟨cn, d1⟩, ⟨w, d2⟩, -⟩ := hR2.2.1
  refine ⟨_, jx_getF_of (hX2) rfl, ?_⟩
  conv => whnf
  refine ⟨_, jx_getF_of (hX2) rfl, ?_⟩
  conv => whnf
  refine ⟨_, jx_getF_of (hX2) rfl, ?_⟩
  conv => whnf
  refine ⟨jx_isC_of d1, hC _ _ _ _ (((k_begin (d := d) (th := th) (fl := 128) (c := 257) (a := 0) d1 d2 (by decide +kernel)).up (by omega)).mp ?_)⟩
  rintro r s3 ⟨rfl, c3, m3⟩
  rw [e34] at m3
  have hX3 := (c3.2 B (by omega) (by omega)).trans hX2
  have hO3 := hO2.mv c3
  obtain ⟨cn3, d3⟩ := m3.c11
  conv => whnf
  refine ⟨_, jx_getF_of (hX3) rfl, ?_⟩
  conv => whnf
  refine ⟨jx_isC_of d3, hC _ _ _ _ (((k_originR (d := d) m3 hO3 hs2 (by show 20 ≤ 190; omega)).up (by omega)).mp ?_)⟩
  rintro r s4 ⟨rfl, c4, m4⟩
  rw [eme] at m4
  have hml : (R_me f (R_hs f) 20).length ≤ 63 := by rw [← eme]; exact hO3.ml hs2
  have hX4 := (c4.2 B (by omega) (by omega)).trans hX3
  obtain ⟨cn4, d4⟩ := m4.c11
  conv => whnf
  refine ⟨_, jx_getF_of (hX4) rfl, ?_⟩
  conv => whnf
  refine ⟨jx_isC_of d4, hC _ _ _ _ ((k_intro (d := d) (t := 20 + R_ml (R_hs f) 20) m4 (by rw [List.length_append]; show 20 + _ + 52 ≤ 256; omega) (R_ml_4 (by omega))).mp ?_)⟩
  rintro r s5 ⟨rfl, c5, m5⟩
  have hX5 := (c5.2 B (by omega) (by omega)).trans hX4
  obtain ⟨cn5, d5⟩ := m5.c11
  conv => whnf
  refine ⟨_, jx_getF_of (hX5) rfl, ?_⟩
  conv => whnf
  refine ⟨_, jx_getF_of (d5) rfl, ?_⟩
  conv => whnf
  refine ⟨_, jx_getF_of (hX5) rfl, ?_⟩
  conv => whnf
  refine ⟨jx_isC_of d5, hC _ _ _ _ (((k_finish (d := d) m5 rfl).up (by omega)).mp ?_)⟩
  rintro r s6 ⟨rfl, c6, d6, w6, e6, f6⟩
  obtain ⟨hR6, hk6⟩ := hR2.dch (((c3.tr c4).tr c5).tr c6) d6 ⟨w6, e6⟩
  have hlen := m5.len
  conv => whnf
  have hce := (hR6.2.2.1 c hc).1
  have hls6 : g.1 2 0 = lsum G 8 := by rw [hg, rf_ui_ne (by omega), rf_ui_ne (by omega)]; exact hls
  refine ⟨jx_isC_of hce, hC _ _ _ _ (((k_sendR (d := d) (cv := f.1 13 p) ⟨G, hR6, hls6⟩ hc h13 (by rw [hg, rf_ui_ne (by omega), rf_ui_ne (by omega)]; exact h26) e6 (n := (((R_hd 128 257 0 (f.1 34 0) (f.1 34 0) ++ R_me f (R_hs f) 20) ++ R_ad (20 + R_ml (R_hs f) 20)).length / 4)) (by omega) (by omega) (i32_ofNat (by omega)) (by omega) f6).up (by omega)).mp ?_)⟩
  rintro r s7 ⟨rfl, hW7, hk7⟩
  conv => whnf
  refine ⟨rfl, ?_, ((hk1.tr hk2).tr hk6).tr hk7⟩
  unfold R_sendOpening
  rw [← hg, ← List.append_assoc]
  exact hW7
end JxSenders
