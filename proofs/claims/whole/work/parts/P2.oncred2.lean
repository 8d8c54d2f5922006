/-! THE CLASS: a CREDIT: its ANSWER is made -/
section JxOncred2
variable {th : Nat → Nat} {B b d n k X S H Z R L bb p q : Nat} {xl : List Int32} {σ σ' : jx_S} {f f' F : jx_F} {A A' : Nat → Nat → Nat} {G : Nat → Nat → Int32} {T T' : Nat → Nat} {o : Nat → Int32} {c cv w z ev t : Int32} {gr en : Int64} {bs : List Int32} {pe : Value} {Q : Option Value → jx_S → Prop}
theorem CX.dc (h : CX B σ T X S H Z pe t o L gr en) (hd : dch B σ σ') : CX B σ' T X S H Z pe t o L gr en := by
  have hc : chg (fun a => a = B + 11 ∨ a = B + 12) σ σ' T T := ⟨fun a _ z => hd.2 a (fun y => z (Or.inl y)) (fun y => z (Or.inr y)), by rw [hd.1]; exact Nat.le_refl _, fun _ _ => rfl⟩
  exact h.mv hc (fun z => by have := h.1.1; omega) (fun a hd z => by have := hd.1; omega)
theorem MB.dc (h : MB σ (B + 9) R L o w z c ev) (hd : dch B σ σ') (h1 : R ≠ B + 11) (h2 : R ≠ B + 12) : MB σ' (B + 9) R L o w z c ev := h.kp' (hd.2 _ (by omega) (by omega)) (hd.2 _ h1 h2)
theorem RW.dc (h : RW th B b xl σ f A T) (hd : dch B σ σ') (hD : DM B σ' (A 4 0) bs) : RW th B b xl σ' f A T := by
  obtain ⟨G, hR, hl⟩ := h
  obtain ⟨w, n, ⟨h1, h2⟩, -⟩ := hD
  exact ⟨G, hR.draft (fun q z1 z2 => hd.2 q z1 z2) hd.1 ⟨⟨_, h1⟩, ⟨_, h2⟩⟩, hl⟩
/-- what is held while the ANSWER is made -/
def OC (th : Nat → Nat) (B b : Nat) (xl : List Int32) (σ : jx_S) (F : jx_F) (A : Nat → Nat → Nat) (T : Nat → Nat) (X S H Z R L bb q n : Nat) (pe : Value) (t : Int32) (o : Nat → Int32) (gr en : Int64) (cv : Int32) : Prop := RW th B b xl σ F A T ∧ CX B σ T X S H Z pe t o L gr en ∧ (∃ w z c ev, MB σ (B + 9) R L o w z c ev) ∧ dy B σ T R (510 + q) ∧ 20 ≤ L ∧ CRE o L bb F ∧ c_len o L 264 ≤ 40 ∧ F.1 73 0 = w4 o 16 ∧ (F.1 59 0).toInt = (n : Int) ∧ n ≤ 32 ∧ q < 8 ∧ cv.toInt = ((q + 1 : Nat) : Int) ∧ ¬ F.1 26 (q + 1) = 0
theorem OC.dc (h : OC th B b xl σ F A T X S H Z R L bb q n pe t o gr en cv) (hd : dch B σ σ') (hD : DM B σ' (A 4 0) bs) : OC th B b xl σ' F A T X S H Z R L bb q n pe t o gr en cv := by
  obtain ⟨h1, h2, ⟨w, z, c, ev, h3⟩, h4, h5⟩ := h
  exact ⟨h1.dc hd hD, h2.dc hd, ⟨w, z, c, ev, h3.dc hd (by have := h4.1; omega) (by have := h4.1; omega)⟩, ⟨h4.1, by rw [hd.1]; exact h4.2.1, h4.2.2⟩, h5⟩
theorem k_oc_160 (hO : OC th B b xl σ F A T X S H Z R L bb q n pe t o gr en cv) (hD : DM B σ (A 4 0) bs) (hb2 : 20 ≤ bs.length) (hb3 : bs.length ≤ 244) (h0 : bs[0]? = some ((1 : Int32) >>> 0)) (hQ : ∀ σ' A' T', RW th B b xl σ' (R_go (R_keep (R_bs (rf_ui F 66 0 0) bs) n) cv) A' T' → (∀ a, B + 39 ≤ a → a < B + 102 → σ'.1 a = σ.1 a) → σ.2.1 ≤ σ'.2.1 → σ'.2.1 ≤ σ.2.1 + 3 → σ'.2.2 ≤ σ.2.2 + 268 → (∀ q i, q = 51 ∨ q = 52 → A' q i = A q i) → Q none σ') : cl_fj th (d + 8) 112 160 [(0, .ref B), (2, .ref (B + 14 + 3 * q)), (4, .ref X)] [] σ Q := by
  obtain ⟨hW, hX, ⟨w, z, c, ev, hM⟩, hRd, hl, hE, hl1, h73, hn, hn32, hq, hcv, h26⟩ := hO
  obtain ⟨G, hR, hls⟩ := id hW
  have hB := hR.1.2.2.2.2.1
  obtain ⟨cn, hc11⟩ := hD.c11
  obtain ⟨hce, hrw⟩ := hR.2.2.1 q hq
  rcases hrw with e | ⟨d1, d2, -⟩
  · exact absurd e.2.2.2.2.1 h26
  refine cl_at dt_112 60 [(178, [0, 4])] dt_112_k ?_
  intro C J hC hJ
  conv => whnf
  refine ⟨_, jx_getF_of (hR.X) rfl, ?_⟩
  conv => whnf
  refine ⟨_, jx_getF_of (hc11) rfl, ?_⟩
  conv => whnf
  refine ⟨_, jx_getF_of (hR.X) rfl, ?_⟩
  conv => whnf
  refine ⟨jx_isC_of hc11, hC _ _ _ _ (((k_finishX (d := d) hD h0).up (by omega)).mp ?_)⟩
  rintro r s1 ⟨rfl, dc1, -, D1, w1, q1, q2⟩
  have W1 := hW.dc dc1 D1
  have X1 := hX.dc dc1
  have M1 := hM.dc dc1 (by have := hRd.1; omega) (by have := hRd.1; omega)
  have hce1 := (dc1.2 (B + 14 + 3 * q) (by omega) (by omega)).trans hce
  conv => whnf
  refine ⟨jx_isC_of hce1, hC _ _ _ _ (((k_sendX (d := d) (n := bs.length / 4) (len := 64) (bs := bs) W1 hq hcv h26 q1 (by omega) (by omega) (i32_ofNat (by omega)) (by have := D1.len.1; omega) q2).up (by omega)).mp ?_)⟩
  rintro r s2 ⟨rfl, W2, k2, o2⟩
  have hch2 : chg (fun a => a = B + 14 + 3 * q ∨ a = A 52 q) s1 s2 T T := ⟨fun a _ z' => o2 a (fun y => z' (Or.inl y)) (fun y => z' (Or.inr y)), by rw [k2.1]; exact Nat.le_refl _, fun _ _ => rfl⟩
  have nd : ∀ a t, dy B s1 T a t → t ≠ 520 + q → ¬ (a = B + 14 + 3 * q ∨ a = A 52 q) := fun a t hd ht z' => by
    rcases z' with z' | z'
    · have := hd.1; omega
    · have h1 := d2.2.2
      rw [← z', hd.2.2] at h1
      omega
  have X2 := X1.mv hch2 (nd _ _ X1.1 (by omega)) (fun a hd => nd a 81 hd (by omega))
  have R1d : dy B s1 T R (510 + q) := ⟨hRd.1, by rw [dc1.1]; exact hRd.2.1, hRd.2.2⟩
  have d2' := d2.1
  have M2 := M1.kp' (o2 (B + 9) (by omega) (by omega)) (hch2.eqv R1d (nd _ _ R1d (by omega)))
  have D2 : DM B s2 (A 4 0) bs := by
    obtain ⟨w', n', ⟨h11, h12⟩, a3, a4⟩ := D1
    exact ⟨w', n', ⟨(o2 _ (by omega) (by omega)).trans h11, (o2 _ (by omega) (by omega)).trans h12⟩, a3, a4⟩
  have z2 : s2.2 = σ.2 := by rw [k2.1, dc1.1]
  conv => whnf
  refine hJ _ _ _ _ (k_oc_178 (d := d) W2 X2 M2 (by rw [z2]; exact hRd.2.1) hl D2 hb2 hb3 h0 hE hl1 h73 hn hn32 (fun σ' A' T' y1 y2 y3 y4 y5 y6 => hQ σ' A' T' y1 (fun a z1 z2' => ?_) (by rw [← z2]; exact y3) (by rw [← z2]; exact y4) (by rw [← z2]; exact y5) y6))
  rw [y2 a z1 z2', k2.2 a z1 z2', dc1.2 a (by omega) (by omega)]
theorem k_oc_132 (hO : OC th B b xl σ F A T X S H Z R L bb q n pe t o gr en cv) (hT : TE F gr en) (hD : DM B σ (A 4 0) bs) (hb2 : 20 ≤ bs.length) (hb3 : bs.length ≤ 232) (h0 : bs[0]? = some ((1 : Int32) >>> 0)) (hQ : ∀ σ' A' T', RW th B b xl σ' (R_go (R_keep (R_bs (rf_ui F 66 0 0) (bs ++ R_enT F)) n) cv) A' T' → (∀ a, B + 39 ≤ a → a < B + 102 → σ'.1 a = σ.1 a) → σ.2.1 ≤ σ'.2.1 → σ'.2.1 ≤ σ.2.1 + 3 → σ'.2.2 ≤ σ.2.2 + 268 → (∀ q i, q = 51 ∨ q = 52 → A' q i = A q i) → Q none σ') : cl_fj th (d + 8) 112 132 [(0, .ref B), (2, .ref (B + 14 + 3 * q)), (4, .ref X)] [] σ Q := by
  have hx := hO.2.1.2.1
  obtain ⟨G, hR, hls⟩ := id hO.1
  obtain ⟨cn, hc11⟩ := hD.c11
  refine cl_at dt_112 60 [(160, [0, 2, 4])] dt_112_k ?_
  intro C J hC hJ
  conv => whnf
  refine ⟨_, jx_getF_of (hx) rfl, ?_⟩
  conv => whnf
  refine ⟨fun (e : lg_cmp en (-1) = 0) => ?_, fun (e : ¬ lg_cmp en (-1) = 0) => ?_⟩
  · have ee := lg_cmp_z.mp e
    have e91 : F.1 91 0 < 0 := by
      rcases hT.2 with ⟨-, h⟩ | ⟨h, -⟩ | ⟨h, -⟩
      · rw [h]; decide
      · rw [ee] at h; exact absurd h (by decide)
      · rw [ee] at h; exact absurd h (by decide)
    have eT : R_enT F = [] := if_pos e91
    rw [eT, List.append_nil] at hQ
    conv => whnf
    exact hJ _ _ _ _ (k_oc_160 (d := d) hO hD hb2 (by omega) h0 hQ)
  · have ne : ¬ en = -1 := fun y => e (lg_cmp_z.mpr y)
    have e91 : ¬ F.1 91 0 < 0 ∧ en.toInt32 = F.1 91 0 := by
      rcases hT.2 with ⟨h, -⟩ | ⟨h, h2⟩ | ⟨h, h2⟩
      · exact absurd h ne
      · rw [h, h2]; exact ⟨by decide, by decide⟩
      · rw [h, h2]; exact ⟨by decide, by decide⟩
    have eT : R_enT F = R_nm 422 (F.1 91 0) := if_neg e91.1
    rw [eT] at hQ
    conv => whnf
    refine ⟨_, jx_getF_of (hR.X) rfl, ?_⟩
    conv => whnf
    refine ⟨_, jx_getF_of (hx) rfl, ?_⟩
    conv => whnf
    refine ⟨jx_isC_of hc11, hC _ _ _ _ (((k_number (d := d) (c := 422) (v := en.toInt32) hD (by omega)).up (by omega)).mp ?_)⟩
    rintro r s1 ⟨rfl, dc1, D1⟩
    rw [e91.2] at D1
    conv => whnf
    refine hJ _ _ _ _ (k_oc_160 (d := d) (hO.dc dc1 D1) D1 (by rw [List.length_append]; omega) (by rw [List.length_append]; show bs.length + 12 ≤ 244; omega) (by rw [List.getElem?_append_left (by omega)]; exact h0) (fun σ' A' T' y1 y2 y3 y4 y5 y6 => hQ σ' A' T' y1 (fun a z1 z2 => ?_) (by rw [← dc1.1]; exact y3) (by rw [← dc1.1]; exact y4) (by rw [← dc1.1]; exact y5) y6))
    rw [y2 a z1 z2, dc1.2 a (by omega) (by omega)]
theorem k_oc_108 (hO : OC th B b xl σ F A T X S H Z R L bb q n pe t o gr en cv) (hT : TE F gr en) (hD : DM B σ (A 4 0) bs) (hb2 : 20 ≤ bs.length) (hb3 : bs.length ≤ 182) (h0 : bs[0]? = some ((1 : Int32) >>> 0)) (hQ : ∀ σ' A' T', RW th B b xl σ' (R_go (R_keep (R_bs (rf_ui F 66 0 0) (bs ++ (R_teT F ++ R_enT F))) n) cv) A' T' → (∀ a, B + 39 ≤ a → a < B + 102 → σ'.1 a = σ.1 a) → σ.2.1 ≤ σ'.2.1 → σ'.2.1 ≤ σ.2.1 + 3 → σ'.2.2 ≤ σ.2.2 + 268 → (∀ q i, q = 51 ∨ q = 52 → A' q i = A q i) → Q none σ') : cl_fj th (d + 8) 112 108 [(0, .ref B), (2, .ref (B + 14 + 3 * q)), (4, .ref X)] [] σ Q := by
  have hx := hO.2.1.2.1
  obtain ⟨G, hR, hls⟩ := id hO.1
  obtain ⟨cn, hc11⟩ := hD.c11
  refine cl_at dt_112 60 [(132, [0, 2, 4])] dt_112_k ?_
  intro C J hC hJ
  conv => whnf
  refine ⟨_, jx_getF_of (hx) rfl, ?_⟩
  conv => whnf
  refine ⟨fun (e : lg_cmp gr (-1) = 0) => ?_, fun (e : ¬ lg_cmp gr (-1) = 0) => ?_⟩
  · have ee := lg_cmp_z.mp e
    have e89 : F.1 89 0 = 0 := by
      rcases hT.1 with ⟨-, h⟩ | ⟨h, -⟩
      · exact h
      · exact absurd ee h
    have eT : R_teT F = [] := if_pos e89
    rw [eT, List.nil_append] at hQ
    conv => whnf
    exact hJ _ _ _ _ (k_oc_132 (d := d) hO hT hD hb2 (by omega) h0 hQ)
  · have e89 : ¬ F.1 89 0 = 0 ∧ gr = F.2 90 0 := by
      rcases hT.1 with ⟨h, -⟩ | ⟨-, h, h2⟩
      · exact absurd (lg_cmp_z.mpr h) e
      · rw [h]; exact ⟨by decide, h2⟩
    have eT : R_teT F = R_grT (F.2 90 0) := if_neg e89.1
    rw [eT, ← List.append_assoc] at hQ
    conv => whnf
    refine ⟨_, jx_getF_of (hR.X) rfl, ?_⟩
    conv => whnf
    refine ⟨_, jx_getF_of (hx) rfl, ?_⟩
    conv => whnf
    rw [e89.2]
    refine ⟨jx_isC_of hc11, hC _ _ _ _ (((k_grant (d := d) (u := F.2 90 0) hD (by omega)).up (by omega)).mp ?_)⟩
    rintro r s1 ⟨rfl, dc1, D1⟩
    conv => whnf
    refine hJ _ _ _ _ (k_oc_132 (d := d) (hO.dc dc1 D1) hT D1 (by rw [List.length_append]; omega) (by rw [List.length_append]; show bs.length + 36 ≤ 232; omega) (by rw [List.getElem?_append_left (by omega)]; exact h0) (fun σ' A' T' y1 y2 y3 y4 y5 y6 => hQ σ' A' T' y1 (fun a z1 z2 => ?_) (by rw [← dc1.1]; exact y3) (by rw [← dc1.1]; exact y4) (by rw [← dc1.1]; exact y5) y6))
    rw [y2 a z1 z2, dc1.2 a (by omega) (by omega)]
theorem k_oc_65 (hO : OC th B b xl σ F A T X S H Z R L bb q n pe t o gr en cv) (hT : TE F gr en) (hD : DM B σ (A 4 0) bs) (hb2 : 20 ≤ bs.length) (hb3 : bs.length ≤ 146) (h0 : bs[0]? = some ((1 : Int32) >>> 0)) (hQ : ∀ σ' A' T', RW th B b xl σ' (R_go (R_keep (R_bs (rf_ui F 66 0 0) (bs ++ (R_nm 258 4 ++ (R_nm 416 (R_n4 F 5) ++ (R_nm 415 (R_n4 F 6) ++ (R_teT F ++ R_enT F)))))) n) cv) A' T' → (∀ a, B + 39 ≤ a → a < B + 102 → σ'.1 a = σ.1 a) → σ.2.1 ≤ σ'.2.1 → σ'.2.1 ≤ σ.2.1 + 3 → σ'.2.2 ≤ σ.2.2 + 268 → (∀ q i, q = 51 ∨ q = 52 → A' q i = A q i) → Q none σ') : cl_fj th (d + 8) 112 65 [(0, .ref B), (2, .ref (B + 14 + 3 * q)), (4, .ref X)] [] σ Q := by
  have hE := hO.2.2.2.2.2.1
  obtain ⟨cn, hc11⟩ := hD.c11
  refine cl_at dt_112 60 [(108, [0, 2, 4])] dt_112_k ?_
  intro C J hC hJ
  conv => whnf
  obtain ⟨G, hR, -⟩ := id hO.1
  refine ⟨_, jx_getF_of (hR.X) rfl, ?_⟩
  conv => whnf
  refine ⟨jx_isC_of hc11, hC _ _ _ _ (((k_number (d := d) (c := 258) (v := 4) hD (by omega)).up (by omega)).mp ?_)⟩
  rintro r s1 ⟨rfl, dc1, D1⟩
  have O1 := hO.dc dc1 D1
  obtain ⟨G1, R1, -⟩ := id O1.1
  obtain ⟨cn1, hc1⟩ := D1.c11
  have hx1 := O1.2.1.2.1
  conv => whnf
  refine ⟨_, jx_getF_of (R1.X) rfl, ?_⟩
  conv => whnf
  refine ⟨_, jx_getF_of (hx1) rfl, ?_⟩
  conv => whnf
  refine ⟨jx_isC_of hc1, hC _ _ _ _ (((k_number (d := d) (c := 416) (v := (c_typ o L).toInt32) D1 (by rw [List.length_append]; show bs.length + 12 + 12 ≤ 256; omega)).up (by omega)).mp ?_)⟩
  rintro r s2 ⟨rfl, dc2, D2⟩
  rw [show (c_typ o L).toInt32 = R_n4 F 5 from by rw [hE.1.1]; exact u32_back _] at D2
  have O2 := O1.dc dc2 D2
  obtain ⟨G2, R2, -⟩ := id O2.1
  obtain ⟨cn2, hc2⟩ := D2.c11
  have hx2 := O2.2.1.2.1
  conv => whnf
  refine ⟨_, jx_getF_of (R2.X) rfl, ?_⟩
  conv => whnf
  refine ⟨_, jx_getF_of (hx2) rfl, ?_⟩
  conv => whnf
  refine ⟨jx_isC_of hc2, hC _ _ _ _ (((k_number (d := d) (c := 415) (v := (c_cnt o L).toInt32) D2 (by rw [List.length_append, List.length_append]; show bs.length + 12 + 12 + 12 ≤ 256; omega)).up (by omega)).mp ?_)⟩
  rintro r s3 ⟨rfl, dc3, D3⟩
  rw [show (c_cnt o L).toInt32 = R_n4 F 6 from by rw [hE.1.2.1]; exact u32_back _] at D3
  have O3 := O2.dc dc3 D3
  have dc := (dc1.tr dc2).tr dc3
  conv => whnf
  refine hJ _ _ _ _ (k_oc_108 (d := d) O3 hT D3 (by rw [List.length_append, List.length_append, List.length_append]; omega) (by rw [List.length_append, List.length_append, List.length_append]; show bs.length + 12 + 12 + 12 ≤ 182; omega) (by rw [List.append_assoc, List.append_assoc, List.getElem?_append_left (by omega)]; exact h0) (fun σ' A' T' y1 y2 y3 y4 y5 y6 => hQ σ' A' T' ?_ (fun a z1 z2 => ?_) (by rw [← dc.1]; exact y3) (by rw [← dc.1]; exact y4) (by rw [← dc.1]; exact y5) y6))
  · rw [List.append_assoc, List.append_assoc, List.append_assoc] at y1
    exact y1
  · rw [y2 a z1 z2, dc.2 a (by omega) (by omega)]
end JxOncred2
