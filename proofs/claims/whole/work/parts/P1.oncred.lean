/-! THE CLASS: a CREDIT: its ANSWER is sent, and KEPT -/
section JxOncred
variable {th : Nat → Nat} {B b d n k X S H Z R L bb p q : Nat} {xl : List Int32} {σ σ' : jx_S} {f f' F : jx_F} {A A' : Nat → Nat → Nat} {G : Nat → Nat → Int32} {T T' : Nat → Nat} {o : Nat → Int32} {c cv w z ev t : Int32} {gr en : Int64} {bs : List Int32} {pe : Value} {Q : Option Value → jx_S → Prop}
theorem k_oc_178 (hW : RW th B b xl σ (R_msg F bs cv) A T) (hX : CX B σ T X S H Z pe t o L gr en) (hM : MB σ (B + 9) R L o w z c ev) (hRl : R < σ.2.1) (hl : 20 ≤ L) (hD : DM B σ (A 4 0) bs) (hb2 : 20 ≤ bs.length) (hb3 : bs.length ≤ 244) (h0 : bs[0]? = some ((1 : Int32) >>> 0)) (hE : CRE o L bb F) (hl1 : c_len o L 264 ≤ 40) (h73 : F.1 73 0 = w4 o 16) (hn : (F.1 59 0).toInt = (n : Int)) (hn32 : n ≤ 32) (hQ : ∀ σ' A' T', RW th B b xl σ' (R_go (R_keep (R_bs (rf_ui F 66 0 0) bs) n) cv) A' T' → (∀ a, B + 39 ≤ a → a < B + 102 → σ'.1 a = σ.1 a) → σ.2.1 ≤ σ'.2.1 → σ'.2.1 ≤ σ.2.1 + 3 → σ'.2.2 ≤ σ.2.2 + 268 → (∀ q i, q = 51 ∨ q = 52 → A' q i = A q i) → Q none σ') : cl_fj th (d + 8) 112 178 [(0, .ref B), (4, .ref X)] [] σ Q := by
  obtain ⟨G, hR, hls⟩ := id hW
  have hB := hR.1.2.2.2.2.1
  obtain ⟨hXd, hx, r1, r2, r3⟩ := id hX
  obtain ⟨g, hg⟩ : ∃ g, g = R_bs (rf_ui F 66 0 0) bs := ⟨_, rfl⟩
  have og : ∀ q j, q ≠ 65 → q ≠ 66 → g.1 q j = F.1 q j := fun q j z1 z2 => by rw [hg, R_bs_o z1 z2, rf_ui_ne (by omega)]
  have hs0 : ((rf_ui F 66 0 0).1 66 0).toInt = ((0 : Nat) : Int) := by rw [rf_ui_eq]; decide
  have g66 : (g.1 66 0).toInt = ((bs.length : Nat) : Int) := by rw [hg, R_bs_size bs _ 0 hs0 (by omega), Nat.zero_add]
  have g65 : ∀ i x, bs[i]? = some x → g.1 65 i = x.toInt8.toInt32 := fun i x hx => by
    have := (R_bs_65 bs (rf_ui F 66 0 0) 0 hs0 (by omega)).1 i x hx
    rw [Nat.zero_add] at this
    rw [hg, this]
  have em : R_msg F bs cv = R_go g cv := by rw [hg]; rfl
  obtain ⟨n0, m1, m2, hal, hinj, hke⟩ := id hR.2.2.2.2.2.1
  have h59 : ((R_msg F bs cv).1 59 0).toInt = (n : Int) := by rw [R_msg_o (by omega) (by omega) (by omega) (by omega) (by omega)]; exact hn
  have en0 : n0 = n := by omega
  rw [en0] at hke
  obtain ⟨Y, hY⟩ : ∃ Y, Y = σ.2.1 := ⟨_, rfl⟩
  obtain ⟨s1, hs1⟩ : ∃ s1, s1 = jx_mk σ (.inr (9, tb_df 9)) 4 := ⟨_, rfl⟩
  have o1 : ∀ a, a ≠ Y → s1.1 a = σ.1 a := fun a z => by rw [hs1]; exact jx_mk_ne (by rw [← hY]; exact z)
  have p1 : s1.1 Y = some (.inr (9, [.null, .int 0, .int 0, .null])) := by rw [hs1, hY]; exact jx_mk_eq
  have n1 : s1.2.1 = Y + 1 ∧ s1.2.2 = σ.2.2 + 4 := by rw [hs1, hY]; exact ⟨rfl, rfl⟩
  have lX : X < Y := by rw [hY]; exact hXd.2.1
  have hx1 := (o1 X (by omega)).trans hx
  have M1 := hM.kp' (o1 (B + 9) (by omega)) (o1 R (by omega))
  have hX1 : s1.1 B = _ := (o1 B (by omega)).trans hR.X
  have D1 : DM B s1 (A 4 0) bs := by
    obtain ⟨w', n', ⟨h11, h12⟩, a3, a4⟩ := hD
    exact ⟨w', n', ⟨(o1 _ (by omega)).trans h11, (o1 _ (by omega)).trans h12⟩, a3, a4⟩
  obtain ⟨cn, hc11⟩ := D1.c11
  have e1 : (R_msg F bs cv).1 1 0 = F.1 1 0 := R_msg_o (by omega) (by omega) (by omega) (by omega) (by omega)
  refine cl_at dt_112 60 [] dt_112_k ?_
  intro C J hC hJ
  conv => whnf
  rw [← hs1, ← hY]
  refine ⟨_, jx_getF_of (hx1) rfl, ?_⟩
  conv => whnf
  refine ⟨_, jx_getF_of (hX1) rfl, ?_⟩
  conv => whnf
  refine ⟨jx_isC_of M1.1, hC _ _ _ _ (((k_end (d := d) M1 hl).up (by omega)).mp ?_)⟩
  rintro r s2 ⟨rfl, hs2⟩
  rw [hs2]
  conv => whnf
  refine ⟨_, jx_getF_of (hX1) rfl, ?_⟩
  conv => whnf
  refine ⟨_, jx_getF_of (hX1) rfl, ?_⟩
  conv => whnf
  refine ⟨jx_isC_of hc11, hC _ _ _ _ (((k_copy (d := d) D1 hb2 (by rw [n1.1]; omega)).up (by omega)).mp ?_)⟩
  rintro r s3 ⟨rfl, ⟨nw, w', c1, c2, c3, c4, c5⟩, c6, c7, c8, c9, c10⟩
  rw [n1.1] at c1 c8 c9 ⊢
  have p3 := (c8 Y (by omega) (by omega) (by omega)).trans p1
  conv => whnf
  refine hC _ _ _ _ (((k_keptInit (d := d) (Hh := H) (ev := w4 o 16) (tv := (R_msg F bs cv).1 1 0) (Wd := Y + 1) p3).up (by omega)).mp ?_)
  rintro r s4 ⟨rfl, p4, o4, n4⟩
  obtain ⟨T4, hT4⟩ : ∃ T4 : Nat → Nat, T4 = fun a => if a = Y then 9 else if a = Y + 1 then 92 else T a := ⟨_, rfl⟩
  have t4a : T4 Y = 9 := by rw [hT4]; exact if_pos rfl
  have t4b : T4 (Y + 1) = 92 := by rw [hT4]; exact (if_neg (by omega)).trans (if_pos rfl)
  have t4o : ∀ a, a < σ.2.1 → T4 a = T a := fun a za => by rw [hT4]; exact (if_neg (by omega)).trans (if_neg (by omega))
  have N4 : s4.2.1 = Y + 2 ∧ s4.2.2 ≤ σ.2.2 + 68 := by
    have e := n4
    rw [e]
    omega
  have k4 : ∀ a, a < σ.2.1 → a ≠ B + 11 → a ≠ B + 12 → s4.1 a = σ.1 a := fun a z1 z2 z3 => by rw [o4 a (by omega), c8 a z2 z3 (by omega), o1 a (by omega)]
  have hch4 : chg (fun a => a = B + 9 ∨ a = B + 11 ∨ a = B + 12) σ s4 T T4 := ⟨fun a z1 z2 => k4 a z1 (fun y => z2 (Or.inr (Or.inl y))) (fun y => z2 (Or.inr (Or.inr y))), by omega, t4o⟩
  have R4 : RelC th B b xl s4 (R_msg F bs cv) A G T4 := by
    refine hR.gm hch4 ?_ ⟨?_, ?_⟩
    · rw [k4 _ (by omega) (by omega) (by omega)]
      exact hR.1.2.2.2.2.2.2.2.2.2.2
    · rw [o4 _ (by omega)]; exact c6
    · rw [o4 _ (by omega)]; exact c7
  have Wd4 : s4.1 (Y + 1) = some (.inl (1, nw, .inl w')) := (o4 _ (by omega)).trans c1
  have rH := hch4.ro (fun a hd z' => by have := hd.1; omega) r2
  have hbn : bs.length = 4 * nw := c2
  have hX4 : s4.1 B = _ := (k4 B (by omega) (by omega) (by omega)).trans hR.X
  have ocs : ∀ j, 4 ≤ j → j < 4 * nw → (cn_pk w' j).toInt32 = g.1 65 j := fun j j1 j2 => by
    have hj : j < bs.length := by omega
    have e := List.getElem?_eq_getElem hj
    rw [g65 j _ e]
    have e2 : (om bs)[j]? = some (bs[j].toInt8) := by show (bs.map Int32.toInt8)[j]? = _; rw [List.getElem?_map, e]; rfl
    rw [c4.2 j _ j1 e2]
  have hag := go_ag (c := cv) (N := bs.length) (g := g) (g' := R_keep g n) ⟨fun q j _ z2 => keep_o z2, keep_l⟩ g66 (by omega)
  conv => whnf
  refine ⟨jx_isC_of hX4, hC _ _ _ _ (((k_keepQ (d := d) (g := g) (f' := R_go (R_keep g n) cv) (L := L) (o := o) (bb := bb) (nw := nw) R4 h59 hn32 ⟨by omega, by omega, t4a⟩ ⟨by omega, by omega, t4b⟩ (fun k hk => ⟨?_, ?_⟩) p4 Wd4 rH (hE.eq (fun q j hq => og q j (by omega) (by omega))) hl1 (by omega) c3 (by rw [g66, hbn]) c5 ?_ ocs ?_ ?_ ?_ ?_ ?_ ?_).up (by omega)).mp ?_)⟩
  · have := (hke k hk).1.2.1
    omega
  · have := (hke k hk).2.1.2.1
    omega
  · rw [g65 0 _ h0]
    decide
  · rw [og 73 0 (by omega) (by omega)]; exact h73
  · rw [og 1 0 (by omega) (by omega)]; exact e1.symm
  · intro q j z1 z2
    rw [em, R_go_o (by omega) (by omega) (by omega) (by omega)]
  · intro q j z1 z2
    rw [em]
    exact hag.1 q j (by omega) z1
  · intro q j z1 z2
    rw [R_go_o (by omega) (by omega) (by omega) (by omega)]
  · rw [em]
    exact hag.2
  · rintro r s5 ⟨rfl, A', T', R5, oA, l5, b5, c5', k5⟩
    conv => whnf
    refine hQ s5 A' T' ⟨G, by rw [← hg]; exact R5, ?_⟩ (fun a z1 z2 => ?_) (by omega) (by omega) (by omega) (fun q i hq => oA q i (by omega))
    · rw [← hg, hag.1 2 0 (by omega) (by omega), ← em]
      exact hls
    · rw [k5 a z2 (by omega), k4 a (by omega) (by omega) (by omega)]
end JxOncred
