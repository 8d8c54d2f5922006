/-! THE CLASS: a CREDIT -/
/-- room, and what stays, over a message -/
def kpm (B : Nat) (A A' : Nat → Nat → Nat) (n s : Nat) (σ σ' : jx_S) : Prop := (∀ a, B + 39 ≤ a → a < B + 102 → σ'.1 a = σ.1 a) ∧ σ.2.1 ≤ σ'.2.1 ∧ σ'.2.1 ≤ σ.2.1 + n ∧ σ'.2.2 ≤ σ.2.2 + s ∧ ∀ q i, q = 51 ∨ q = 52 → A' q i = A q i
section JxOncred3
variable {th : Nat → Nat} {B b d n n0 nA mm k X S H Z L bb p q : Nat} {xl : List Int32} {σ σ' : jx_S} {f f' f0 g F : jx_F} {A A' : Nat → Nat → Nat} {G : Nat → Nat → Int32} {T T' : Nat → Nat} {o : Nat → Int32} {c cv w z ev t pv res : Int32} {gr en : Int64} {Q : Option Value → jx_S → Prop}
theorem ans_0 : (R_ans F res)[0]? = some ((1 : Int32) >>> 0) ∧ 20 ≤ (R_ans F res).length := by
  unfold R_ans
  refine ⟨rfl, ?_⟩
  rw [List.length_append]
  show 20 ≤ 20 + _
  omega
theorem k_oc_34 (hW : RW th B b xl σ f A T) (hM : MR σ (B + 9) (A 51 q) L o) (hl : 20 ≤ L) (hbo : ∀ j, j < L → isb (o j)) (hL : LK o L bb f0 f) (hb : bb ≤ 4800) (ho : o = oct f0 bb) (h0 : f.1 74 0 = 0) (hr : ¬ ob o 4 &&& 128 = 0) (hc : w3 o 5 = 272) (hq : q < 8) (hcv : cv.toInt = ((q + 1 : Nat) : Int)) (h26 : ¬ f.1 26 (q + 1) = 0) (hok : R_ok f) (hMI : MI f) (hp : (p : Int) < (f.1 7 0).toInt) (hp4 : p < 4) (hpv : pv = Int32.ofNat p) (hn : (f.1 59 0).toInt = (n : Int)) (hn32 : n ≤ 32) (h35 : (f.1 35 0).toInt = (nA : Int)) (h40 : (f.1 40 0).toInt = (mm : Int)) (hQ : ∀ σ' A' T', RW th B b xl σ' (R_cr2 f nA mm n cv pv) A' T' → kpm B A A' 9 610 σ σ' → Q none σ') : cl_fj th (d + 8) 112 34 [(0, .ref B), (1, .ref (A 6 p)), (2, .ref (B + 14 + 3 * q))] [] σ Q := by
  obtain ⟨G, hR, hls⟩ := id hW
  have hB := hR.1.2.2.2.2.1
  have hL6 := hM.2.1
  have hC := hL.crm h0 hb hL6 ho hr hc
  have hwf := top_in (hL.si h0).2.2.1
  obtain ⟨hce, hrw⟩ := hR.2.2.1 q hq
  rcases hrw with e | ⟨d1, d2, -⟩
  · exact absurd e.2.2.2.2.1 h26
  obtain ⟨nA', x35, x16, -⟩ := id hR.2.2.2.2.2.2.1
  obtain ⟨mm', y40, y16, -, -, hse⟩ := id hR.2.2.2.2.2.2.2
  have eA : nA' = nA := by omega
  have eM : mm' = mm := by omega
  rw [eA] at x16
  rw [eM] at y16 hse
  have hcf := hL.crf h0 hb hL6 ho hC h35 x16 h40 y16 (fun k hk => by obtain ⟨-, -, -, -, ⟨N, hN, hN4, -⟩, -⟩ := hse k hk; exact ⟨N, hN, hN4⟩) (fun s hs => by obtain ⟨-, -, ⟨i, hi, hi2⟩, -⟩ := hse s hs; exact ⟨i, hi, by omega⟩)
  have hE := hL.cre h0 hb hL6 ho hC hcf.2
  obtain ⟨e0a, e0b, e0c, e0d, e0e⟩ := hC.1 263 (Or.inl rfl)
  obtain ⟨e1a, e1b, e1c, e1d, e1e⟩ := hC.1 264 (Or.inr (Or.inl rfl))
  obtain ⟨e2a, e2b, e2c, e2d, e2e⟩ := hC.1 296 (Or.inr (Or.inr rfl))
  have hl0 : c_len o L 263 ≤ 40 := by show sz o (fst o 263 (top o L)) - 8 ≤ 40; omega
  have hl1 : c_len o L 264 ≤ 40 := by show sz o (fst o 264 (top o L)) - 8 ≤ 40; omega
  have hl2 : c_len o L 296 ≤ 40 := by show sz o (fst o 296 (top o L)) - 8 ≤ 40; omega
  obtain ⟨X, hXe⟩ : ∃ X, X = σ.2.1 := ⟨_, rfl⟩
  obtain ⟨s1, hs1⟩ : ∃ s1, s1 = jx_mk σ (.inr (7, tb_df 7)) 14 := ⟨_, rfl⟩
  have o1 : ∀ a, a ≠ X → s1.1 a = σ.1 a := fun a z' => by rw [hs1]; exact jx_mk_ne (by rw [← hXe]; exact z')
  have p1 : s1.1 X = some (.inr (7, [.null, .null, .null, .null, .int 0, .long 0, .long 0, .long 0, .long 0, .int 0, .long 0, .long 0, .long 0, .long 0])) := by rw [hs1, hXe]; exact jx_mk_eq
  have n1 : s1.2.1 = X + 1 ∧ s1.2.2 = σ.2.2 + 14 := by rw [hs1, hXe]; exact ⟨rfl, rfl⟩
  obtain ⟨T1, hT1⟩ : ∃ T1 : Nat → Nat, T1 = fun a => if a = X then 7 else T a := ⟨_, rfl⟩
  have t1x : T1 X = 7 := by rw [hT1]; exact if_pos rfl
  have t1o : ∀ a, a ≠ X → T1 a = T a := fun a h => by rw [hT1]; exact if_neg h
  have hch1 : chg (fun _ => False) σ s1 T T1 := ⟨fun a h _ => o1 a (by omega), by omega, fun a h => t1o a (by omega)⟩
  have R1 := hR.w7 hch1 (fun a h => absurd h (fun z' => z'))
  have lR : A 51 q < X := by rw [hXe]; exact d1.2.1
  have M1 := MB.kp' (show MB σ (B + 9) (A 51 q) L o (wr o L) (nmb o L) (wcd o L) (Int32.ofNat (sat o L)) from hM) (o1 (B + 9) (by omega)) (o1 (A 51 q) (by omega))
  have dX1 : dy B s1 T1 X 7 := ⟨by omega, by omega, t1x⟩
  refine cl_at dt_112 60 [(65, [0, 2, 4])] dt_112_k ?_
  intro C J hC' hJ
  conv => whnf
  rw [← hs1, ← hXe]
  refine ⟨_, jx_getF_of (R1.X) rfl, ?_⟩
  conv => whnf
  refine ⟨_, jx_getF_of (R1.X) rfl, ?_⟩
  conv => whnf
  refine hC' _ _ _ _ (((k_newCredit (d := d) (pp := A 6 p) (t := f.1 1 0) M1 hbo hwf (fun x hx hp => hL.gf h0 hL6 (by rcases hx with rfl | rfl | rfl <;> decide) hp) hC (fun x hx hp => hL.u16 h0 hL6 (by rcases hx with rfl | rfl <;> decide) hp) (fun hp => by obtain ⟨a1, a2, a3, a4, -⟩ := hL.gq (x := 443) (y := 444) h0 hL6 (by decide) (by decide) rfl hp; exact ⟨a2, a3, a4⟩) p1 dX1 (by omega) (by omega) (by omega)).up (by omega)).mp ?_)
  rintro r s2 ⟨rfl, T2, X2, o2, t2, n2, l2⟩
  have hch2 : chg (fun a => a = X) s1 s2 T1 T2 := ⟨fun a h1 h2 => o2 a h1 h2, by omega, t2⟩
  have R2 := R1.w7 hch2 (fun a h => by rw [show a = X from h]; exact dX1)
  have M2 := M1.kp' (o2 (B + 9) (by omega) (by omega)) (o2 (A 51 q) (by omega) (by omega))
  obtain ⟨c0, hc0⟩ : ∃ c0, c0 = R_cr0 f := ⟨_, rfl⟩
  have oc0 : ∀ u j, u ≠ 89 → u ≠ 91 → c0.1 u j = f.1 u j := fun u j z1 z2 => by rw [hc0]; exact cr0_o z1 z2
  have lc0 : c0.2 = f.2 := by rw [hc0]; rfl
  have R2c : RelC th B b xl s2 c0 A G T2 := R2.eqf (fun u j z1 _ _ => oc0 u j (by omega) (by omega)) (fun u j _ _ => by rw [lc0])
  have hEc := hE.eq (f' := c0) (fun u j hu => oc0 u j (by omega) (by omega))
  have MIc : MI c0 := MI.of hMI (oc0 _ _ (by omega) (by omega)) (oc0 _ _ (by omega) (by omega)) (fun s => oc0 _ _ (by omega) (by omega)) (fun u j _ => by rw [lc0])
  have TEc : TE c0 (-1) (-1) := by
    rw [hc0]
    refine ⟨Or.inl ⟨rfl, ?_⟩, Or.inl ⟨rfl, ?_⟩⟩
    · unfold R_cr0
      rw [rf_ui_ne (by omega), rf_ui_eq]
    · unfold R_cr0
      rw [rf_ui_eq]
  have e1c : f.1 1 0 = c0.1 1 0 := (oc0 1 0 (by omega) (by omega)).symm
  rw [e1c] at X2
  have hLd := R2c.1.2.2.2.2.2.2.2.2.2.1
  conv => whnf
  refine ⟨_, jx_getF_of (R2.X) rfl, ?_⟩
  conv => whnf
  refine ⟨jx_isC_of hLd, hC' _ _ _ _ ((k_judge (d := d) (nA := nA) (mm := mm) (pv := pv) R2c hEc X2 (by rw [oc0 _ _ (by omega) (by omega)]; exact h40) (by rw [oc0 _ _ (by omega) (by omega)]; exact h35) MIc TEc hl0 hl1 hl2 (by rw [oc0 _ _ (by omega) (by omega)]; exact hp) hp4 hpv).mp ?_)⟩
  rintro r s3 ⟨rfl, A3, T3, gr, en, R3, X3, TE3, b3, l3, oA3, hch3⟩
  obtain ⟨D, hD⟩ : ∃ D, D = R_dec c0 nA mm pv := ⟨_, rfl⟩
  rw [← hD] at R3 TE3 ⊢
  obtain ⟨F, hF⟩ : ∃ F, F = R_cr1 f nA mm pv := ⟨_, rfl⟩
  have eF : F = rf_ui D.2 88 0 D.1 := by rw [hF, hD, hc0]; rfl
  have F88 : F.1 88 0 = D.1 := by rw [eF, rf_ui_eq]
  have oF : ∀ u j, ¬ (40 ≤ u ∧ u ≤ 48) → u ≠ 88 → u ≠ 89 → u ≠ 91 → F.1 u j = f.1 u j := fun u j a1 a2 a3 a4 => by rw [hF]; exact cr1_o a1 a2 a3 a4
  have dW : ∀ a t, dy B s2 T2 a t → t ≠ 74 → t ≠ 8 → t ≠ 7 → ¬ (3000 ≤ t ∧ t < 3016) → ¬ WL B s2 T2 a := fun a t hd z1 z2 z3 z4 hw => by
    rcases hw with hw | ⟨t', hd', hw⟩
    · have := hd.1; omega
    · have e1 := hd'.2.2
      rw [hd.2.2] at e1
      omega
  have dR2 : dy B s2 T2 (A 51 q) (510 + q) := ⟨d1.1, by omega, by rw [t2 _ (by omega), t1o _ (by omega)]; exact d1.2.2⟩
  have M3 := M2.kp' (hch3.1 (B + 9) (by omega) (fun hw => by rcases hw with hw | ⟨t', hd', -⟩; omega; have := hd'.1; omega)) (hch3.eqv dR2 (dW _ _ dR2 (by omega) (by omega) (by omega) (by omega)))
  have R3F : RelC th B b xl s3 F A3 G T3 := R3.eqf (fun u j z1 _ _ => by rw [eF, rf_ui_ne (by omega)]) (fun u j _ _ => by rw [eF]; rfl)
  have TEF : TE F gr en := te_of TE3 (by rw [eF, rf_ui_ne (by omega)]) (by rw [eF, rf_ui_ne (by omega)]) (by rw [eF]; rfl)
  obtain ⟨hLF, hoF⟩ := hL.mv ho (g' := F) (fun u j hu => oF u j (by omega) (by omega) (by omega) (by omega))
  have okF : R_ok F := hok.of (oF _ _ (by omega) (by omega) (by omega) (by omega)) (fun c => oF _ _ (by omega) (by omega) (by omega) (by omega)) (fun c => oF _ _ (by omega) (by omega) (by omega) (by omega))
  have skF := (SE.sok hLF hb).1
  have al := R_ans_l (res := D.1) okF skF
  have a0 := ans_0 (F := F) (res := D.1)
  conv => whnf
  refine ⟨jx_isC_of R3F.X, hC' _ _ _ _ (((k_beginAnswer (d := d) (res := D.1) R3F M3 hl hLF hb hoF).up (by omega)).mp ?_)⟩
  rintro r s4 ⟨rfl, dc4, D4⟩
  have W3 : RW th B b xl s3 F A3 T3 := ⟨G, R3F, by rw [oF 2 0 (by omega) (by omega) (by omega) (by omega)]; exact hls⟩
  have O4 : OC th B b xl s4 F A3 T3 X (s1.2.1) (s1.2.1 + 1) (s1.2.1 + 2) (A 51 q) L bb q n (.ref (A 6 p)) (c0.1 1 0) o gr en cv := by
    have O3 : OC th B b xl s3 F A3 T3 X (s1.2.1) (s1.2.1 + 1) (s1.2.1 + 2) (A 51 q) L bb q n (.ref (A 6 p)) (c0.1 1 0) o gr en cv := ⟨W3, X3, ⟨_, _, _, _, M3⟩, hch3.mv dR2, hl, hE.eq (fun u j hu => oF u j (by omega) (by omega) (by omega) (by omega)), hl1, by rw [oF _ _ (by omega) (by omega) (by omega) (by omega)]; exact hL.h73, by rw [oF _ _ (by omega) (by omega) (by omega) (by omega)]; exact hn, hn32, hq, hcv, by rw [oF _ _ (by omega) (by omega) (by omega) (by omega)]; exact h26⟩
    exact O3.dc dc4 D4
  conv => whnf
  refine hJ _ _ _ _ (k_oc_65 (d := d) O4 TEF D4 a0.2 al.1 a0.1 (fun σ' A' T' y1 y2 y3 y4 y5 y6 => hQ σ' A' T' ?_ ⟨fun a z1 z2 => ?_, ?_, ?_, ?_, fun u i hu => ?_⟩))
  · rw [show R_cr2 f nA mm n cv pv = R_go (R_keep (R_bs (rf_ui F 66 0 0) (R_crT F)) n) cv by unfold R_cr2; rw [← hF]]
    unfold R_crT
    rw [F88]
    exact y1
  · rw [y2 a z1 z2, dc4.2 a (by omega) (by omega), hch3.1 a (by omega) (fun hw => by rcases hw with hw | ⟨t', hd', -⟩; omega; have := hd'.1; omega), o2 a (by omega) (by omega), o1 a (by omega)]
  · have := hch3.2.1
    rw [dc4.1] at y3
    omega
  · rw [dc4.1] at y4
    omega
  · rw [dc4.1] at y5
    omega
  · rw [y6 u i hu, oA3 u i (by omega)]
end JxOncred3
