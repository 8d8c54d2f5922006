/-! THE PAIR sign: the class, and both -/
section JxSign2
variable {th : Nat → Nat} {B b m d k n : Nat} {xl : List Int32} {σ σ' σ0 : jx_S} {f f' : jx_F} {A : Nat → Nat → Nat} {G : Nat → Nat → Int32} {T : Nat → Nat} {c o : Int32} {Q : Option Value → jx_S → Prop}
/-- the hand -/
theorem RelC.hand (hR : RelC th B b xl σ f A G T) (h1 : ∀ q, q ≠ B → q ≠ B + 1 → σ'.1 q = σ.1 q) (h2 : σ'.2 = σ.2) (hf : ∀ q j, q ≠ 3 → q ≠ 4 → q < 65 → q ≠ 0 → q ≠ 2 → f'.1 q j = f.1 q j) (hl : ∀ q j, 36 ≤ q → q ≤ 53 → f'.2 q j = f.2 q j) (hX : σ'.1 B = some (cx_e B f' (A 0 0) (G 0 0))) (hH : ∃ n : Nat, (f'.1 4 0).toInt = (n : Int) ∧ n ≤ 40 ∧ ∃ h : Nat → Int32, σ'.1 (B + 1) = some (.inl (0, 40, .inl h)) ∧ ∀ j, j < n → h j = f'.1 3 j ∧ isb (h j)) : RelC th B b xl σ' f' A G T := by
  have hch : chg (fun a => a = B ∨ a = B + 1) σ σ' T T := ⟨fun a _ hw => h1 a (fun e => hw (Or.inl e)) (fun e => hw (Or.inr e)), by rw [h2]; exact Nat.le_refl _, fun _ _ => rfl⟩
  have hB := hR.1.2.2.2.2.1
  have hd : ∀ a t, dy B σ T a t → ¬ (a = B ∨ a = B + 1) := fun a t hd => by have := hd.1; omega
  have k0 : ∀ q j, 5 ≤ q → q < 65 → f'.1 q j = f.1 q j := fun q j z1 z2 => hf q j (by omega) (by omega) z2 (by omega) (by omega)
  obtain ⟨hx, hd', hC, hP, hQ, hk, ha, hs⟩ := hR
  refine ⟨?_, hd'.mv hch hB ⟨by omega, by omega, by omega⟩ (fun a h => hd a _ h) (fun q j hq => k0 q j (by omega) (by omega)) rfl, fun c hc => (hC c hc).mv hc hch hB ⟨by omega, by omega, by omega⟩ (fun a t h _ => hd a t h) (fun q hq => k0 q _ (by simp only [List.mem_cons, List.not_mem_nil, or_false] at hq; omega) (by simp only [List.mem_cons, List.not_mem_nil, or_false] at hq; omega)) (fun j _ => k0 29 _ (by omega) (by omega)) (fun j _ => k0 31 _ (by omega) (by omega)) ⟨rfl, rfl, fun _ => rfl⟩ rfl, hP.mv hch hB (by omega) (fun a t h _ => hd a t h) (fun q j q1 q2 => k0 q j (by omega) (by omega)) (fun _ _ _ => rfl) (fun _ => rfl), hQ.mv hch hB (by omega) (fun a t h _ => hd a t h) (fun q j hq => k0 q j (by simp only [List.mem_cons, List.not_mem_nil, or_false] at hq; omega) (by simp only [List.mem_cons, List.not_mem_nil, or_false] at hq; omega)) (fun j => hl 53 j (by omega) (by omega)) (fun _ _ _ => rfl), hk.mv hch hB (by omega) (fun a t h _ => hd a t h) (fun q j q1 q2 => k0 q j (by omega) (by omega)) (fun _ _ _ => rfl), ha.mv hch hB (by omega) (fun a t h _ => hd a t h) (k0 35 0 (by omega) (by omega)) (fun q j q1 q2 => hl q j (by omega) (by omega)) (fun _ _ _ => rfl), hs.mv hch hB (by omega) (fun a t h _ => hd a t h) (fun q j q1 q2 => k0 q j (by omega) (by omega)) (fun q j hq => hl q j (by omega) (by omega)) (by rw [k0 7 0 (by omega) (by omega)]; exact Int.le_refl _) (by rw [k0 35 0 (by omega) (by omega)]; exact Int.le_refl _) (fun _ _ _ => rfl) (fun _ _ => rfl) (fun _ _ => rfl)⟩
  obtain ⟨x1, x2, x3, x4, x6, x7, -, ⟨n2, z8, z9, y2, z10, z11⟩, ⟨g, c1, c2⟩, x12, ⟨o1, o2, o3, o4, o5, o6, x13⟩⟩ := hx
  have hlow : ∀ a, a < B → σ'.1 a = σ.1 a := fun a ha => h1 a (by omega) (by omega)
  refine ⟨by rw [hlow b x2]; exact x1, x2, ⟨?_, ?_, fun z z1 z2 => ?_⟩, x4, by rw [h2]; exact x6, hX, hH, ⟨n2, by rw [k0 6 0 (by omega) (by omega)]; exact z8, z9, y2, ?_, fun j hj => by rw [k0 5 j (by omega) (by omega)]; exact z11 j hj⟩, ⟨g, by rw [h1 _ (by omega) (by omega)]; exact c1, c2⟩, by rw [h1 _ (by omega) (by omega)]; exact x12, ⟨o1, o2, o3, o4, o5, o6, by rw [h1 _ (by omega) (by omega)]; exact x13⟩⟩
  · rw [hlow _ (x4 0 (by omega))]; exact x3.1
  · rw [hlow _ (x4 1 (by omega))]; exact x3.2.1
  · rw [hlow _ (x4 z z2)]; exact x3.2.2 z z1 z2
  · rcases z10 with ⟨z1, z2⟩ | ⟨z1, z2⟩
    · exact Or.inl ⟨z1, by rw [z1] at z2 ⊢; rw [hlow _ (x4 0 (by omega))]; exact z2⟩
    · exact Or.inr ⟨hch.mv z1, by rw [hch.eqv z1 (hd _ _ z1)]; exact z2⟩
theorem k_sg1 : ∀ (r i M : Nat) (sv mv : Int32), sv = Int32.ofInt (24 - 8 * (i : Int)) → i + r = 4 → mv.toInt = (M : Int) → M ≤ i → (sg_bad c r i → Q (some (.int (-2))) σ) → (¬ sg_bad c r i → ∀ mv' : Int32, mv'.toInt = ((M + sg_more c r i : Nat) : Int) → cl_fj th (d + 1) 15 65 [(0, .ref B), (1, .int c), (2, .int mv')] [] σ Q) → cl_fj th (d + 1) 15 17 [(0, .ref B), (1, .int c), (2, .int mv), (3, .int sv)] [] σ Q
  | 0, i, M, sv, mv, hs, hi, hm, hMi, h1, h2 => by
    refine cl_at dt_15 60 [(65, [0, 1, 2])] dt_15_k ?_
    intro C J hC hJ
    conv => whnf
    refine jx_yes (show sv < 0 by rw [hs, show i = 4 by omega]; decide) ?_
    conv => whnf
    exact hJ _ _ _ _ (h2 (fun z => z) mv (by show _ = ((M + 0 : Nat) : Int); exact hm))
  | r + 1, i, M, sv, mv, hs, hi, hm, hMi, h1, h2 => by
    obtain ⟨e1, e2⟩ := sh_nat hs (by omega)
    have eo := oc_u c i (by omega)
    rw [← e1] at eo
    refine cl_at dt_15 60 [(17, [0, 1, 2, 3])] dt_15_k ?_
    intro C J hC hJ
    conv => whnf
    refine jx_no e2 ?_
    conv => whnf
    rw [show (fun x y : Int32 => x &&& y) ((fun x y : Int32 => (x.toUInt32 >>> (y.toUInt32 &&& Int32.toUInt32 31)).toInt32) c sv) 255 = oc c i from eo]
    by_cases h0 : oc c i = 0
    · refine jx_yes h0 ?_
      conv => whnf
      refine jx_no (show ¬ ¬ oc c i = 0 from fun z => z h0) ?_
      conv => whnf
      have e3 : sg_more c (r + 1) i = sg_more c r (i + 1) := by
        show (if oc c i = 0 then 0 else 1) + _ = _
        rw [if_pos h0, Nat.zero_add]
      refine hJ _ _ _ _ (k_sg1 r (i + 1) M _ _ (sh_next hs (by omega)) (by omega) (by rw [i32_add hm (show (0 : Int32).toInt = 0 by decide) (by omega) (by omega)]; omega) (by omega) (fun z => h1 (Or.inr z)) (fun z mv' hm' => h2 (fun w => w.elim (fun w => w.1 h0) z) mv' (by rw [e3]; exact hm')))
    · refine jx_no h0 ?_
      conv => whnf
      refine hC _ _ _ _ (k_isOfNames.mp ?_)
      rintro r' s1 ⟨hcs, hs1⟩
      rw [hs1]
      rcases hcs with ⟨rfl, hS⟩ | ⟨rfl, hS⟩
      · conv => whnf
        refine jx_yes (show ¬ (1 : Int32) = 0 by decide) ?_
        conv => whnf
        refine jx_yes h0 ?_
        conv => whnf
        have e3 : sg_more c (r + 1) i = 1 + sg_more c r (i + 1) := by
          show (if oc c i = 0 then 0 else 1) + _ = _
          rw [if_neg h0]
        refine hJ _ _ _ _ (k_sg1 r (i + 1) (M + 1) _ _ (sh_next hs (by omega)) (by omega) (by rw [i32_add hm (show (1 : Int32).toInt = 1 by decide) (by omega) (by omega)]; omega) (by omega) (fun z => h1 (Or.inr z)) (fun z mv' hm' => h2 (fun w => w.elim (fun w => w.2 hS) z) mv' (by rw [e3, hm']; omega)))
      · conv => whnf
        refine jx_no (show ¬ ¬ (0 : Int32) = 0 from fun z => z rfl) ?_
        conv => whnf
        exact h1 (Or.inl ⟨h0, hS⟩)
theorem k_sg2 : ∀ (r i N : Nat) (sv : Int32) (f : jx_F) (σ : jx_S), sv = Int32.ofInt (24 - 8 * (i : Int)) → i + r = 4 → (f.1 4 0).toInt = (N : Int) → N + sg_more c r i ≤ 40 → RelC th B b xl σ f A G T → (∀ σ', RelC th B b xl σ' (R_sg c r i f) A G T → kp B σ σ' → Q (some (.int ((R_sg c r i f).1 4 0))) σ') → cl_fj th (d + 1) 15 82 [(0, .ref B), (1, .int c), (3, .int sv)] [] σ Q
  | 0, i, N, sv, f, σ, hs, hi, hN, hl, hR, h => by
    refine cl_at dt_15 60 [] dt_15_k ?_
    intro C J hC hJ
    conv => whnf
    refine jx_yes (show sv < 0 by rw [hs, show i = 4 by omega]; decide) ?_
    conv => whnf
    refine ⟨_, jx_getF_of (hR.X) rfl, ?_⟩
    conv => whnf
    exact h σ hR kp.rf
  | r + 1, i, N, sv, f, σ, hs, hi, hN, hl, hR, h => by
    obtain ⟨e1, e2⟩ := sh_nat hs (by omega)
    have eo := oc_u c i (by omega)
    rw [← e1] at eo
    obtain ⟨n0, hn0, hn40, hh, hrow, hrv⟩ := hR.1.2.2.2.2.2.2.1
    have en : N = n0 := by omega
    subst en
    refine cl_at dt_15 60 [(82, [0, 1, 3])] dt_15_k ?_
    intro C J hC hJ
    conv => whnf
    refine jx_no e2 ?_
    conv => whnf
    rw [show (fun x y : Int32 => x &&& y) ((fun x y : Int32 => (x.toUInt32 >>> (y.toUInt32 &&& Int32.toUInt32 31)).toInt32) c sv) 255 = oc c i from eo]
    by_cases h0 : oc c i = 0
    · have e3 : sg_more c (r + 1) i = sg_more c r (i + 1) := by
        show (if oc c i = 0 then 0 else 1) + _ = _
        rw [if_pos h0, Nat.zero_add]
      have e4 : R_sg c (r + 1) i f = R_sg c r (i + 1) f := by
        show R_sg c r (i + 1) (R_sg1 c i f) = _
        unfold R_sg1
        rw [if_pos h0]
      rw [e4] at h
      refine jx_yes h0 ?_
      conv => whnf
      exact hJ _ _ _ _ (k_sg2 r (i + 1) N _ f σ (sh_next hs (by omega)) (by omega) hN (by omega) hR h)
    · have e3 : sg_more c (r + 1) i = 1 + sg_more c r (i + 1) := by
        show (if oc c i = 0 then 0 else 1) + _ = _
        rw [if_neg h0]
      have e5 : R_sg1 c i f = rf_ui (rf_ui f 3 N (oc c i).toInt8.toInt32) 4 0 (f.1 4 0 + 1) := by
        unfold R_sg1
        rw [if_neg h0, i32_nat hN]
      have e4 : R_sg c (r + 1) i f = R_sg c r (i + 1) (R_sg1 c i f) := rfl
      rw [e4] at h
      obtain ⟨g, hg⟩ : ∃ g, g = R_sg1 c i f := ⟨_, rfl⟩
      rw [← hg] at h e5
      have og : ∀ q j, q ≠ 4 → ¬ (q = 3 ∧ j = N) → g.1 q j = f.1 q j := fun q j z1 z2 => by rw [e5, rf_ui_ne (fun z => z1 z.1), rf_ui_ne z2]
      have g4 : g.1 4 0 = f.1 4 0 + 1 := by rw [e5, rf_ui_eq]
      have g4n : (g.1 4 0).toInt = ((N + 1 : Nat) : Int) := by rw [g4, i32_add (c := 1) hN (by decide) (by omega) (by omega)]; omega
      refine jx_no h0 ?_
      conv => whnf
      refine ⟨_, jx_getF_of (hR.X) rfl, ?_⟩
      conv => whnf
      refine jx_no (show ¬ f.1 4 0 < 0 by rw [Int32.lt_iff_toInt_lt, hN]; simp) ?_
      conv => whnf
      refine ⟨_, jx_getF_of (hR.X) rfl, ?_⟩
      conv => whnf
      refine ⟨_, jx_getF_of (hR.X) rfl, ?_⟩
      conv => whnf
      refine ⟨_, jx_al_of (hrow), ?_⟩
      conv => whnf
      refine jx_no (show ¬ Int32.ofNat 40 ≤ f.1 4 0 by rw [Int32.le_iff_toInt_le, hN, i32_ofNat (by omega)]; omega) ?_
      conv => whnf
      refine ⟨_, jx_getF_of (hR.X) rfl, ?_⟩
      conv => whnf
      refine ⟨_, jx_getF_of (hR.X) rfl, ?_⟩
      conv => whnf
      refine bstK hrow hN (by omega) (fun s1 p1 o1 n1 => ?_)
      conv => whnf
      have x1 := (o1 B (by omega)).trans hR.X
      refine ⟨_, jx_getF_of (x1) rfl, ?_⟩
      conv => whnf
      refine putK x1 rfl (fit_i _) (fun s2 p2 o2 n2 => ?_)
      conv => whnf
      have hR2 : RelC th B b xl s2 g A G T := by
        refine hR.hand (fun q q1 q2 => (o2 q q1).trans (o1 q q2)) (n2.trans n1) (fun q j z1 z2 _ _ _ => og q j z2 (fun z => z1 z.1)) (fun _ _ _ _ => by rw [e5]; rfl) ?_ ⟨N + 1, g4n, by omega, _, (o2 (B + 1) (by omega)).trans p1, fun j hj => ?_⟩
        · rw [p2]
          unfold cx_e
          rw [g4, og 1 0 (by omega) (by omega), og 34 0 (by omega) (by omega)]
          rfl
        · rw [nar_b]
          by_cases e : j = N
          · rw [e, upd_eq, e5, rf_ui_ne (by omega), rf_ui_eq]
            exact ⟨rfl, nar_b _⟩
          · rw [upd_ne e, og 3 j (by omega) (fun z => e z.2)]
            exact hrv j (by omega)
      exact hJ _ _ _ _ (k_sg2 r (i + 1) (N + 1) _ g s2 (sh_next hs (by omega)) (by omega) g4n (by omega) hR2 (fun σ' g1 g2 => h σ' g1 ((show kp B σ s2 from ⟨n2.trans n1, fun q q1 q2 => (o2 q (by omega)).trans (o1 q (by omega))⟩).tr g2)))
theorem R_sg_o {q j : Nat} (h3 : q ≠ 3) (h4 : q ≠ 4) : ∀ (r i : Nat) (f : jx_F), (R_sg c r i f).1 q j = f.1 q j
  | 0, _, _ => rfl
  | r + 1, i, f => (R_sg_o h3 h4 r (i + 1) (R_sg1 c i f)).trans (by
    unfold R_sg1
    split
    · rfl
    · rw [rf_ui_ne (fun z => h4 z.1), rf_ui_ne (fun z => h3 z.1)])
theorem R_sg_l : ∀ (r i : Nat) (f : jx_F), (R_sg c r i f).2 = f.2
  | 0, _, _ => rfl
  | r + 1, i, f => (R_sg_l r (i + 1) (R_sg1 c i f)).trans (by
    unfold R_sg1
    split <;> rfl)
theorem k_sign (hR : RelC th B b xl σ f A G T) : jc th (d + 2) 15 [.ref B, .int c] σ (fun r σ' => r = some (.int (R_signF f c).1) ∧ RelC th B b xl σ' (R_signF f c).2 A G T ∧ kp B σ σ') := by
  obtain ⟨N, hN, hN4, hh, hrow, hrv⟩ := hR.1.2.2.2.2.2.2.1
  have hml := sg_more_le c 4 0
  refine cl_go dt_15 60 [(17, [0, 1, 2, 3])] dt_15_k rfl ?_
  intro C J hC hJ
  conv => whnf
  refine ⟨fun (h1 : ¬ c = -1) => ?_, fun (h1 : ¬ ¬ c = -1) => ?_⟩
  · conv => whnf
    refine hJ _ _ _ _ (k_sg1 4 0 0 _ _ (by decide) (by omega) (by decide) (by omega) (fun hb => ?_) (fun hb mv' hm' => ?_))
    · unfold R_signF
      rw [if_neg h1, if_pos hb]
      exact ⟨rfl, hR, kp.rf⟩
    · have hs : (f.1 4 0 + mv').toInt = ((N + sg_more c 4 0 : Nat) : Int) := by rw [i32_add hN hm' (by omega) (by omega)]; omega
      have e40 : (40 : Int32).toInt = 40 := by decide
      refine cl_at dt_15 60 [(82, [0, 1, 3])] dt_15_k ?_
      intro C J hC hJ
      conv => whnf
      refine ⟨_, jx_getF_of (hR.X) rfl, ?_⟩
      conv => whnf
      refine ⟨fun (h2 : f.1 4 0 + mv' ≤ 40) => ?_, fun (h2 : ¬ f.1 4 0 + mv' ≤ 40) => ?_⟩
      · rw [Int32.le_iff_toInt_le, hs, e40] at h2
        conv => whnf
        refine hJ _ _ _ _ (k_sg2 4 0 N _ f σ (by decide) (by omega) hN (by omega) hR (fun σ' g1 g2 => ?_))
        unfold R_signF
        rw [if_neg h1, if_neg hb, if_neg (by rw [i32_nat hN]; omega)]
        exact ⟨rfl, g1, g2⟩
      · rw [Int32.le_iff_toInt_le, hs, e40] at h2
        conv => whnf
        unfold R_signF
        rw [if_neg h1, if_neg hb, if_pos (by rw [i32_nat hN]; omega)]
        exact ⟨rfl, hR, kp.rf⟩
  · conv => whnf
    refine putK hR.X rfl (fit_i _) (fun s1 p1 o1 n1 => ?_)
    conv => whnf
    unfold R_signF
    rw [if_pos (Decidable.not_not.mp h1)]
    refine ⟨rfl, hR.hand (fun q q1 _ => o1 q q1) n1 (fun q j _ z2 _ _ _ => rf_ui_ne (fun z => z2 z.1)) (fun _ _ _ _ => rfl) ?_ ⟨0, by rw [rf_ui_eq]; decide, by omega, hh, (o1 (B + 1) (by omega)).trans hrow, fun j hj => by omega⟩, n1, fun q q1 q2 => o1 q (by omega)⟩
    rw [p1]
    simp [cx_e, rf_ui]
theorem pair_sign (hR : Rel th B b xl σ f A G T) (hI : PI (fN f) G k) (h1 : σ.2.1 + 2 * ngr A B 8 ≤ B + 118 + 100 * k) (h2 : σ.2.2 + 2600 * ngr A B 8 ≤ 81000 + 13000 * k) (hQ : KQ f) : lawp_0 th b B (B + 39) xl σ (Inv th B b xl (k + 1)) := by
  intro c
  have hI0 := hI.un
  obtain ⟨f0, hf0⟩ : ∃ f0, f0 = rf_ui f 0 0 0 := ⟨_, rfl⟩
  rw [← hf0] at hI0
  obtain ⟨N, hN, hN4, -⟩ := hR.2.1.2.2.2.2.2.2.1
  have hN : (f.1 4 0).toInt = (N : Int) := hN
  refine pair_work (w := (R_signF f0 c).1) (f' := (R_signF f0 c).2) rfl hR hI h1 h2 hQ (fun hW => ?_) (fun σ0 => ?_) (fun G' hl => ?_) (fun hq => ?_)
  · obtain ⟨G1, hR1, hl1⟩ := hW
    rw [← hf0] at hR1 hl1
    refine (k_sign (d := 28) hR1).mp ?_
    rintro r s1 ⟨h3, h4, h5⟩
    refine ⟨h3, A, T, ⟨G1, h4, ?_⟩, h5.kr⟩
    unfold R_signF
    split
    · show (rf_ui f0 4 0 0).1 2 0 = _
      rw [rf_ui_ne (by omega)]; exact hl1
    · split
      · exact hl1
      · split
        · exact hl1
        · show (R_sg c 4 0 f0).1 2 0 = _
          rw [R_sg_o (by omega) (by omega)]; exact hl1
  · rw [hf0]
    exact r_sign (d := 28) hN hN4
  · have fin : ∀ F : jx_F, (∀ q j, q ≠ 3 → q ≠ 4 → F.1 q j = f0.1 q j) → F.2 = f0.2 → F.1 2 0 = lsum G' 8 → PI F G' (k + 1) := fun F e1 e2 e3 => by
      obtain ⟨n, a, hg, -⟩ := id hI0
      refine (hI0.same (G' := G') (by rw [← e1 2 0 (by omega) (by omega)]; exact e3)).of (hg.1.of (e1 6 0 (by omega) (by omega)) (fun c => e1 33 c (by omega) (by omega)) (fun c => e1 32 c (by omega) (by omega))) (fun q j hq => e1 q j ?_ ?_) (fun q j hq => by rw [e2])
      · simp only [List.mem_cons, List.not_mem_nil, or_false] at hq; omega
      · simp only [List.mem_cons, List.not_mem_nil, or_false] at hq; omega
    unfold R_signF at hl ⊢
    split
    · rename_i z
      rw [if_pos z] at hl
      exact fin _ (fun q j _ z4 => rf_ui_ne (fun z => z4 z.1)) rfl hl
    · rename_i z
      rw [if_neg z] at hl
      split
      · rename_i z2
        rw [if_pos z2] at hl
        exact hI0.same hl
      · rename_i z2
        rw [if_neg z2] at hl
        split
        · rename_i z3
          rw [if_pos z3] at hl
          exact hI0.same hl
        · rename_i z3
          rw [if_neg z3] at hl
          exact fin _ (fun q j z3 z4 => R_sg_o z3 z4 4 0 f0) (R_sg_l 4 0 f0) hl
  · rw [← hf0] at hq
    unfold R_signF
    split
    · exact hq.of (fun q j hq' => rf_ui_ne (by omega))
    · split
      · exact hq
      · split
        · exact hq
        · exact hq.of (fun q j hq' => R_sg_o (by omega) (by omega) 4 0 f0)
end JxSign2
