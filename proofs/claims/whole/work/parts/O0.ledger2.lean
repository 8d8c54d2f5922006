/-! THE CLASS: the LEDGER: frames, the place of a SESSION -/
def CRE (o : Nat → Int32) (L bb : Nat) (f : jx_F) : Prop := CRF o L f ∧ ∀ k, k < 3 → (f.1 67 0 + f.1 77 k).toInt = ((bb + (fst o (kc k) (top o L) + 8) : Nat) : Int) ∧ f.1 78 k = Int32.ofNat (c_len o L (kc k)) ∧ ∀ j, f.1 29 (bb + (fst o (kc k) (top o L) + 8) + j) = c_row o L (kc k) j
section JxLedger2
variable {th : Nat → Nat} {B b d m s ac i n k bb L X S H Z nA mm : Nat} {xl : List Int32} {σ σ' : jx_S} {f f' f0 g : jx_F} {A A' : Nat → Nat → Nat} {G : Nat → Nat → Int32} {T T' : Nat → Nat} {W : Nat → Prop} {o : Nat → Int32} {pe : Value} {t : Int32} {gr en : Int64} {Q : Option Value → jx_S → Prop}
theorem RelC.led (hR : RelC th B b xl σ f A G T) (hch : chg W σ σ' T T') (hW : ∀ a, W a → a = B + 8 ∨ ∃ t, dy B σ T a t ∧ (t = 74 ∨ t = 8 ∨ t = 7 ∨ (3000 ≤ t ∧ t < 3016))) (hf : ∀ q j, ¬ (40 ≤ q ∧ q ≤ 48) → q < 65 → q ≠ 0 → q ≠ 2 → f'.1 q j = f.1 q j) (hl : ∀ j, f'.2 53 j = f.2 53 j) (hA : ∀ q i, ¬ (q = 8 ∨ q = 81 ∨ q = 82 ∨ q = 83 ∨ (q = 70 ∧ i = 4)) → A' q i = A q i) (ha : rl_a th B σ' f' A' T') (hs : rl_s th B σ' f' A' T') : RelC th B b xl σ' f' A' G T' := by
  have hB := hR.1.2.2.2.2.1
  have lo : ∀ a, a < B + 102 → a ≠ B + 8 → ¬ W a := fun a h1 h2 h => by
    rcases hW a h with e | ⟨t, e, -⟩
    · exact h2 e
    · have := e.1; omega
  have hd : ∀ a t, dy B σ T a t → t ≠ 74 → t ≠ 8 → t ≠ 7 → ¬ (3000 ≤ t ∧ t < 3016) → ¬ W a := fun a t h1 h2 h3 h5 h4 h => by
    rcases hW a h with e | ⟨t', e, e2⟩
    · have := h1.1; omega
    · have e1 := e.2.2
      rw [h1.2.2] at e1
      omega
  have k0 : ∀ q j, q < 65 → q ≠ 0 → q ≠ 2 → ¬ (40 ≤ q ∧ q ≤ 48) → f'.1 q j = f.1 q j := fun q j z1 z2 z3 z4 => hf q j z4 z1 z2 z3
  obtain ⟨hx, hd', hC, hP, hQ, hk, -, -⟩ := hR
  refine ⟨hx.mv hch (fun a h => lo a (by omega) (by omega)) ⟨lo _ (by omega) (by omega), lo _ (by omega) (by omega), lo _ (by omega) (by omega), lo _ (by omega) (by omega)⟩ (fun a h => hd a _ h (by omega) (by omega) (by omega) (by omega)) ?_ (fun q j q1 q2 => k0 q j (by omega) (by omega) (by omega) (by omega)) (hA 0 0 (by omega)), hd'.mv hch hB ⟨lo _ (by omega) (by omega), lo _ (by omega) (by omega), lo _ (by omega) (by omega)⟩ (fun a h => hd a _ h (by omega) (by omega) (by omega) (by omega)) (fun q j hq => k0 q j (by omega) (by omega) (by omega) (by omega)) (hA 4 0 (by omega)), fun c hc => (hC c hc).mv hc hch hB ⟨lo _ (by omega) (by omega), lo _ (by omega) (by omega), lo _ (by omega) (by omega)⟩ (fun a t h ht => hd a t h (by omega) (by omega) (by omega) (by omega)) (fun q hq => k0 q _ (by simp only [List.mem_cons, List.not_mem_nil, or_false] at hq; omega) (by simp only [List.mem_cons, List.not_mem_nil, or_false] at hq; omega) (by simp only [List.mem_cons, List.not_mem_nil, or_false] at hq; omega) (by simp only [List.mem_cons, List.not_mem_nil, or_false] at hq; omega)) (fun j _ => k0 29 _ (by omega) (by omega) (by omega) (by omega)) (fun j _ => k0 31 _ (by omega) (by omega) (by omega) (by omega)) ⟨hA 51 c (by omega), hA 52 c (by omega), fun i => hA 6 i (by omega)⟩ rfl, hP.mv hch hB (lo _ (by omega) (by omega)) (fun a t h ht => hd a t h (by omega) (by omega) (by omega) (by omega)) (fun q j q1 q2 => k0 q j (by omega) (by omega) (by omega) (by omega)) (fun q i hq => hA q i (by omega)) (fun _ => rfl), hQ.mv hch hB (lo _ (by omega) (by omega)) (fun a t h ht => hd a t h (by omega) (by omega) (by omega) (by omega)) (fun q j hq => k0 q j (by simp only [List.mem_cons, List.not_mem_nil, or_false] at hq; omega) (by simp only [List.mem_cons, List.not_mem_nil, or_false] at hq; omega) (by simp only [List.mem_cons, List.not_mem_nil, or_false] at hq; omega) (by simp only [List.mem_cons, List.not_mem_nil, or_false] at hq; omega)) hl (fun q i hq => hA q i (by omega)), hk.mv hch hB (lo _ (by omega) (by omega)) (fun a t h ht => hd a t h (by omega) (by omega) (by omega) (by omega)) (fun q j q1 q2 => k0 q j (by omega) (by omega) (by omega) (by omega)) (fun q i hq => hA q i (by omega)), ha, hs⟩
  rw [hch.1 B (by omega) (lo _ (by omega) (by omega)), hA 0 0 (by omega)]
  have := hx.2.2.2.2.2.1
  rw [this]
  unfold cx_e
  rw [k0 4 0 (by omega) (by omega) (by omega) (by omega), k0 1 0 (by omega) (by omega) (by omega) (by omega), k0 34 0 (by omega) (by omega) (by omega) (by omega)]

theorem RelC.w7 (hR : RelC th B b xl σ f A G T) (hch : chg W σ σ' T T') (hW : ∀ a, W a → dy B σ T a 7) : RelC th B b xl σ' f A G T' := by
  have hB := hR.1.2.2.2.2.1
  have lo : ∀ a, a < B + 102 → ¬ W a := fun a h1 h => by have := (hW a h).1; omega
  have hd : ∀ a t, dy B σ T a t → t ≠ 7 → ¬ W a := fun a t h1 h2 h => by
    have e1 := (hW a h).2.2
    rw [h1.2.2] at e1
    exact h2 e1
  exact hR.led hch (fun a h => Or.inr ⟨7, hW a h, Or.inr (Or.inr (Or.inl rfl))⟩) (fun _ _ _ _ _ _ => rfl) (fun _ => rfl) (fun _ _ _ => rfl) (hR.2.2.2.2.2.2.1.mv hch hB (lo _ (by omega)) (fun a t h ht => hd a t h (by omega)) rfl (fun _ _ _ _ => rfl) (fun _ _ _ => rfl)) (hR.2.2.2.2.2.2.2.mv hch hB (lo _ (by omega)) (fun a t h ht => hd a t h (by omega)) (fun _ _ _ _ => rfl) (fun _ _ _ => rfl) (Int.le_refl _) (Int.le_refl _) (fun _ _ _ => rfl) (fun _ _ => rfl) (fun _ _ => rfl))
theorem CX.mv (h : CX B σ T X S H Z pe t o L gr en) (hch : chg W σ σ' T T') (hx : ¬ W X) (hw : ∀ a, dy B σ T a 81 → ¬ W a) : CX B σ' T' X S H Z pe t o L gr en := by
  obtain ⟨h1, h2, h3, h4, h5⟩ := h
  exact ⟨hch.mv h1, by rw [hch.eqv h1 hx]; exact h2, hch.ro hw h3, hch.ro hw h4, hch.ro hw h5⟩
theorem LK.cre (hL : LK o L bb f0 g) (h0 : g.1 74 0 = 0) (hb : bb ≤ 4800) (hL6 : L ≤ 600) (ho : o = oct f0 bb) (hC : CRM o L) (hF : CRF o L g) : CRE o L bb g := by
  refine ⟨hF, fun k hk => ?_⟩
  have h3 : kc k = 263 ∨ kc k = 264 ∨ kc k = 296 := by
    rcases (show k = 0 ∨ k = 1 ∨ k = 2 by omega) with rfl | rfl | rfl <;> decide
  obtain ⟨c1, c2, c3, c4, c5⟩ := hC.1 _ h3
  obtain ⟨t1, t2, t3, t4, t5, t6, t7, t8⟩ := hL.tx h0 hb hL6 ho (show k < 12 by omega) rfl c1
  exact ⟨t1, t2, t7⟩
theorem CRE.eq (h : CRE o L bb f) (ho : ∀ q j, q = 29 ∨ q = 67 ∨ (77 ≤ q ∧ q ≤ 84) → f'.1 q j = f.1 q j) : CRE o L bb f' := by
  obtain ⟨⟨f1, f2, f3, f4, f5, f6, f7⟩, h2⟩ := h
  have eo : ∀ b', oct f' b' = oct f b' := fun b' => by
    funext j
    exact ho 29 _ (by omega)
  have eu : ∀ k v, k = 83 ∨ k = 84 → R_un f' k v = R_un f k v := fun k v hk => by
    unfold R_un
    rw [ho k 0 (by omega), ho 67 0 (by omega), eo]
  refine ⟨⟨by rw [n4_eq (fun q j hq => ho q j (by omega))]; exact f1, by rw [n4_eq (fun q j hq => ho q j (by omega))]; exact f2, by rw [ho 79 8 (by omega)]; exact f3, fun z => by rw [n4_eq (fun q j hq => ho q j (by omega))]; exact f4 z, fun v => by rw [eu 83 v (Or.inl rfl)]; exact f5 v, fun v => by rw [eu 84 v (Or.inr rfl)]; exact f6 v, ?_⟩, fun k hk => ?_⟩
  · rw [← f7]
    unfold R_who
    rw [ho 81 0 (by omega), ho 82 0 (by omega), ho 67 0 (by omega), eo]
  · obtain ⟨a1, a2, a3⟩ := h2 k hk
    exact ⟨by rw [ho 67 0 (by omega), ho 77 k (by omega)]; exact a1, by rw [ho 78 k (by omega)]; exact a2, fun j => by rw [ho 29 _ (by omega)]; exact a3 j⟩
theorem CRE.wst (h : CRE o L bb f) (hl : c_len o L 263 ≤ 40) {N : Nat} {hh : Nat → Int32} (hN : (f.1 41 (41 * k)).toInt = (N : Int)) (hN4 : N ≤ 40) (hr : ∀ j, j < N → hh j = f.1 41 (41 * k + 1 + j)) : (N = c_len o L 263 ∧ ∀ j, j < N → hh j = c_row o L 263 j) ↔ R_wst f k := by
  obtain ⟨a1, a2, a3⟩ := h.2 0 (by omega)
  have e41 : f.1 41 (41 * k) = Int32.ofNat N := i32_eq hN (by omega)
  unfold R_wst R_isT
  rw [i32_nat hN, i32_nat a1, a2, e41]
  constructor
  · rintro ⟨z1, z2⟩
    exact ⟨by rw [z1]; rfl, fun j hj => by rw [a3, ← hr j hj]; exact (z2 j hj).symm⟩
  · rintro ⟨z1, z2⟩
    refine ⟨(ofN_inj (by have : c_len o L (kc 0) = c_len o L 263 := rfl; omega) (by omega) z1).symm, fun j hj => ?_⟩
    have := z2 j hj
    rw [a3] at this
    rw [hr j hj]
    exact this.symm
theorem k_placeOf_l (hR : RelC th B b xl σ f A G T) (hE : CRE o L bb f) (hl : c_len o L 263 ≤ 40) (hm : (f.1 40 0).toInt = (mm : Int)) (hS : ro_at B σ T S (c_len o L 263) (c_row o L 263)) : ∀ (r k : Nat), k + r = mm → (R_so f r k ≠ 16 → Q (some (.int (Int32.ofNat (R_so f r k)))) σ) → (R_so f r k = 16 → Q (some (.int (-1))) σ) → cl_fj th (d + 3) 132 2 [(0, .ref (B + 6)), (1, .ref S), (2, .int (Int32.ofNat k))] [] σ Q
  | 0, k, hk, h1, h2 => by
    have hL := hR.1.2.2.2.2.2.2.2.2.2.1
    obtain ⟨n0, m1, m2, hal, hinj, hse⟩ := id hR.2.2.2.2.2.2.2
    have en : n0 = mm := by omega
    rw [en] at hal hse
    obtain ⟨⟨mc, hl'⟩, -⟩ := hal
    rw [List.length_map, List.length_range] at hl'
    refine cl_at dt_132 60 [] dt_132_k ?_
    intro C J hC hJ
    conv => whnf
    refine ⟨_, jx_getF_of (hL) rfl, ?_⟩
    conv => whnf
    refine ⟨jx_isC_of hl', hC _ _ _ _ (((k_size (d := d) hl').up (by omega)).mp ?_)⟩
    rintro r' s1 ⟨rfl, hs1⟩
    rw [hs1]
    conv => whnf
    refine jx_yes (show Int32.ofNat mm ≤ Int32.ofNat k by rw [nle (by omega) (by omega)]; omega) ?_
    conv => whnf
    exact h2 rfl
  | r + 1, k, hk, h1, h2 => by
    have hL := hR.1.2.2.2.2.2.2.2.2.2.1
    obtain ⟨n0, m1, m2, hal, hinj, hse⟩ := id hR.2.2.2.2.2.2.2
    have en : n0 = mm := by omega
    rw [en] at hal hse
    have hal0 := hal
    obtain ⟨⟨mc, hl'⟩, -⟩ := hal
    rw [List.length_map, List.length_range] at hl'
    obtain ⟨-, s2, -, -, ⟨N, hN, hN4, hrd, hh, hrow, hrv⟩, -⟩ := hse k (by omega)
    obtain ⟨hSd, gg, hSr, hSv⟩ := id hS
    have hki : (Int32.ofNat k).toInt = (k : Int) := i32_ofNat (by omega)
    have iff := hE.wst (k := k) (hh := hh) hl hN hN4 (fun j hj => (hrv j hj).1)
    have iff2 : (N = c_len o L 263 ∧ ∀ j, j < N → hh j = gg j) ↔ R_wst f k := by
      rw [← iff]
      constructor
      · rintro ⟨z1, z2⟩
        exact ⟨z1, fun j hj => by rw [z2 j hj]; exact (hSv j (by omega)).1⟩
      · rintro ⟨z1, z2⟩
        exact ⟨z1, fun j hj => by rw [z2 j hj]; exact (hSv j (by omega)).1.symm⟩
    refine cl_at dt_132 60 [(2, [0, 1, 2])] dt_132_k ?_
    intro C J hC hJ
    conv => whnf
    refine ⟨_, jx_getF_of (hL) rfl, ?_⟩
    conv => whnf
    refine ⟨jx_isC_of hl', hC _ _ _ _ (((k_size (d := d) hl').up (by omega)).mp ?_)⟩
    rintro r' s1 ⟨rfl, hs1⟩
    rw [hs1]
    conv => whnf
    refine jx_no (show ¬ Int32.ofNat mm ≤ Int32.ofNat k by rw [nle (by omega) (by omega)]; omega) ?_
    conv => whnf
    refine ⟨_, jx_getF_of (hL) rfl, ?_⟩
    conv => whnf
    refine ⟨jx_isC_of hl', hC _ _ _ _ ((k_get (d := d) hal0 hki (by simp [show k < mm by omega] : ((List.range mm).map (A 8))[k]? = some (A 8 k))).mp ?_)⟩
    rintro r' s3 ⟨rfl, hs3⟩
    rw [hs3]
    conv => whnf
    refine ⟨jx_cast_of s2 (by decide +kernel), ?_⟩
    conv => whnf
    refine ⟨_, jx_getF_of (s2) rfl, ?_⟩
    conv => whnf
    refine hC _ _ _ _ (((k_isSame (d := d) hrow hSr (by omega) (by omega)).up (by omega)).mp ?_)
    rintro r' s4 ⟨hr4, hs4⟩
    rw [hs4]
    rcases hr4 with ⟨rfl, hr4⟩ | ⟨rfl, hr4⟩
    · have e : R_so f (r + 1) k = k := by
        show (@ite _ _ (Classical.propDecidable _) _ _) = _
        rw [if_pos (iff2.mp hr4)]
      rw [e] at h1
      conv => whnf
      refine jx_no (show ¬ (1 : Int32) = 0 by decide) ?_
      conv => whnf
      exact h1 (by omega)
    · have e : R_so f (r + 1) k = R_so f r (k + 1) := by
        show (@ite _ _ (Classical.propDecidable _) _ _) = _
        rw [if_neg (fun z => hr4 (iff2.mpr z))]
      rw [e] at h1 h2
      have k1 : Int32.ofNat k + Int32.ofInt 1 = Int32.ofNat (k + 1) := nadd rfl (by omega)
      have ih := k_placeOf_l hR hE hl hm hS r (k + 1) (by omega) h1 h2
      rw [← k1] at ih
      conv => whnf
      refine jx_yes (show (0 : Int32) = 0 from rfl) ?_
      conv => whnf
      exact hJ _ _ _ _ ih
theorem k_placeOf (hR : RelC th B b xl σ f A G T) (hE : CRE o L bb f) (hl : c_len o L 263 ≤ 40) (hm : (f.1 40 0).toInt = (mm : Int)) (hS : ro_at B σ T S (c_len o L 263) (c_row o L 263)) : jc th (d + 4) 132 [.ref (B + 6), .ref S] σ (fun r σ' => ((R_so f mm 0 ≠ 16 ∧ r = some (.int (Int32.ofNat (R_so f mm 0)))) ∨ (R_so f mm 0 = 16 ∧ r = some (.int (-1)))) ∧ σ' = σ) := by
  refine cl_go dt_132 40 [(2, [0, 1, 2])] dt_132_k rfl ?_
  intro C J hC hJ
  conv => whnf
  exact hJ _ _ _ _ (k_placeOf_l (d := d) hR hE hl hm hS mm 0 (by omega) (fun z => ⟨Or.inl ⟨z, rfl⟩, rfl⟩) (fun z => ⟨Or.inr ⟨z, rfl⟩, rfl⟩))
end JxLedger2
