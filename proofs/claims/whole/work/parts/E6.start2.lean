/-! THE PAIR start, together -/
section JxStart2
variable {th : Nat → Nat} {B b m d k n a p c : Nat} {xl : List Int32} {σ σ0 : jx_S} {f g f' : jx_F} {A : Nat → Nat → Nat} {G G' : Nat → Nat → Int32} {T : Nat → Nat} {s : Int32}
theorem r_start {v : Int32} (hg : R_gok (rf_ui f 0 0 0) n a) : rfc th σ0 m (d + 9) 185 [.ref 0, .int v] f (fun r f' => r = some (.int (R_startF (rf_ui f 0 0 0) v).1) ∧ f' = (R_startF (rf_ui f 0 0 0) v).2) := by
  obtain ⟨g, hgd⟩ : ∃ g, g = rf_ui f 0 0 0 := ⟨_, rfl⟩
  rw [← hgd] at hg ⊢
  have hn4 := hg.2.2.1
  refine rf_go dt_185 60 [] dt_185_k (by decide +kernel) rfl ?_
  intro C J hC hJ
  conv => whnf
  rw [show rf_ui f 0 0 0 = g from hgd.symm]
  refine hC _ _ _ _ (((r_noPeer (d := d)).up (by omega)).mp ?_)
  rintro r f1 ⟨hcs, hf1⟩
  rw [hf1]
  rcases hcs with ⟨rfl, hv⟩ | ⟨rfl, hv⟩
  · obtain ⟨p, hp, hvp⟩ := i32_1x hg.2.1 hv
    have hp1 : (v - 1).toInt = (p : Int) := by rw [i32_sub (c := 1) hvp (by decide) (by omega) (by omega)]; omega
    have hp1n := i32_nat hp1
    have hpi : jx_in (v - 1) 4 := jx_in_nat hp1 (by omega)
    have ev : v.toNatClampNeg - 1 = p := by rw [i32_nat hvp]; omega
    conv => whnf
    refine jx_yes (show (0 : Int32) = 0 from rfl) ?_
    conv => whnf
    refine ⟨hpi, ?_⟩
    conv => whnf
    rw [hp1n]
    refine ⟨fun (h0 : g.1 11 p = 0) => ?_, fun (h0 : ¬ g.1 11 p = 0) => ?_⟩
    · conv => whnf
      refine hC _ _ _ _ ((r_begin (d := d) hp1 (by omega) hg (fun z => by rw [h0] at z; rcases z with z | z <;> exact absurd z (by decide))).mp ?_)
      rintro r f2 (⟨hl, rfl, hf2⟩ | ⟨hl, rfl, hf2⟩)
      · conv => whnf
        refine jx_yes (show (0 : Int32) ≤ 0 by decide) ?_
        conv => whnf
        unfold R_startF
        rw [if_pos hv, ev, if_pos h0, if_pos hl]
        exact ⟨rfl, hf2⟩
      · obtain ⟨h2, h3, -⟩ := R_least_r (f := g) 8 1 hl
        conv => whnf
        refine jx_no (show ¬ Int32.ofNat (R_least g 8 1) ≤ 0 by rw [Int32.le_iff_toInt_le, i32_ofNat (by omega), show (0 : Int32).toInt = 0 by decide]; omega) ?_
        conv => whnf
        unfold R_startF
        rw [if_pos hv, ev, if_pos h0, if_neg hl]
        exact ⟨rfl, hf2⟩
    · conv => whnf
      unfold R_startF
      rw [if_pos hv, ev, if_neg h0]
      exact ⟨rfl, rfl⟩
  · conv => whnf
    refine jx_no (show ¬ (1 : Int32) = 0 by decide) ?_
    conv => whnf
    unfold R_startF
    rw [if_neg hv]
    exact ⟨rfl, rfl⟩
theorem k_start {v : Int32} (hW : RW th B b xl σ f A T) (hS : PS f n a) : jc th (d + 5) 39 [.ref B, .int v] σ (fun r σ' => r = some (.int (R_startF f v).1) ∧ ∃ A' T', RW th B b xl σ' (R_startF f v).2 A' T' ∧ kpa B A A' σ σ') := by
  obtain ⟨G, hR, hls⟩ := id hW
  have h7 := hS.1.2.1
  have hn4 := hS.1.2.2.1
  refine cl_go dt_39 60 [] dt_39_k rfl ?_
  intro C J hC hJ
  conv => whnf
  refine ⟨jx_isC_of hR.X, hC _ _ _ _ ((k_peerAtR (d := d) hR h7 hn4).mp ?_)⟩
  rintro r s1 ⟨hcs, hs1⟩
  rw [hs1]
  rcases hcs with ⟨p, hp, hvp, rfl⟩ | ⟨rfl, hv⟩
  · have hv : 1 ≤ v ∧ v ≤ f.1 7 0 := by
      refine ⟨?_, ?_⟩
      · rw [Int32.le_iff_toInt_le, hvp]; have : (1 : Int32).toInt = 1 := by decide
        omega
      · rw [Int32.le_iff_toInt_le, hvp, h7]; omega
    have ev : v.toNatClampNeg - 1 = p := by rw [i32_nat hvp]; omega
    have a2 := (hR.pe (p := p) (by omega)).2.1
    conv => whnf
    refine ⟨_, jx_getF_of (a2) rfl, ?_⟩
    conv => whnf
    refine ⟨fun (h0 : f.1 11 p = 0) => ?_, fun (h0 : ¬ f.1 11 p = 0) => ?_⟩
    · conv => whnf
      refine ⟨jx_isC_of hR.X, hC _ _ _ _ (((k_startOwn (d := d) hW (p := p) (by omega)).up (by omega)).mp ?_)⟩
      rintro r s2 (⟨hl, rfl, hs2⟩ | ⟨hl, rfl, A', T', hW2, hk2⟩)
      · rw [hs2]
        conv => whnf
        unfold R_startF
        rw [if_pos hv, ev, if_pos h0, if_pos hl]
        exact ⟨rfl, A, T, hW, kpa.rf⟩
      · conv => whnf
        unfold R_startF
        rw [if_pos hv, ev, if_pos h0, if_neg hl]
        exact ⟨rfl, A', T', hW2, hk2⟩
    · conv => whnf
      unfold R_startF
      rw [if_pos hv, ev, if_neg h0]
      exact ⟨rfl, A, T, hW, kpa.rf⟩
  · conv => whnf
    unfold R_startF
    rw [if_neg hv]
    exact ⟨rfl, A, T, hW, kpa.rf⟩
theorem PI.beg (hI : PI f G k) (hS : PS f n a) (hp : p < n) (hc : c < 8) (h11 : f.1 11 p = 0) (h26 : f.1 26 (c + 1) = 0) (hl : (R_beg f p (c + 1)).1 2 0 = lsum G' 8) : PI (R_beg f p (c + 1)) G' (k + 1) := by
  have no : ∀ q : Nat, ¬ (26 ≤ q ∧ q ≤ 33) → ∀ j, ¬ ((q = 11 ∨ q = 12 ∨ q = 13) ∧ j = p) → (R_beg f p (c + 1)).1 q j = f.1 q j := fun q hq j h2 => R_beg_o (fun e => by have := e.1; simp only [List.mem_cons, List.not_mem_nil, or_false] at this; omega) h2
  have h7 := hS.1.2.1
  refine hI.fin (G' := G') (fun n2 a2 hS2 => ?_) (fun q u hu hq => no q (by simp only [List.mem_cons, List.not_mem_nil, or_false] at hq; omega) u (by omega)) (fun i _ => ⟨no 55 (by omega) i (by omega), rfl⟩) hl (no 1 (by omega) 0 (by omega)) (by rw [no 34 (by omega) 0 (by omega)]; exact ⟨Int.le_refl _, by omega⟩) (fun q j hq => no q (by simp only [List.mem_cons, List.not_mem_nil, or_false] at hq; omega) j (by simp only [List.mem_cons, List.not_mem_nil, or_false] at hq; omega)) (fun _ _ _ => rfl)
  obtain ⟨e1, e2⟩ := hS.uniq hS2
  rw [e1, e2]
  exact hS.beg hp hc h11 h26
theorem pair_start (hR : Rel th B b xl σ f A G T) (hI : PI (fN f) G k) (h1 : σ.2.1 + 2 * ngr A B 8 ≤ B + 118 + 100 * k) (h2 : σ.2.2 + 2600 * ngr A B 8 ≤ 81000 + 13000 * k) (hQ : KQ f) : lawp_3 th b B (B + 39) xl σ (Inv th B b xl (k + 1)) := by
  intro v
  have hI0 := hI.un
  obtain ⟨n, a, hS, x, hx, hx1, hx2⟩ := hI0.ps
  obtain ⟨f0, hf0⟩ : ∃ f0, f0 = rf_ui f 0 0 0 := ⟨_, rfl⟩
  rw [← hf0] at hI0 hS hx
  refine pair_work (w := (R_startF f0 v).1) (f' := (R_startF f0 v).2) rfl hR hI h1 h2 hQ (fun hW => (k_start (d := 25) (by rw [hf0]; exact hW) hS).mp (fun r s1 h => by obtain ⟨h3, A', T', h4, h5⟩ := h; exact ⟨h3, A', T', h4, h5.kr⟩)) (fun σ0 => ?_) (fun G' hl => ?_) (fun hq => ?_)
  · rw [hf0]
    exact r_start (d := 21) (n := n) (a := a) (by rw [← hf0]; exact hS.1)
  · unfold R_startF at hl ⊢
    by_cases hv : 1 ≤ v ∧ v ≤ f0.1 7 0
    · obtain ⟨p, hp, hvp⟩ := i32_1x hS.1.2.1 hv
      have ev : v.toNatClampNeg - 1 = p := by rw [i32_nat hvp]; omega
      rw [if_pos hv, ev] at hl ⊢
      by_cases h0 : f0.1 11 p = 0
      · rw [if_pos h0] at hl ⊢
        by_cases hl0 : R_least f0 8 1 = 0
        · rw [if_pos hl0] at hl ⊢
          exact hI0.same hl
        · rw [if_neg hl0] at hl ⊢
          obtain ⟨g1, g2, g3⟩ := R_least_r (f := f0) 8 1 hl0
          obtain ⟨c, hc⟩ : ∃ c, R_least f0 8 1 = c + 1 := ⟨R_least f0 8 1 - 1, by omega⟩
          rw [hc] at g1 g2 g3 hl ⊢
          exact hI0.beg hS hp (by omega) h0 g3 hl
      · rw [if_neg h0] at hl ⊢
        exact hI0.same hl
    · rw [if_neg hv] at hl ⊢
      exact hI0.same hl
  · rw [← hf0] at hq
    unfold R_startF
    by_cases hv : 1 ≤ v ∧ v ≤ f0.1 7 0
    · rw [if_pos hv]
      by_cases h0 : f0.1 11 (v.toNatClampNeg - 1) = 0
      · rw [if_pos h0]
        by_cases hl0 : R_least f0 8 1 = 0
        · rw [if_pos hl0]; exact hq
        · rw [if_neg hl0]
          obtain ⟨g1, g2, g3⟩ := R_least_r (f := f0) 8 1 hl0
          obtain ⟨c, hc⟩ : ∃ c, R_least f0 8 1 = c + 1 := ⟨R_least f0 8 1 - 1, by omega⟩
          rw [hc]
          exact hq.of (fun q j hq' => R_beg_o (fun z => by have := z.1; simp only [List.mem_cons, List.not_mem_nil, or_false] at this; omega) (by omega))
      · rw [if_neg h0]; exact hq
    · rw [if_neg hv]; exact hq
end JxStart2
