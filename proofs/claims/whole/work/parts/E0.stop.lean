/-! THE PAIR stop -/
noncomputable def R_stopF (f : jx_F) (n a : Nat) (v w : Int32) : Int32 × jx_F := if 1 ≤ v ∧ v ≤ f.1 7 0 then (if 0 ≤ w ∧ w ≤ 2 then (@ite _ (R_open (f.1 11 (v.toNatClampNeg - 1))) (Classical.propDecidable _) (1, R_become (R_sendEnding f (v.toNatClampNeg - 1) w) n a (v.toNatClampNeg - 1) 7) (-3, f)) else (-2, f)) else (-1, f)
section JxStop
variable {th : Nat → Nat} {B b m d k n a p : Nat} {xl : List Int32} {σ σ0 : jx_S} {f f' : jx_F} {A : Nat → Nat → Nat} {G : Nat → Nat → Int32} {T : Nat → Nat}
theorem i32_1x {v : Int32} {x : Int32} (hn : x.toInt = (n : Int)) (h : 1 ≤ v ∧ v ≤ x) : ∃ p : Nat, p < n ∧ v.toInt = ((p + 1 : Nat) : Int) := by
  have h1 := Int32.le_iff_toInt_le.mp h.1
  have h2 := Int32.le_iff_toInt_le.mp h.2
  have e : (1 : Int32).toInt = 1 := by decide
  exact ⟨(v.toInt - 1).toNat, by omega, by omega⟩
theorem R_sendEnding_o {w : Int32} {q j : Nat} (h : q ∉ [2, 31, 32, 34, 65, 66]) (h22 : ¬ (q = 22 ∧ j = p)) : (R_sendEnding f p w).1 q j = f.1 q j := by
  unfold R_sendEnding
  simp only [List.mem_cons, List.not_mem_nil, or_false] at h
  rw [R_msg_o (by omega) (by omega) (by omega) (by omega) (by omega), rf_ui_ne h22, rf_ui_ne (by omega)]
theorem R_sendEnding_v {w : Int32} : (R_sendEnding f p w).1 34 0 = f.1 34 0 + 1 ∧ (R_sendEnding f p w).1 22 p = f.1 34 0 := by
  unfold R_sendEnding
  refine ⟨?_, ?_⟩
  · rw [R_msg_o (by omega) (by omega) (by omega) (by omega) (by omega), rf_ui_ne (by omega), rf_ui_eq]
  · rw [R_msg_o (by omega) (by omega) (by omega) (by omega) (by omega), rf_ui_eq]
theorem R_sendEnding_l {w : Int32} : (R_sendEnding f p w).2 = f.2 := by
  unfold R_sendEnding
  rw [R_msg_l]
  rfl
theorem R_sendEnding_ok {w : Int32} (hg : R_gok f n a) (hp4 : p < 4) : R_ok (R_sendEnding f p w) := by
  obtain ⟨cN, hc, hc8⟩ := hg.cn (q := p) hp4
  obtain ⟨N, hN, hN4⟩ := hg.1.1
  have l1 := R_ml_le (N := R_hs f) (s := 20)
  have l3 : R_hs f = N := i32_nat hN
  unfold R_sendEnding
  refine R_msg_ok (hg.1.of ?_ (fun _ => ?_) (fun _ => ?_)) ?_ hc hc8
  · rw [rf_ui_ne (by omega), rf_ui_ne (by omega)]
  · rw [rf_ui_ne (by omega), rf_ui_ne (by omega)]
  · rw [rf_ui_ne (by omega), rf_ui_ne (by omega)]
  · rw [List.length_append, List.length_append, R_me_len]
    show 20 + (_ + 12) ≤ 700
    omega
theorem r_stop {v w : Int32} (hg : R_gok (rf_ui f 0 0 0) n a) : rfc th σ0 m (d + 9) 264 [.ref 0, .int v, .int w] f (fun r f' => r = some (.int (R_stopF (rf_ui f 0 0 0) n a v w).1) ∧ f' = (R_stopF (rf_ui f 0 0 0) n a v w).2) := by
  obtain ⟨g, hgd⟩ : ∃ g, g = rf_ui f 0 0 0 := ⟨_, rfl⟩
  rw [← hgd] at hg ⊢
  have hn4 := hg.2.2.1
  refine rf_go dt_264 60 [] dt_264_k (by decide +kernel) rfl ?_
  intro C J hC hJ
  conv => whnf
  rw [show rf_ui f 0 0 0 = g from hgd.symm]
  refine hC _ _ _ _ (((r_noPeer (d := d)).up (by omega)).mp ?_)
  rintro r f1 ⟨hcs, hf1⟩
  rw [hf1]
  rcases hcs with ⟨rfl, hv⟩ | ⟨rfl, hv⟩
  · obtain ⟨p, hp, hvp⟩ := i32_1x hg.2.1 hv
    have hp1 : (v - 1).toInt = (p : Int) := by rw [i32_sub (c := 1) hvp (by decide) (by omega) (by omega)]; omega
    have hp1n := i32_nat hp1
    have hpi : jx_in (v - 1) 4 := jx_in_nat hp1 (by omega)
    have ev : v.toNatClampNeg - 1 = p := by rw [i32_nat hvp]; omega
    conv => whnf
    refine jx_yes (show (0 : Int32) = 0 from rfl) ?_
    conv => whnf
    refine hC _ _ _ _ (((r_in (d := d)).up (by omega)).mp ?_)
    rintro r f2 ⟨hcs, hf2⟩
    rw [hf2]
    rcases hcs with ⟨rfl, hw⟩ | ⟨rfl, hw⟩
    · conv => whnf
      refine jx_yes (show ¬ (1 : Int32) = 0 by decide) ?_
      conv => whnf
      refine ⟨hpi, ?_⟩
      conv => whnf
      rw [hp1n]
      have main : R_open (g.1 11 p) → rfc th σ0 m (d + 8) 265 [.ref 0, .int (v - 1), .int w] g (fun r f' => r = none ∧ f' = R_sendEnding g p w) := fun _ => by
        obtain ⟨cN, hc, hc8⟩ := hg.cn (q := p) (by omega)
        exact (r_sendEnding (d := d) hp1 (by omega) hg.1 hc hc8).up (by omega)
      have hg3 : R_gok (R_sendEnding g p w) n a := hg.of (R_sendEnding_ok hg (by omega)) (fun q j hq => R_sendEnding_o (by simp only [List.mem_cons, List.not_mem_nil, or_false] at hq ⊢; omega) (by simp only [List.mem_cons, List.not_mem_nil, or_false] at hq; omega))
      refine ⟨fun (h5 : g.1 11 p = 5) => ?_, fun (h5 : ¬ g.1 11 p = 5) => ?_⟩
      · conv => whnf
        refine hC _ _ _ _ ((main (Or.inl h5)).mp ?_)
        rintro r f3 ⟨rfl, hf3⟩
        conv => whnf
        refine hC _ _ _ _ (((r_becomes (d := d) hp1 (by omega) (by rw [hf3]; exact hg3)).up (by omega)).mp ?_)
        rintro r f4 ⟨rfl, hf4⟩
        conv => whnf
        unfold R_stopF
        rw [if_pos hv, if_pos hw, ev, if_pos (show R_open (g.1 11 p) from Or.inl h5)]
        exact ⟨rfl, by rw [hf4, hf3]⟩
      · conv => whnf
        refine ⟨hpi, ?_⟩
        conv => whnf
        rw [hp1n]
        refine ⟨fun (h6 : g.1 11 p = 6) => ?_, fun (h6 : ¬ g.1 11 p = 6) => ?_⟩
        · conv => whnf
          refine hC _ _ _ _ ((main (Or.inr h6)).mp ?_)
          rintro r f3 ⟨rfl, hf3⟩
          conv => whnf
          refine hC _ _ _ _ (((r_becomes (d := d) hp1 (by omega) (by rw [hf3]; exact hg3)).up (by omega)).mp ?_)
          rintro r f4 ⟨rfl, hf4⟩
          conv => whnf
          unfold R_stopF
          rw [if_pos hv, if_pos hw, ev, if_pos (show R_open (g.1 11 p) from Or.inr h6)]
          exact ⟨rfl, by rw [hf4, hf3]⟩
        · conv => whnf
          unfold R_stopF
          rw [if_pos hv, if_pos hw, ev, if_neg (show ¬ R_open (g.1 11 p) from fun z => z.elim h5 h6)]
          exact ⟨rfl, rfl⟩
    · conv => whnf
      refine jx_no (show ¬ ¬ (0 : Int32) = 0 from fun z => z rfl) ?_
      conv => whnf
      unfold R_stopF
      rw [if_pos hv, if_neg hw]
      exact ⟨rfl, rfl⟩
  · conv => whnf
    refine jx_no (show ¬ (1 : Int32) = 0 by decide) ?_
    conv => whnf
    unfold R_stopF
    rw [if_neg hv]
    exact ⟨rfl, rfl⟩
theorem k_peerAtR {v : Int32} (hR : RelC th B b xl σ f A G T) (h7 : (f.1 7 0).toInt = (n : Int)) (hn4 : n ≤ 4) : jc th (d + 4) 40 [.ref B, .int v] σ (fun r σ' => ((∃ p : Nat, p < n ∧ v.toInt = ((p + 1 : Nat) : Int) ∧ r = some (.ref (A 6 p))) ∨ (r = some .null ∧ ¬ (1 ≤ v ∧ v ≤ f.1 7 0))) ∧ σ' = σ) := by
  have hR' := hR.nrm
  obtain ⟨n', q1, q2, hal, hpe⟩ := hR'.2.2.2.1
  have q1 : (f.1 7 0).toInt = (n' : Int) := q1
  have en : n' = n := by omega
  subst en
  rw [i32_eq (x := f.1 7 0) (n := n') h7 (by omega)]
  exact k_peerAt hR'.X hn4 hal hpe
theorem k_stop {v w : Int32} (hW : RW th B b xl σ f A T) (hS : PS f n a) (h34 : ∃ h : Nat, (f.1 34 0).toInt = (h : Int) ∧ 1 ≤ h ∧ h < 2147483000) : jc th (d + 7) 154 [.ref B, .int v, .int w] σ (fun r σ' => r = some (.int (R_stopF f n a v w).1) ∧ RW th B b xl σ' (R_stopF f n a v w).2 A T ∧ kp B σ σ') := by
  obtain ⟨G, hR, hls⟩ := id hW
  obtain ⟨x, hx, hx1, hx2⟩ := h34
  have h7 := hS.1.2.1
  have hn4 := hS.1.2.2.1
  refine cl_go dt_154 60 [] dt_154_k rfl ?_
  intro C J hC hJ
  conv => whnf
  refine ⟨jx_isC_of hR.X, hC _ _ _ _ (((k_peerAtR (d := d) hR h7 hn4).up (by omega)).mp ?_)⟩
  rintro r s1 ⟨hcs, hs1⟩
  rw [hs1]
  rcases hcs with ⟨p, hp, hvp, rfl⟩ | ⟨rfl, hv⟩
  · have hv : 1 ≤ v ∧ v ≤ f.1 7 0 := by
      refine ⟨?_, ?_⟩
      · rw [Int32.le_iff_toInt_le, hvp]; have : (1 : Int32).toInt = 1 := by decide
        omega
      · rw [Int32.le_iff_toInt_le, hvp, h7]; omega
    have ev : v.toNatClampNeg - 1 = p := by rw [i32_nat hvp]; omega
    have a2 := (hR.pe (p := p) (by omega)).2.1
    conv => whnf
    by_cases hw : 0 ≤ w ∧ w ≤ 2
    · refine jx_no (show ¬ w < 0 from Int32.not_lt.mpr hw.1) ?_
      conv => whnf
      refine jx_yes (show w ≤ 2 from hw.2) ?_
      conv => whnf
      refine ⟨jx_isC_of a2, hC _ _ _ _ (((k_isOpen (d := d) hR (p := p) (by omega)).up (by omega)).mp ?_)⟩
      rintro r s2 ⟨hcs, hs2⟩
      rw [hs2]
      rcases hcs with ⟨rfl, ho⟩ | ⟨rfl, ho⟩
      · obtain ⟨c, hc, e1, e2, e3⟩ := hS.gl hp ho
        conv => whnf
        refine jx_yes (show ¬ (1 : Int32) = 0 by decide) ?_
        conv => whnf
        have h340 : ¬ f.1 34 0 = 0 := fun z => by
          rw [z] at hx
          have : (0 : Int32).toInt = 0 := by decide
          omega
        refine ⟨jx_isC_of hR.X, hC _ _ _ _ (((k_sendEnding (d := d) (cause := w) hW (p := p) (by omega) hc e1 e2 e3 h340).up (by omega)).mp ?_)⟩
        rintro r s3 ⟨rfl, hW3, hk3⟩
        obtain ⟨g, hg⟩ : ∃ g, g = R_sendEnding f p w := ⟨_, rfl⟩
        rw [← hg] at hW3
        have og : ∀ q j, q ∉ [2, 31, 32, 34, 65, 66] → ¬ (q = 22 ∧ j = p) → g.1 q j = f.1 q j := fun q j h1 h2 => by rw [hg]; exact R_sendEnding_o h1 h2
        have hX3 : jx_isC s3 B 0 = true := by obtain ⟨G3, hR3, -⟩ := hW3; exact jx_isC_of hR3.X
        have hq := hS.gq hx (by omega)
        conv => whnf
        refine ⟨hX3, hC _ _ _ _ ((k_leaveOpen (d := d) (s := 7) (a := a) (n := n) (p := p) hW3 (by rw [og 49 0 (by decide) (by omega)]; exact hS.1.2.2.2.1) hS.1.2.2.2.2.1 (by rw [og 7 0 (by decide) (by omega)]; exact h7) hn4 hp (fun i i1 i2 => by rw [og 54 i (by decide) (by omega), og 55 i (by decide) (by omega), hg, R_sendEnding_l]; exact hq i i1 i2) (fun q _ q2 q3 => ?_)).mp ?_)⟩
        · have e11 := og 11 q (by decide) (by omega)
          refine (hS.gl q2 ?_).of (fun u j hu => og u j (by simp only [List.mem_cons, List.not_mem_nil, or_false] at hu ⊢; omega) (by simp only [List.mem_cons, List.not_mem_nil, or_false] at hu; omega))
          have := q3.1
          rw [e11] at this
          exact this
        · rintro r s4 ⟨rfl, hW4, hk4⟩
          conv => whnf
          unfold R_stopF
          rw [if_pos hv, if_pos hw, ev, if_pos ho]
          refine ⟨rfl, ?_, hk3.tr hk4⟩
          show RW th B b xl s4 (R_become (R_sendEnding f p w) n a p 7) A T
          rw [← hg, R_become_yn (fun z => by rcases z with z | z <;> exact absurd z (by decide)) (by rw [og 11 p (by decide) (by omega)]; exact ho)]
          exact hW4
      · conv => whnf
        refine jx_no (show ¬ ¬ (0 : Int32) = 0 from fun z => z rfl) ?_
        conv => whnf
        unfold R_stopF
        rw [if_pos hv, if_pos hw, ev, if_neg ho]
        exact ⟨rfl, hW, kp.rf⟩
    · by_cases hw0 : w < 0
      · refine jx_yes hw0 ?_
        conv => whnf
        unfold R_stopF
        rw [if_pos hv, if_neg hw]
        exact ⟨rfl, hW, kp.rf⟩
      · refine jx_no hw0 ?_
        conv => whnf
        refine jx_no (show ¬ w ≤ 2 from fun z => hw ⟨Int32.not_lt.mp hw0, z⟩) ?_
        conv => whnf
        unfold R_stopF
        rw [if_pos hv, if_neg hw]
        exact ⟨rfl, hW, kp.rf⟩
  · conv => whnf
    unfold R_stopF
    rw [if_neg hv]
    exact ⟨rfl, hW, kp.rf⟩
end JxStop
