/-! THE REFERENCE: the CHOICE, a connection is dropped, one is begun -/
section JxRefdrop
variable {th : Nat → Nat} {σ0 : jx_S} {m d p c n a : Nat} {f f' : jx_F} {Q : Option Value → jx_F → Prop}
theorem R_shut_o {cN pn : Nat} (hp : (f.1 27 cN).toInt = (pn : Int)) {q j : Nat} (h : ¬ ((q = 26 ∨ q = 27 ∨ q = 28 ∨ q = 30) ∧ j = cN)) (h2 : ¬ ((q = 13 ∨ q = 14) ∧ pn ≠ 0 ∧ j = pn - 1)) : (R_shut f cN).1 q j = f.1 q j := by
  unfold R_shut
  rw [R_shut0_o h]
  split
  · rfl
  · rename_i h0
    have hpn0 : pn ≠ 0 := fun e => h0 ((i32_z hp).mpr e)
    unfold R_shutp
    rw [i32_nat hp, rf_ui_ne (by omega), rf_ui_ne (by omega)]
theorem R_shut_l {cN : Nat} : (R_shut f cN).2 = f.2 := by
  unfold R_shut
  show (if _ then _ else _ : jx_F).2 = _
  split
  · rfl
  · rfl
theorem R_shut_gok {cN pn : Nat} (hp : (f.1 27 cN).toInt = (pn : Int)) (hg : R_gok f n a) : R_gok (R_shut f cN) n a := by
  obtain ⟨ho, h7, hn, h49, ha, hq, hu⟩ := hg
  have o := fun q j h1 h2 => R_shut_o (f := f) (cN := cN) hp (q := q) (j := j) h1 h2
  refine ⟨ho.of (o 6 0 (by omega) (by omega)) (fun c => o 33 c (by omega) (by omega)) (fun c => o 32 c (by omega) (by omega)), by rw [o 7 0 (by omega) (by omega)]; exact h7, hn, by rw [o 49 0 (by omega) (by omega)]; exact h49, ha, fun i hi k hk => ?_, fun q hq' => ?_⟩
  · obtain ⟨x, h1, h2⟩ := hq i hi k hk
    exact ⟨x, by rw [o k _ (by omega) (by omega)]; exact h1, h2⟩
  · obtain ⟨⟨x, h1, h2⟩, y, h3, h4⟩ := hu q hq'
    have z0 : (0 : Int32).toInt = ((0 : Nat) : Int) := by decide
    unfold R_shut
    rw [R_shut0_o (by omega), R_shut0_o (by omega)]
    split
    · exact ⟨⟨x, h1, h2⟩, y, h3, h4⟩
    · unfold R_shutp
      by_cases e : q = (f.1 27 cN).toNatClampNeg - 1
      · rw [← e, rf_ui_eq, rf_ui_ne (by omega), rf_ui_eq]
        refine ⟨?_, ?_⟩
        · split
          · exact ⟨0, z0, by omega⟩
          · exact ⟨x, h1, h2⟩
        · split
          · exact ⟨0, z0, by omega⟩
          · exact ⟨y, h3, h4⟩
      · rw [rf_ui_ne (by omega), rf_ui_ne (by omega), rf_ui_ne (by omega), rf_ui_ne (by omega)]
        exact ⟨⟨x, h1, h2⟩, y, h3, h4⟩
theorem r_choose {pv : Int32} {hN pN co pn : Nat} (hp : pv.toInt = (p : Int)) (hp4 : p < 4) (hg : R_gok f n a) (hn : (f.1 6 0).toInt = (hN : Int)) (hn4 : hN ≤ 40) (hm : (f.1 9 p).toInt = (pN : Int)) (hm4 : pN ≤ 40) (h13 : (f.1 13 p).toInt = (co : Int)) (hco : co ≤ 8) (h27 : (f.1 27 co).toInt = (pn : Int)) (hpn : pn ≤ 4) : rfc th σ0 m (d + 9) 214 [.ref 0, .int pv] f (fun r f' => r = none ∧ f' = R_choose f n a p) := by
  have hpx := i32_nat hp
  have hpi : jx_in pv 4 := jx_in_nat hp hp4
  refine rf_go dt_214 60 [] dt_214_k (by decide +kernel) rfl ?_
  intro C J hC hJ
  conv => whnf
  refine hC _ _ _ _ (((r_isLater (d := d) hp hp4 hn hn4 hm hm4).up (by omega)).mp ?_)
  rintro r f1 ⟨hcs, hf1⟩
  rw [hf1]
  rcases hcs with ⟨rfl, hl⟩ | ⟨rfl, hl⟩
  · conv => whnf
    refine jx_no (show ¬ (1 : Int32) = 0 by decide) ?_
    conv => whnf
    refine ⟨hpi, ?_⟩
    conv => whnf
    rw [hpx]
    refine hC _ _ _ _ (((r_shut (d := d) h13 hco h27 hpn).up (by omega)).mp ?_)
    rintro r f2 ⟨rfl, hf2⟩
    have hg2 : R_gok f2 n a := by rw [hf2]; exact R_shut_gok h27 hg
    obtain ⟨cN, hc, hc8⟩ := (hg2.2.2.2.2.2.2 p hp4).2
    conv => whnf
    refine hC _ _ _ _ (((r_answerCame (d := d) hp hp4 hg2.1 hc hc8).up (by omega)).mp ?_)
    rintro r f3 ⟨rfl, hf3⟩
    conv => whnf
    refine hC _ _ _ _ (((r_becomes (d := d) (f := f3) hp hp4 (by rw [hf3]; exact R_answerCame_gok hg2 hp4)).up (by omega)).mp ?_)
    rintro r f4 ⟨rfl, hf4⟩
    conv => whnf
    refine ⟨rfl, ?_⟩
    rw [hf4, hf3, hf2]
    unfold R_choose R_accepts
    rw [if_pos hl, i32_nat h13]
  · conv => whnf
    refine jx_yes (show (0 : Int32) = 0 from rfl) ?_
    conv => whnf
    refine hC _ _ _ _ (((r_becomes (d := d) hp hp4 hg).up (by omega)).mp ?_)
    rintro r f4 ⟨rfl, hf4⟩
    conv => whnf
    refine ⟨rfl, ?_⟩
    rw [hf4]
    unfold R_choose
    rw [if_neg hl]
theorem r_drop {cv : Int32} {cN pn : Nat} (hc : cv.toInt = (cN : Int)) (hc8 : cN ≤ 8) (hg : R_gok f n a) (h27 : (f.1 27 cN).toInt = (pn : Int)) (hpn : pn ≤ 4) (hst : pn ≠ 0 → ∃ st : Nat, (f.1 11 (pn - 1)).toInt = (st : Int) ∧ 1 ≤ st ∧ st ≤ 7) : rfc th σ0 m (d + 9) 208 [.ref 0, .int cv] f (fun r f' => r = none ∧ f' = R_drop f n a cN) := by
  have hcn := i32_nat hc
  have hci : jx_in cv 9 := jx_in_nat hc (by omega)
  have hp1 : (f.1 27 cN - 1).toInt = (pn : Int) - 1 := i32_sub h27 (by decide) (by omega) (by omega)
  refine rf_go dt_208 80 [] dt_208_k (by decide +kernel) rfl ?_
  intro C J hC hJ
  conv => whnf
  refine ⟨hci, ?_⟩
  conv => whnf
  refine ⟨hci, ?_⟩
  conv => whnf
  rw [hcn]
  refine hC _ _ _ _ (((r_shut (d := d) hc hc8 h27 hpn).up (by omega)).mp ?_)
  rintro r g ⟨rfl, hgs⟩
  have hg2 : R_gok g n a := by rw [hgs]; exact R_shut_gok h27 hg
  by_cases h0 : pn = 0
  · have e0 : f.1 27 cN = 0 := (i32_z h27).mpr h0
    conv => whnf
    refine jx_no (show ¬ 0 ≤ f.1 27 cN - 1 by rw [e0]; decide) ?_
    conv => whnf
    refine ⟨rfl, ?_⟩
    unfold R_drop
    rw [if_pos e0]
    exact hgs
  · have e0 : ¬ f.1 27 cN = 0 := fun z => h0 ((i32_z h27).mp z)
    have hq : (f.1 27 cN - 1).toInt = ((pn - 1 : Nat) : Int) := by rw [hp1]; omega
    have hqn := i32_nat hq
    have hqi : jx_in (f.1 27 cN - 1) 4 := jx_in_nat hq (by omega)
    obtain ⟨st, hst, hst1, hst7⟩ := hst h0
    have g11 : g.1 11 (pn - 1) = f.1 11 (pn - 1) := by rw [hgs]; exact R_shut_o h27 (by omega) (by omega)
    have hst' : (g.1 11 (pn - 1)).toInt = (st : Int) := by rw [g11]; exact hst
    have eD : R_drop f n a cN = R_drop1 g n a (pn - 1) (f.1 28 cN) := by
      unfold R_drop
      rw [if_neg e0, i32_nat h27, ← hgs]
    rw [eD]
    have ev : ∀ k : Nat, k < 2147483648 → st = k → g.1 11 (pn - 1) = Int32.ofNat k := fun k hk e => i32_eq (x := g.1 11 (pn - 1)) (n := k) (by rw [hst', e]) hk
    conv => whnf
    refine jx_yes (show 0 ≤ f.1 27 cN - 1 by rw [Int32.le_iff_toInt_le, hq]; have : (0 : Int32).toInt = 0 := by decide
                                             omega) ?_
    conv => whnf
    refine ⟨hqi, ?_⟩
    conv => whnf
    rw [hqn]
    have b0 : R_drop1 g n a (pn - 1) (f.1 28 cN) = R_become g n a (pn - 1) 0 → rfc th σ0 m (d + 8) 189 [.ref 0, .int (f.1 27 cN - 1), .int 0] g (fun r f' => r = none ∧ f' = R_drop1 g n a (pn - 1) (f.1 28 cN)) := fun e => ((r_becomes (d := d) hq (by omega) hg2).up (by omega)).mp (fun r f' h => ⟨h.1, by rw [e]; exact h.2⟩)
    have nn : ¬ g.1 11 (pn - 1) = 3 → ¬ g.1 11 (pn - 1) = 4 → R_drop1 g n a (pn - 1) (f.1 28 cN) = R_become g n a (pn - 1) 0 := fun z1 z2 => by unfold R_drop1; rw [if_neg z1, if_neg z2]
    refine ⟨jx_swx_of (List.forall_mem_cons.mpr ⟨?_, List.forall_mem_cons.mpr ⟨?_, List.forall_mem_cons.mpr ⟨?_, List.forall_mem_cons.mpr ⟨?_, List.forall_mem_cons.mpr ⟨?_, List.forall_mem_cons.mpr ⟨?_, List.forall_mem_cons.mpr ⟨?_, (fun q hq => absurd hq List.not_mem_nil)⟩⟩⟩⟩⟩⟩⟩), ?_⟩
    · intro (hw : g.1 11 (pn - 1) = 1)
      conv => whnf
      refine hC _ _ _ _ ((b0 (nn (by rw [hw]; decide) (by rw [hw]; decide))).mp ?_)
      rintro r f1 ⟨rfl, hf1⟩
      conv => whnf
      exact ⟨rfl, hf1⟩
    · intro (hw : g.1 11 (pn - 1) = 2)
      conv => whnf
      refine hC _ _ _ _ ((b0 (nn (by rw [hw]; decide) (by rw [hw]; decide))).mp ?_)
      rintro r f1 ⟨rfl, hf1⟩
      conv => whnf
      exact ⟨rfl, hf1⟩
    · intro (hw : g.1 11 (pn - 1) = 3)
      conv => whnf
      refine ⟨fun (h1 : ¬ f.1 28 cN = 1) => ?_, fun (h1 : ¬ ¬ f.1 28 cN = 1) => ?_⟩
      · conv => whnf
        refine hC _ _ _ _ (((r_becomes (d := d) hq (by omega) hg2).up (by omega)).mp ?_)
        rintro r f1 ⟨rfl, hf1⟩
        conv => whnf
        refine ⟨rfl, ?_⟩
        unfold R_drop1
        rw [if_pos hw, if_neg h1]
        exact hf1
      · conv => whnf
        refine hC _ _ _ _ ((r_accepts (d := d) hq (by omega) hg2 (R_answerCame_gok hg2 (by omega))).mp ?_)
        rintro r f1 ⟨rfl, hf1⟩
        conv => whnf
        refine ⟨rfl, ?_⟩
        unfold R_drop1
        rw [if_pos hw, if_pos (Decidable.not_not.mp h1)]
        exact hf1
    · intro (hw : g.1 11 (pn - 1) = 4)
      conv => whnf
      refine ⟨fun (h1 : ¬ f.1 28 cN = 1) => ?_, fun (h1 : ¬ ¬ f.1 28 cN = 1) => ?_⟩
      · conv => whnf
        refine hC _ _ _ _ (((r_becomes (d := d) hq (by omega) hg2).up (by omega)).mp ?_)
        rintro r f1 ⟨rfl, hf1⟩
        conv => whnf
        refine ⟨rfl, ?_⟩
        unfold R_drop1
        rw [if_neg (by rw [hw]; decide), if_pos hw, if_neg h1]
        exact hf1
      · conv => whnf
        refine hC _ _ _ _ ((r_accepts (d := d) hq (by omega) hg2 (R_answerCame_gok hg2 (by omega))).mp ?_)
        rintro r f1 ⟨rfl, hf1⟩
        conv => whnf
        refine ⟨rfl, ?_⟩
        unfold R_drop1
        rw [if_neg (by rw [hw]; decide), if_pos hw, if_pos (Decidable.not_not.mp h1)]
        exact hf1
    · intro (hw : g.1 11 (pn - 1) = 5)
      conv => whnf
      refine hC _ _ _ _ ((b0 (nn (by rw [hw]; decide) (by rw [hw]; decide))).mp ?_)
      rintro r f1 ⟨rfl, hf1⟩
      conv => whnf
      exact ⟨rfl, hf1⟩
    · intro (hw : g.1 11 (pn - 1) = 6)
      conv => whnf
      refine hC _ _ _ _ ((b0 (nn (by rw [hw]; decide) (by rw [hw]; decide))).mp ?_)
      rintro r f1 ⟨rfl, hf1⟩
      conv => whnf
      exact ⟨rfl, hf1⟩
    · intro (hw : g.1 11 (pn - 1) = 7)
      conv => whnf
      refine hC _ _ _ _ ((b0 (nn (by rw [hw]; decide) (by rw [hw]; decide))).mp ?_)
      rintro r f1 ⟨rfl, hf1⟩
      conv => whnf
      exact ⟨rfl, hf1⟩
    · refine jx_swd_i (fun hno => ?_)
      exfalso
      have h7 : st = 1 ∨ st = 2 ∨ st = 3 ∨ st = 4 ∨ st = 5 ∨ st = 6 ∨ st = 7 := by omega
      rcases h7 with e | e | e | e | e | e | e
      · exact hno _ (List.mem_of_getElem? (i := 0) rfl) (ev 1 (by omega) e)
      · exact hno _ (List.mem_of_getElem? (i := 1) rfl) (ev 2 (by omega) e)
      · exact hno _ (List.mem_of_getElem? (i := 2) rfl) (ev 3 (by omega) e)
      · exact hno _ (List.mem_of_getElem? (i := 3) rfl) (ev 4 (by omega) e)
      · exact hno _ (List.mem_of_getElem? (i := 4) rfl) (ev 5 (by omega) e)
      · exact hno _ (List.mem_of_getElem? (i := 5) rfl) (ev 6 (by omega) e)
      · exact hno _ (List.mem_of_getElem? (i := 6) rfl) (ev 7 (by omega) e)
end JxRefdrop
