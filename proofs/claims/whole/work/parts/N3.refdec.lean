/-! THE REFERENCE: what a CREDIT does -/
def R_typ (f : jx_F) : Int64 := (R_n4 f 5).toInt64 &&& 4294967295
def R_act (f : jx_F) : Int64 := (R_n4 f 8).toInt64 &&& 4294967295
def R_cbad (f : jx_F) : Prop := (R_typ f).toInt < 1 ∨ 4 < (R_typ f).toInt ∨ (R_un f 83 0).toInt < 0 ∨ 1152921504606846976 < (R_un f 83 0).toInt ∨ (R_un f 84 0).toInt < 0 ∨ 1152921504606846976 < (R_un f 84 0).toInt ∨ (R_typ f = 4 ∧ (f.1 79 8 = 0 ∨ 2 < (R_act f).toInt))
def R_chv (f : jx_F) (s : Nat) : Int64 := if (R_un f 84 0).toInt < (f.2 45 s).toInt then R_un f 84 0 else f.2 45 s
def R_chs (f : jx_F) (s : Nat) : jx_F := R_rel (R_chg f (R_acn f s) (R_chv f s)) s
noncomputable def R_gon (f : jx_F) (mm : Nat) (pv : Int32) : Int32 × jx_F := if R_so f mm 0 = 16 then (5002, f) else if (R_cnt f).toInt ≤ (f.2 46 (R_so f mm 0)).toInt then (5012, f) else if R_typ f = 3 then (2001, R_forget (R_chs f (R_so f mm 0)) mm (R_so f mm 0)) else if R_fre (R_of (R_chs f (R_so f mm 0)) (R_so f mm 0) pv) (R_acn f (R_so f mm 0)) = 0 then (4012, R_of (R_chs f (R_so f mm 0)) (R_so f mm 0) pv) else (2001, R_grnt (R_of (R_chs f (R_so f mm 0)) (R_so f mm 0) pv) (R_so f mm 0) (R_acn f (R_so f mm 0)))
noncomputable def R_dec (f : jx_F) (n mm : Nat) (pv : Int32) : Int32 × jx_F := @ite _ (R_cbad f) (Classical.propDecidable _) (5004, f) (if R_typ f = 1 then R_fst f n mm pv else if R_typ f = 4 then R_evt f n (R_n4 f 8) (R_un f 83 0) else R_gon f mm pv)
section JxRefdec
variable {th : Nat → Nat} {σ0 : jx_S} {m d n s i k b mm : Nat} {f : jx_F} {iv sv pv av : Int32} {v : Int64} {Q : Option Value → jx_F → Prop}
theorem chs_1 : (R_chs f s).1 = f.1 := rfl
theorem r_dec_179 (h : R_cok f b n mm) {w u : Int64} (hu : u = R_un f 84 0) : jx_fj th (rf_g m) (rf σ0 m) (d + 6) 246 179 [(0, .ref 0), (1, .int pv), (2, .long (R_typ f)), (4, .long w), (6, .long u)] [] f (fun r f' => r = some (.int (R_gon f mm pv).1) ∧ f' = (R_gon f mm pv).2) := by
  have hh := h
  obtain ⟨-, -, -, n16, h40, hm16, ⟨S, hS, hS5⟩, h41, t0, t1, t2, n5, n6, -, u83, -, h44⟩ := h
  have t247 : ∀ (s i : Nat) (c : Int64), s = R_so f mm 0 → s ≠ 16 → s < mm → i < n → (f.1 44 s).toInt = (i : Int) → c = R_chv f s → ¬ (R_cnt f).toInt ≤ (f.2 46 s).toInt → jx_fj th (rf_g m) (rf σ0 m) (d + 6) 246 247 [(0, .ref 0), (1, .int pv), (2, .long (R_typ f)), (9, .int (Int32.ofNat s)), (10, .int (f.1 44 s))] [.long c] f (fun r f' => r = some (.int (R_gon f mm pv).1) ∧ f' = (R_gon f mm pv).2) := by
    intro s i c hs s16 sm hi h44 hc hcn
    have hs2 : (Int32.ofNat s).toInt = (s : Int) := i32_ofNat (by omega)
    have hs3 : s < 16 := by omega
    have hi16 : i < 16 := by omega
    have ei : R_acn f s = i := i32_nat h44
    refine rf_at dt_246 90 [] dt_246_k (by decide +kernel) ?_
    intro C J hC hJ
    conv => whnf
    refine ⟨jx_in_nat h44 hi16, ?_⟩
    conv => whnf
    refine ⟨jx_in_nat h44 hi16, ?_⟩
    conv => whnf
    refine ⟨jx_in_nat h44 hi16, ?_⟩
    conv => whnf
    refine ⟨jx_in_nat h44 hi16, ?_⟩
    conv => whnf
    refine ⟨jx_in_nat h44 hi16, ?_⟩
    conv => whnf
    refine ⟨jx_in_nat hs2 hs3, ?_⟩
    conv => whnf
    refine ⟨jx_in_nat h44 hi16, ?_⟩
    conv => whnf
    refine ⟨jx_in_nat hs2 hs3, ?_⟩
    conv => whnf
    rw [i32_nat h44, i32_nat hs2]
    obtain ⟨g, hg⟩ : ∃ g, g = R_chs f s := ⟨_, rfl⟩
    have g1 : g.1 = f.1 := by rw [hg]; rfl
    have e0 : ∀ zz : Int64, zz = 0 → rf_ul (rf_ul (rf_ul (rf_ul f 37 i (f.2 37 i - c)) 39 i ((rf_ul f 37 i (f.2 37 i - c)).2 39 i + c)) 38 i ((rf_ul (rf_ul f 37 i (f.2 37 i - c)) 39 i ((rf_ul f 37 i (f.2 37 i - c)).2 39 i + c)).2 38 i - (rf_ul (rf_ul f 37 i (f.2 37 i - c)) 39 i ((rf_ul f 37 i (f.2 37 i - c)).2 39 i + c)).2 45 s)) 45 s zz = g := by
      intro zz hzz
      rw [hg, hzz]
      unfold R_chs
      rw [ei, ← hc]
      unfold R_rel R_rsv
      rw [show R_acn (R_chg f i c) s = i from ei]
      unfold R_chg
      rw [rf_ul_ne (f := f) (k := 37) (a := 39) (by omega)]
    rw [e0]
    rotate_left
    · rfl
    have q1 : (R_gon f mm pv) = if R_typ f = 3 then (2001, R_forget g mm s) else if R_fre (R_of g s pv) i = 0 then (4012, R_of g s pv) else (2001, R_grnt (R_of g s pv) s i) := by
      unfold R_gon
      rw [← hs, if_neg s16, if_neg hcn, ei, ← hg]
    rw [q1]
    refine ⟨fun (h3 : ¬ lg_cmp (R_typ f) 3 = 0) => ?_, fun (h3 : ¬ ¬ lg_cmp (R_typ f) 3 = 0) => ?_⟩
    · rw [if_neg (fun z => h3 (lg_cmp_z.mpr z))]
      conv => whnf
      refine hC _ _ _ _ (((r_of (d := d) (f := g) (nok_eq n6 (by rw [g1]) (by rw [g1])) hs2 (by omega) (tok_eq t1 (by rw [g1]) (by rw [g1]) (by rw [g1])) (tok_eq t2 (by rw [g1]) (by rw [g1]) (by rw [g1]))).up (by omega)).mp ?_)
      rintro r g2 ⟨rfl, hg2⟩
      have o2 : ∀ u j, u ≠ 42 → u ≠ 43 → u ≠ 47 → u ≠ 48 → g2.1 u j = f.1 u j := fun u j z1 z2 z3 z4 => by rw [hg2, of_o z1 z2 (by omega), g1]
      rw [← hg2]
      conv => whnf
      refine hC _ _ _ _ (((r_free (d := d) h44 hi16).up (by omega)).mp ?_)
      rintro r g3 ⟨rfl, hg3⟩
      rw [hg3]
      conv => whnf
      refine ⟨fun (h4 : ¬ lg_cmp (R_fre g2 i) 0 = 0) => ?_, fun (h4 : ¬ ¬ lg_cmp (R_fre g2 i) 0 = 0) => ?_⟩
      · rw [if_neg (fun z => h4 (lg_cmp_z.mpr z))]
        conv => whnf
        refine hC _ _ _ _ (((r_grant (d := d) (i := i) (uok_eq u83 (o2 _ _ (by omega) (by omega) (by omega) (by omega)) (o2 _ _ (by omega) (by omega) (by omega) (by omega))) hs2 (by omega) (by rw [o2 44 s (by omega) (by omega) (by omega) (by omega)]; exact h44) hi16).up (by omega)).mp ?_)
        rintro r g4 ⟨rfl, hg4⟩
        conv => whnf
        exact ⟨rfl, hg4⟩
      · rw [if_pos (lg_cmp_z.mp (Decidable.not_not.mp h4))]
        conv => whnf
        exact ⟨rfl, rfl⟩
    · rw [if_pos (lg_cmp_z.mp (Decidable.not_not.mp h3))]
      conv => whnf
      refine hC _ _ _ _ (((r_forget (d := d) (f := g) (n := mm) hs2 (by rw [g1]; exact h40) sm hm16).up (by omega)).mp ?_)
      rintro r g2 ⟨rfl, hg2⟩
      conv => whnf
      exact ⟨rfl, hg2⟩
  refine rf_at dt_246 90 [(247, [0, 1, 2, 9, 10])] dt_246_k (by decide +kernel) ?_
  intro C J hC hJ
  conv => whnf
  refine hC _ _ _ _ (((r_sessionOf (d := d) h40 hm16 hS hS5 h41).up (by omega)).mp ?_)
  rintro r f2 ⟨hr2, hf2⟩
  rw [hf2]
  rcases hr2 with ⟨e3, rfl⟩ | ⟨e3, rfl⟩
  · obtain ⟨s, hs⟩ : ∃ s, s = R_so f mm 0 := ⟨_, rfl⟩
    have sm : s < mm := by have := R_so_r (f := f) mm 0 e3; omega
    rw [← hs] at e3 ⊢
    have hs2 : (Int32.ofNat s).toInt = (s : Int) := i32_ofNat (by omega)
    have hs3 : s < 16 := by omega
    obtain ⟨i, hi, hin⟩ := h44 s sm
    conv => whnf
    refine ⟨fun (h2 : 0 ≤ Int32.ofNat s) => ?_, fun (h2 : ¬ 0 ≤ Int32.ofNat s) => absurd (Int32.le_iff_toInt_le.mpr (by rw [hs2]; exact Int.natCast_nonneg _)) h2⟩
    conv => whnf
    refine hC _ _ _ _ (((r_theirCount (d := d) n6).up (by omega)).mp ?_)
    rintro r f3 ⟨rfl, hf3⟩
    rw [hf3]
    conv => whnf
    refine ⟨jx_in_nat hs2 hs3, ?_⟩
    conv => whnf
    rw [i32_nat hs2]
    refine ⟨fun (h4 : 0 < lg_cmp (R_cnt f) (f.2 46 s)) => ?_, fun (h4 : ¬ 0 < lg_cmp (R_cnt f) (f.2 46 s)) => ?_⟩
    · have hcn : ¬ (R_cnt f).toInt ≤ (f.2 46 s).toInt := Int.not_le.mpr (lg_gt.mp h4)
      conv => whnf
      refine ⟨jx_in_nat hs2 hs3, ?_⟩
      conv => whnf
      refine ⟨jx_in_nat hs2 hs3, ?_⟩
      conv => whnf
      rw [i32_nat hs2]
      refine ⟨fun (h5 : 0 ≤ lg_cmp u (f.2 45 s)) => ?_, fun (h5 : ¬ 0 ≤ lg_cmp u (f.2 45 s)) => ?_⟩
      · conv => whnf
        refine ⟨jx_in_nat hs2 hs3, ?_⟩
        conv => whnf
        rw [i32_nat hs2]
        exact hJ _ _ _ _ (t247 s i _ hs e3 sm hin hi (by unfold R_chv; rw [← hu, if_neg (fun y => absurd (lg_lt.mpr y) (Int32.not_lt.mpr h5))]) hcn)
      · conv => whnf
        exact hJ _ _ _ _ (t247 s i _ hs e3 sm hin hi (by unfold R_chv; rw [← hu, if_pos (lg_lt.mp (Int32.not_le.mp h5))]) hcn)
    · unfold R_gon
      rw [← hs, if_neg e3, if_pos (Int.not_lt.mp (fun z => h4 (lg_gt.mpr z)))]
      conv => whnf
      exact ⟨rfl, rfl⟩
  · unfold R_gon
    rw [if_pos e3]
    conv => whnf
    refine jx_no (show ¬ (0 : Int32) ≤ -1 by decide) ?_
    conv => whnf
    exact ⟨rfl, rfl⟩
theorem r_decide (h : R_cok f b n mm) : rfc th σ0 m (d + 7) 246 [.ref 0, .int pv] f (fun r f' => r = some (.int (R_dec f n mm pv).1) ∧ f' = (R_dec f n mm pv).2) := by
  have hh := h
  obtain ⟨-, -, -, n16, h40, hm16, ⟨S, hS, hS5⟩, h41, t0, t1, t2, n5, n6, n8, u83, u84, h44⟩ := h
  have t137 : R_cbad f → jx_fj th (rf_g m) (rf σ0 m) (d + 6) 246 137 [] [] f (fun r f' => r = some (.int (R_dec f n mm pv).1) ∧ f' = (R_dec f n mm pv).2) := by
    intro hb
    refine rf_at dt_246 9 [] dt_246_k (by decide +kernel) ?_
    intro C J hC hJ
    unfold R_dec
    rw [if_pos hb]
    conv => whnf
    exact ⟨rfl, rfl⟩
  have t141 : ¬ R_cbad f → jx_fj th (rf_g m) (rf σ0 m) (d + 6) 246 141 [(0, .ref 0), (1, .int pv), (2, .long (R_typ f)), (4, .long (R_un f 83 0)), (6, .long (R_un f 84 0))] [] f (fun r f' => r = some (.int (R_dec f n mm pv).1) ∧ f' = (R_dec f n mm pv).2) := by
    intro hb
    have eD : R_dec f n mm pv = if R_typ f = 1 then R_fst f n mm pv else if R_typ f = 4 then R_evt f n (R_n4 f 8) (R_un f 83 0) else R_gon f mm pv := by
      unfold R_dec
      rw [if_neg hb]
    refine rf_at dt_246 40 [(179, [0, 1, 2, 4, 6])] dt_246_k (by decide +kernel) ?_
    intro C J hC hJ
    rw [eD]
    conv => whnf
    refine ⟨fun (h3 : ¬ lg_cmp (R_typ f) 1 = 0) => ?_, fun (h3 : ¬ ¬ lg_cmp (R_typ f) 1 = 0) => ?_⟩
    · rw [if_neg (fun z => h3 (lg_cmp_z.mpr z))]
      conv => whnf
      refine ⟨fun (h4 : ¬ lg_cmp (R_typ f) 4 = 0) => ?_, fun (h4 : ¬ ¬ lg_cmp (R_typ f) 4 = 0) => ?_⟩
      · rw [if_neg (fun z => h4 (lg_cmp_z.mpr z))]
        rw [if_neg (fun z => h3 (lg_cmp_z.mpr z)), if_neg (fun z => h4 (lg_cmp_z.mpr z))] at eD
        rw [eD] at hJ
        conv => whnf
        exact hJ _ _ _ _ (r_dec_179 (w := R_un f 83 0) hh rfl)
      · have e4 := lg_cmp_z.mp (Decidable.not_not.mp h4)
        rw [if_pos e4]
        have h79 : ¬ f.1 79 8 = 0 := fun z => hb (Or.inr (Or.inr (Or.inr (Or.inr (Or.inr (Or.inr ⟨e4, Or.inl z⟩))))))
        conv => whnf
        refine ⟨jx_in_nat (k := 8) (by decide) (by decide), ?_⟩
        conv => whnf
        refine hC _ _ _ _ (((r_n4 (d := d) (n8 h79)).up (by omega)).mp ?_)
        rintro r f1 ⟨rfl, hf1⟩
        rw [hf1]
        conv => whnf
        refine hC _ _ _ _ (((r_event (d := d) hh).up (by omega)).mp ?_)
        rintro r f2 ⟨rfl, hf2⟩
        conv => whnf
        exact ⟨rfl, hf2⟩
    · rw [if_pos (lg_cmp_z.mp (Decidable.not_not.mp h3))]
      conv => whnf
      refine hC _ _ _ _ (((r_first (d := d) hh).up (by omega)).mp ?_)
      rintro r f2 ⟨rfl, hf2⟩
      conv => whnf
      exact ⟨rfl, hf2⟩
  have t84 : ∀ x : Int32, (x = 0 ↔ ¬ (R_typ f = 4 ∧ (f.1 79 8 = 0 ∨ 2 < (R_act f).toInt))) → jx_fj th (rf_g m) (rf σ0 m) (d + 6) 246 84 [(0, .ref 0), (1, .int pv), (2, .long (R_typ f)), (4, .long (R_un f 83 0)), (6, .long (R_un f 84 0))] [.int x] f (fun r f' => r = some (.int (R_dec f n mm pv).1) ∧ f' = (R_dec f n mm pv).2) := by
    intro x hx
    refine rf_at dt_246 40 [(137, []), (141, [0, 1, 2, 4, 6])] dt_246_k (by decide +kernel) ?_
    intro C J hC hJ
    conv => whnf
    refine ⟨fun (h1 : lg_cmp (R_typ f) 1 < 0) => ?_, fun (h1 : ¬ lg_cmp (R_typ f) 1 < 0) => ?_⟩
    · conv => whnf
      exact hJ _ _ _ _ (t137 (Or.inl ((lg_ltK c64_1).mp h1)))
    · conv => whnf
      refine ⟨fun (h2 : 0 < lg_cmp (R_typ f) 4) => ?_, fun (h2 : ¬ 0 < lg_cmp (R_typ f) 4) => ?_⟩
      · conv => whnf
        exact hJ _ _ _ _ (t137 (Or.inr (Or.inl ((lg_gtK c64_4).mp h2))))
      · conv => whnf
        refine ⟨fun (h3 : lg_cmp (R_un f 83 0) 0 < 0) => ?_, fun (h3 : ¬ lg_cmp (R_un f 83 0) 0 < 0) => ?_⟩
        · conv => whnf
          exact hJ _ _ _ _ (t137 (Or.inr (Or.inr (Or.inl ((lg_ltK c64_0).mp h3)))))
        · conv => whnf
          refine ⟨fun (h4 : 0 < lg_cmp (R_un f 83 0) 1152921504606846976) => ?_, fun (h4 : ¬ 0 < lg_cmp (R_un f 83 0) 1152921504606846976) => ?_⟩
          · conv => whnf
            exact hJ _ _ _ _ (t137 (Or.inr (Or.inr (Or.inr (Or.inl ((lg_gtK c60).mp h4))))))
          · conv => whnf
            refine ⟨fun (h5 : lg_cmp (R_un f 84 0) 0 < 0) => ?_, fun (h5 : ¬ lg_cmp (R_un f 84 0) 0 < 0) => ?_⟩
            · conv => whnf
              exact hJ _ _ _ _ (t137 (Or.inr (Or.inr (Or.inr (Or.inr (Or.inl ((lg_ltK c64_0).mp h5)))))))
            · conv => whnf
              refine ⟨fun (h6 : 0 < lg_cmp (R_un f 84 0) 1152921504606846976) => ?_, fun (h6 : ¬ 0 < lg_cmp (R_un f 84 0) 1152921504606846976) => ?_⟩
              · conv => whnf
                exact hJ _ _ _ _ (t137 (Or.inr (Or.inr (Or.inr (Or.inr (Or.inr (Or.inl ((lg_gtK c60).mp h6))))))))
              · conv => whnf
                refine ⟨fun (h7 : x = 0) => ?_, fun (h7 : ¬ x = 0) => ?_⟩
                · conv => whnf
                  refine hJ _ _ _ _ (t141 (fun z => ?_))
                  rcases z with z | z | z | z | z | z | z
                  · exact h1 ((lg_ltK c64_1).mpr z)
                  · exact h2 ((lg_gtK c64_4).mpr z)
                  · exact h3 ((lg_ltK c64_0).mpr z)
                  · exact h4 ((lg_gtK c60).mpr z)
                  · exact h5 ((lg_ltK c64_0).mpr z)
                  · exact h6 ((lg_gtK c60).mpr z)
                  · exact hx.mp h7 z
                · conv => whnf
                  exact hJ _ _ _ _ (t137 (Or.inr (Or.inr (Or.inr (Or.inr (Or.inr (Or.inr (Classical.byContradiction (fun z => h7 (hx.mpr z))))))))))
  refine rf_go dt_246 90 [(84, [0, 1, 2, 4, 6])] dt_246_k (by decide +kernel) rfl ?_
  intro C J hC hJ
  conv => whnf
  refine ⟨jx_in_nat (k := 5) (by decide) (by decide), ?_⟩
  conv => whnf
  refine hC _ _ _ _ (((r_n4 (d := d) n5).up (by omega)).mp ?_)
  rintro r f1 ⟨rfl, hf1⟩
  rw [hf1]
  conv => whnf
  refine hC _ _ _ _ (((r_units (d := d) (v := 0) u83).up (by omega)).mp ?_)
  rintro r f2 ⟨rfl, hf2⟩
  rw [hf2]
  conv => whnf
  refine hC _ _ _ _ (((r_units (d := d) (v := 0) u84).up (by omega)).mp ?_)
  rintro r f3 ⟨rfl, hf3⟩
  rw [hf3]
  conv => whnf
  refine ⟨fun (h1 : ¬ lg_cmp (R_typ f) 4 = 0) => ?_, fun (h1 : ¬ ¬ lg_cmp (R_typ f) 4 = 0) => ?_⟩
  · conv => whnf
    exact hJ _ _ _ _ (t84 0 ⟨fun _ z => h1 (lg_cmp_z.mpr z.1), fun _ => rfl⟩)
  · have e4 := lg_cmp_z.mp (Decidable.not_not.mp h1)
    conv => whnf
    refine ⟨jx_in_nat (k := 8) (by decide) (by decide), ?_⟩
    conv => whnf
    refine ⟨fun (h2 : f.1 79 8 = 0) => ?_, fun (h2 : ¬ f.1 79 8 = 0) => ?_⟩
    · conv => whnf
      exact hJ _ _ _ _ (t84 1 ⟨fun z => absurd z (by decide), fun z => absurd ⟨e4, Or.inl h2⟩ z⟩)
    · conv => whnf
      refine ⟨jx_in_nat (k := 8) (by decide) (by decide), ?_⟩
      conv => whnf
      refine hC _ _ _ _ (((r_n4 (d := d) (n8 h2)).up (by omega)).mp ?_)
      rintro r f4 ⟨rfl, hf4⟩
      rw [hf4]
      conv => whnf
      refine ⟨fun (h3 : lg_cmp (R_act f) 2 ≤ 0) => ?_, fun (h3 : ¬ lg_cmp (R_act f) 2 ≤ 0) => ?_⟩
      · conv => whnf
        exact hJ _ _ _ _ (t84 0 ⟨fun _ z => z.2.elim h2 (fun y => absurd ((lg_gtK c64_2).mpr y) (Int32.not_lt.mpr h3)), fun _ => rfl⟩)
      · conv => whnf
        exact hJ _ _ _ _ (t84 1 ⟨fun z => absurd z (by decide), fun z => absurd ⟨e4, Or.inr ((lg_gtK c64_2).mp (Int32.not_le.mp h3))⟩ z⟩)
end JxRefdec
