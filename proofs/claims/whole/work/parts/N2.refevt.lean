/-! THE REFERENCE: a CREDIT that is done once, a CREDIT that begins -/
def R_cok (f : jx_F) (b n mm : Nat) : Prop := (f.1 67 0).toInt = (b : Int) ∧ (¬ f.1 81 0 = 0 → ∃ x N : Nat, (f.1 81 0).toInt = (x : Int) ∧ (f.1 82 0).toInt = (N : Int) ∧ b + x + N ≤ 5400) ∧ (f.1 35 0).toInt = (n : Int) ∧ n ≤ 16 ∧ (f.1 40 0).toInt = (mm : Int) ∧ mm ≤ 16 ∧ (∃ S : Nat, (f.1 67 0 + f.1 77 0).toInt = (S : Int) ∧ S + (f.1 78 0).toNatClampNeg ≤ 5400) ∧ (∀ k, k < mm → ∃ N : Nat, (f.1 41 (41 * k)).toInt = (N : Int) ∧ N ≤ 40) ∧ R_tok f 0 ∧ R_tok f 1 ∧ R_tok f 2 ∧ R_nok f 5 ∧ R_nok f 6 ∧ (¬ f.1 79 8 = 0 → R_nok f 8) ∧ R_uok f 83 ∧ R_uok f 84 ∧ ∀ s, s < mm → ∃ i : Nat, (f.1 44 s).toInt = (i : Int) ∧ i < n
def R_sub (f : jx_F) (n : Nat) : Nat := (R_who f).elim 16 (fun v => R_ac f v n 0)
def R_chg (f : jx_F) (i : Nat) (v : Int64) : jx_F := rf_ul (rf_ul f 37 i (f.2 37 i - v)) 39 i (f.2 39 i + v)
def R_bck (f : jx_F) (i : Nat) (v : Int64) : jx_F := rf_ul (rf_ul f 37 i (f.2 37 i + v)) 39 i (f.2 39 i - v)
def R_evt (f : jx_F) (n : Nat) (av : Int32) (v : Int64) : Int32 × jx_F := if R_sub f n = 16 then (5030, f) else if av = 2 then (2001, rf_ui f 91 0 (if v.toInt ≤ (R_fre f (R_sub f n)).toInt then 0 else 1)) else if av = 0 then (if (R_fre f (R_sub f n)).toInt < v.toInt then (4012, f) else (2001, R_chg f (R_sub f n) v)) else if 1152921504606846976 < (f.2 37 (R_sub f n) + v).toInt then (5012, f) else (2001, R_bck f (R_sub f n) v)
def R_beg0 (f : jx_F) (mm i : Nat) : jx_F := rf_ui (R_cpT (rf_ui f 40 0 (f.1 40 0 + 1)) 0 (R_hSk f 0) 41 (41 * mm) (f.1 78 0).toNatClampNeg) 44 mm (Int32.ofNat i)
noncomputable def R_fst (f : jx_F) (n mm : Nat) (pv : Int32) : Int32 × jx_F := if R_sub f n = 16 then (5030, f) else if ¬ R_so f mm 0 = 16 ∨ mm = 16 then (5012, f) else if R_fre f (R_sub f n) = 0 then (4012, f) else (2001, R_grnt (R_of (R_beg0 f mm (R_sub f n)) mm pv) mm (R_sub f n))
theorem lg_ltK {x k : Int64} {c : Int} (hk : k.toInt = c) : lg_cmp x k < 0 ↔ x.toInt < c := by rw [lg_lt, hk]
theorem lg_gtK {x k : Int64} {c : Int} (hk : k.toInt = c) : 0 < lg_cmp x k ↔ c < x.toInt := by rw [lg_gt, hk]
theorem c60 : (1152921504606846976 : Int64).toInt = 1152921504606846976 := by decide
theorem c64_0 : (0 : Int64).toInt = 0 := by decide
theorem c64_1 : (1 : Int64).toInt = 1 := by decide
theorem c64_2 : (2 : Int64).toInt = 2 := by decide
theorem c64_4 : (4 : Int64).toInt = 4 := by decide
section JxRefevt
variable {th : Nat → Nat} {σ0 : jx_S} {m d n s i k b mm : Nat} {f : jx_F} {iv sv pv av : Int32} {v : Int64} {Q : Option Value → jx_F → Prop}
theorem R_so_r : ∀ (r k : Nat), R_so f r k ≠ 16 → k ≤ R_so f r k ∧ R_so f r k < k + r
  | 0, k, h => absurd rfl h
  | r + 1, k, h => by
    unfold R_so at h ⊢
    by_cases e : R_wst f k
    · rw [if_pos e]; omega
    · rw [if_neg e] at h ⊢
      have := R_so_r r (k + 1) h
      omega
theorem r_sub (h : R_cok f b n mm) : rfc th σ0 m (d + 2) 250 [.ref 0] f (fun r f' => ((R_sub f n ≠ 16 ∧ R_sub f n < n ∧ r = some (.int (Int32.ofNat (R_sub f n)))) ∨ (R_sub f n = 16 ∧ r = some (.int (-1)))) ∧ f' = f) := by
  obtain ⟨h1, h2, h3, h4, -⟩ := h
  have K : ∀ x N : Nat, (¬ f.1 81 0 = 0 → (f.1 81 0).toInt = (x : Int) ∧ (f.1 82 0).toInt = (N : Int) ∧ b + x + N ≤ 5400) → rfc th σ0 m (d + 2) 250 [.ref 0] f (fun r f' => ((R_sub f n ≠ 16 ∧ R_sub f n < n ∧ r = some (.int (Int32.ofNat (R_sub f n)))) ∨ (R_sub f n = 16 ∧ r = some (.int (-1)))) ∧ f' = f) := by
    intro x N hx
    refine (r_subscriber (d := d) h1 hx h3 h4).mp ?_
    rintro r f1 ⟨h5, h6⟩
    refine ⟨?_, h6⟩
    rcases h5 with ⟨v, y1, y2, y3⟩ | ⟨y1 | ⟨v, y1, y2⟩, y3⟩
    · have e : R_sub f n = R_ac f v n 0 := by unfold R_sub; rw [y1]; rfl
      rw [e]
      exact Or.inl ⟨y2, by have := R_ac_r n 0 y2; omega, y3⟩
    · have e : R_sub f n = 16 := by unfold R_sub; rw [y1]; rfl
      exact Or.inr ⟨e, y3⟩
    · have e : R_sub f n = R_ac f v n 0 := by unfold R_sub; rw [y1]; rfl
      exact Or.inr ⟨e.trans y2, y3⟩
  by_cases e : f.1 81 0 = 0
  · exact K 0 0 (fun z => absurd e z)
  · obtain ⟨x, N, y⟩ := h2 e
    exact K x N (fun _ => y)
theorem r_event (h : R_cok f b n mm) : rfc th σ0 m (d + 3) 258 [.ref 0, .int av, .long v] f (fun r f' => r = some (.int (R_evt f n av v).1) ∧ f' = (R_evt f n av v).2) := by
  have n16 := h.2.2.2.1
  refine rf_go dt_258 90 [] dt_258_k (by decide +kernel) rfl ?_
  intro C J hC hJ
  conv => whnf
  refine hC _ _ _ _ ((r_sub (d := d) h).mp ?_)
  rintro r f1 ⟨hr, hf1⟩
  rw [hf1]
  unfold R_evt
  rcases hr with ⟨e1, e2, rfl⟩ | ⟨e1, rfl⟩
  · obtain ⟨i, hi⟩ : ∃ i, i = R_sub f n := ⟨_, rfl⟩
    rw [← hi] at e1 e2 ⊢
    have hi2 : (Int32.ofNat i).toInt = (i : Int) := i32_ofNat (by omega)
    have hi16 : i < 16 := by omega
    rw [if_neg e1]
    conv => whnf
    refine ⟨fun (h1 : 0 ≤ Int32.ofNat i) => ?_, fun (h1 : ¬ 0 ≤ Int32.ofNat i) => absurd (Int32.le_iff_toInt_le.mpr (by rw [hi2]; exact Int.natCast_nonneg i)) h1⟩
    conv => whnf
    refine ⟨fun (h2 : ¬ av = 2) => ?_, fun (h2 : ¬ ¬ av = 2) => ?_⟩
    · rw [if_neg h2]
      conv => whnf
      refine ⟨fun (h3 : ¬ av = 0) => ?_, fun (h3 : ¬ ¬ av = 0) => ?_⟩
      · rw [if_neg h3]
        conv => whnf
        refine ⟨jx_in_nat hi2 hi16, ?_⟩
        conv => whnf
        rw [i32_nat hi2]
        refine ⟨fun (h4 : lg_cmp (f.2 37 i + v) 1152921504606846976 ≤ 0) => ?_, fun (h4 : ¬ lg_cmp (f.2 37 i + v) 1152921504606846976 ≤ 0) => ?_⟩
        · rw [if_neg (show ¬ (1152921504606846976 : Int) < (f.2 37 i + v).toInt from fun y => absurd ((lg_gtK c60).mpr y) (Int32.not_lt.mpr h4))]
          conv => whnf
          refine ⟨jx_in_nat hi2 hi16, ?_⟩
          conv => whnf
          refine ⟨jx_in_nat hi2 hi16, ?_⟩
          conv => whnf
          refine ⟨jx_in_nat hi2 hi16, ?_⟩
          conv => whnf
          refine ⟨jx_in_nat hi2 hi16, ?_⟩
          conv => whnf
          rw [i32_nat hi2]
          refine ⟨rfl, ?_⟩
          show _ = R_bck f i v
          unfold R_bck
          rw [rf_ul_ne (f := f) (k := 37) (j := i) (a := 39) (c := i) (by omega)]
        · rw [if_pos (show (1152921504606846976 : Int) < (f.2 37 i + v).toInt from (lg_gtK c60).mp (Int32.not_le.mp h4))]
          conv => whnf
          exact ⟨rfl, rfl⟩
      · rw [if_pos (Decidable.not_not.mp h3)]
        conv => whnf
        refine hC _ _ _ _ (((r_free (d := d) hi2 hi16).up (by omega)).mp ?_)
        rintro r f2 ⟨rfl, hf2⟩
        rw [hf2]
        conv => whnf
        refine ⟨fun (h4 : lg_cmp v (R_fre f i) ≤ 0) => ?_, fun (h4 : ¬ lg_cmp v (R_fre f i) ≤ 0) => ?_⟩
        · rw [if_neg (fun y => absurd (lg_gt.mpr y) (Int32.not_lt.mpr h4))]
          conv => whnf
          refine ⟨jx_in_nat hi2 hi16, ?_⟩
          conv => whnf
          refine ⟨jx_in_nat hi2 hi16, ?_⟩
          conv => whnf
          refine ⟨jx_in_nat hi2 hi16, ?_⟩
          conv => whnf
          refine ⟨jx_in_nat hi2 hi16, ?_⟩
          conv => whnf
          rw [i32_nat hi2]
          refine ⟨rfl, ?_⟩
          show _ = R_chg f i v
          unfold R_chg
          rw [rf_ul_ne (f := f) (k := 37) (j := i) (a := 39) (c := i) (by omega)]
        · rw [if_pos (lg_gt.mp (Int32.not_le.mp h4))]
          conv => whnf
          exact ⟨rfl, rfl⟩
    · rw [if_pos (Decidable.not_not.mp h2)]
      conv => whnf
      refine hC _ _ _ _ (((r_free (d := d) hi2 hi16).up (by omega)).mp ?_)
      rintro r f2 ⟨rfl, hf2⟩
      rw [hf2]
      conv => whnf
      refine ⟨fun (h4 : 0 < lg_cmp v (R_fre f i)) => ?_, fun (h4 : ¬ 0 < lg_cmp v (R_fre f i)) => ?_⟩
      · rw [if_neg (fun y : v.toInt ≤ (R_fre f i).toInt => absurd (lg_gt.mp h4) (by omega))]
        conv => whnf
        exact ⟨rfl, rfl⟩
      · rw [if_pos (show v.toInt ≤ (R_fre f i).toInt from Int.not_lt.mp (fun y => h4 (lg_gt.mpr y)))]
        conv => whnf
        exact ⟨rfl, rfl⟩
  · rw [if_pos e1]
    conv => whnf
    refine jx_no (show ¬ (0 : Int32) ≤ -1 by decide) ?_
    conv => whnf
    exact ⟨rfl, rfl⟩
theorem beg0_o {u j : Nat} (h : ¬ ((u = 41 ∧ 41 * mm ≤ j ∧ j < 41 * mm + 1 + (f.1 78 0).toNatClampNeg) ∨ (u = 44 ∧ j = mm) ∨ (u = 40 ∧ j = 0))) : (R_beg0 f mm i).1 u j = f.1 u j := by
  unfold R_beg0 R_cpT
  rw [rf_ui_ne (by omega), R_cy_o (by omega), rf_ui_ne (by omega), rf_ui_ne (by omega)]
theorem of_o {u j : Nat} (h42 : u ≠ 42) (h43 : u ≠ 43) (h : ¬ ((u = 47 ∨ u = 48) ∧ j = s)) : (R_of f s pv).1 u j = f.1 u j := by
  unfold R_of R_cpT
  rw [R_cy_o (by omega), rf_ui_ne (by omega), R_cy_o (by omega), rf_ui_ne (by omega)]
  unfold R_of0
  rw [rf_ui_ne (by omega), rf_ui_ne (by omega)]
  rfl
theorem uok_eq {f' : jx_F} (h : R_uok f k) (h1 : f'.1 67 0 = f.1 67 0) (h2 : f'.1 k 0 = f.1 k 0) : R_uok f' k := by
  unfold R_uok at h ⊢
  rw [h1, h2]
  exact h
theorem nok_eq {f' : jx_F} (h : R_nok f k) (h1 : f'.1 67 0 = f.1 67 0) (h2 : f'.1 77 k = f.1 77 k) : R_nok f' k := by
  unfold R_nok at h ⊢
  rw [h1, h2]
  exact h
theorem tok_eq {f' : jx_F} (h : R_tok f k) (h1 : f'.1 67 0 = f.1 67 0) (h2 : f'.1 77 k = f.1 77 k) (h3 : f'.1 78 k = f.1 78 k) : R_tok f' k := by
  unfold R_tok at h ⊢
  rw [h1, h2, h3]
  exact h
theorem r_first (h : R_cok f b n mm) : rfc th σ0 m (d + 6) 249 [.ref 0, .int pv] f (fun r f' => r = some (.int (R_fst f n mm pv).1) ∧ f' = (R_fst f n mm pv).2) := by
  have hh := h
  obtain ⟨-, -, -, n16, h40, hm16, ⟨S, hS, hS5⟩, h41, t0, t1, t2, n5, n6, -, u83, -, -⟩ := h
  refine rf_go dt_249 90 [] dt_249_k (by decide +kernel) rfl ?_
  intro C J hC hJ
  conv => whnf
  refine hC _ _ _ _ (((r_sub (d := d) hh).up (by omega)).mp ?_)
  rintro r f1 ⟨hr, hf1⟩
  rw [hf1]
  unfold R_fst
  rcases hr with ⟨e1, e2, rfl⟩ | ⟨e1, rfl⟩
  · obtain ⟨i, hi⟩ : ∃ i, i = R_sub f n := ⟨_, rfl⟩
    rw [← hi] at e1 e2 ⊢
    have hi2 : (Int32.ofNat i).toInt = (i : Int) := i32_ofNat (by omega)
    have hi16 : i < 16 := by omega
    rw [if_neg e1]
    conv => whnf
    refine ⟨fun (h1 : 0 ≤ Int32.ofNat i) => ?_, fun (h1 : ¬ 0 ≤ Int32.ofNat i) => absurd (Int32.le_iff_toInt_le.mpr (by rw [hi2]; exact Int.natCast_nonneg i)) h1⟩
    conv => whnf
    refine hC _ _ _ _ (((r_sessionOf (d := d) h40 hm16 hS hS5 h41).up (by omega)).mp ?_)
    rintro r f2 ⟨hr2, hf2⟩
    rw [hf2]
    rcases hr2 with ⟨e3, rfl⟩ | ⟨e3, rfl⟩
    · rw [if_pos (Or.inl e3)]
      conv => whnf
      have hso : R_so f mm 0 < 2147483648 := by
        have := R_so_r (f := f) mm 0 e3
        omega
      refine ⟨fun (h2 : 0 ≤ Int32.ofNat (R_so f mm 0)) => ?_, fun (h2 : ¬ 0 ≤ Int32.ofNat (R_so f mm 0)) => absurd (Int32.le_iff_toInt_le.mpr (by rw [i32_ofNat hso]; exact Int.natCast_nonneg _)) h2⟩
      conv => whnf
      exact ⟨rfl, rfl⟩
    · conv => whnf
      refine jx_no (show ¬ (0 : Int32) ≤ -1 by decide) ?_
      conv => whnf
      refine ⟨fun (h2 : ¬ f.1 40 0 = 16) => ?_, fun (h2 : ¬ ¬ f.1 40 0 = 16) => ?_⟩
      · have hm : mm ≠ 16 := fun z => h2 (Int32.toInt_inj.mp (by rw [h40, z]; decide))
        rw [if_neg (fun z => z.elim (fun z => z e3) hm)]
        conv => whnf
        refine hC _ _ _ _ (((r_free (d := d) hi2 hi16).up (by omega)).mp ?_)
        rintro r f3 ⟨rfl, hf3⟩
        rw [hf3]
        conv => whnf
        refine ⟨fun (h3 : ¬ lg_cmp (R_fre f i) 0 = 0) => ?_, fun (h3 : ¬ ¬ lg_cmp (R_fre f i) 0 = 0) => ?_⟩
        · rw [if_neg (fun z => h3 (lg_cmp_z.mpr z))]
          conv => whnf
          obtain ⟨S0, N0, a1, a2, a3, a4⟩ := t0
          obtain ⟨g, hg⟩ : ∃ g, g = rf_ui f 40 0 ((fun x y : Int32 => x + y) (f.1 40 0) 1) := ⟨_, rfl⟩
          have og : ∀ u j, u ≠ 40 → g.1 u j = f.1 u j := fun u j z => by rw [hg]; exact rf_ui_ne (by omega)
          have k41 : (41 * f.1 40 0).toInt = ((41 * mm : Nat) : Int) := by rw [i32_mul (a := 41) (by decide) h40 (by omega) (by omega)]; omega
          rw [← hg]
          refine hC _ _ _ _ (((r_copyText41 (d := d) (k := 0) (S := S0) (a := 41 * mm) (N := N0) (by decide) (by decide) (by rw [og 67 0 (by omega), og 77 0 (by omega)]; exact a1) a4 k41 (by omega) (by rw [og 78 0 (by omega)]; exact a2)).up (by omega)).mp ?_)
          rintro r g1 ⟨rfl, hg1⟩
          conv => whnf
          refine ⟨jx_in_nat h40 (show mm < 16 by omega), ?_⟩
          conv => whnf
          rw [i32_nat h40]
          have e0 : rf_ui g1 44 mm (Int32.ofNat i) = R_beg0 f mm i := by
            unfold R_beg0 R_hSk
            rw [hg1, hg, i32_nat a1, i32_nat a2]
          rw [e0]
          have ob : ∀ u j, u ≠ 41 → u ≠ 44 → u ≠ 40 → (R_beg0 f mm i).1 u j = f.1 u j := fun u j z1 z2 z3 => beg0_o (by omega)
          have b44 : (R_beg0 f mm i).1 44 mm = Int32.ofNat i := by unfold R_beg0; exact rf_ui_eq
          obtain ⟨F, hF⟩ : ∃ F, F = R_beg0 f mm i := ⟨_, rfl⟩
          rw [← hF] at ob b44 ⊢
          refine hC _ _ _ _ (((r_of (d := d) (nok_eq n6 (ob _ _ (by omega) (by omega) (by omega)) (ob _ _ (by omega) (by omega) (by omega))) h40 (by omega) (tok_eq t1 (ob _ _ (by omega) (by omega) (by omega)) (ob _ _ (by omega) (by omega) (by omega)) (ob _ _ (by omega) (by omega) (by omega))) (tok_eq t2 (ob _ _ (by omega) (by omega) (by omega)) (ob _ _ (by omega) (by omega) (by omega)) (ob _ _ (by omega) (by omega) (by omega)))).up (by omega)).mp ?_)
          rintro r g2 ⟨rfl, hg2⟩
          have o2 : ∀ u j, u ≠ 42 → u ≠ 43 → u ≠ 47 → u ≠ 48 → g2.1 u j = F.1 u j := fun u j z1 z2 z3 z4 => by rw [hg2]; exact of_o z1 z2 (by omega)
          conv => whnf
          refine hC _ _ _ _ (((r_grant (d := d) (i := i) (uok_eq (uok_eq u83 (ob _ _ (by omega) (by omega) (by omega)) (ob _ _ (by omega) (by omega) (by omega))) (o2 _ _ (by omega) (by omega) (by omega) (by omega)) (o2 _ _ (by omega) (by omega) (by omega) (by omega))) h40 (by omega) (by rw [o2 44 mm (by omega) (by omega) (by omega) (by omega), b44]; exact hi2) hi16).up (by omega)).mp ?_)
          rintro r g3 ⟨rfl, hg3⟩
          conv => whnf
          refine ⟨rfl, ?_⟩
          rw [hg3, hg2]
        · rw [if_pos (lg_cmp_z.mp (Decidable.not_not.mp h3))]
          conv => whnf
          exact ⟨rfl, rfl⟩
      · have hm : mm = 16 := by
          have e := Decidable.not_not.mp h2
          rw [e] at h40
          have : (16 : Int32).toInt = 16 := by decide
          omega
        rw [if_pos (Or.inr hm)]
        conv => whnf
        exact ⟨rfl, rfl⟩
  · rw [if_pos e1]
    conv => whnf
    refine jx_no (show ¬ (0 : Int32) ≤ -1 by decide) ?_
    conv => whnf
    exact ⟨rfl, rfl⟩
end JxRefevt
