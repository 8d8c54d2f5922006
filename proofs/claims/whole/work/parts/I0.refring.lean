/-! THE REFERENCE: all connections of a PEER are dropped; its timer rings -/
def R_da1 (f : jx_F) (p : Nat) : jx_F := if f.1 13 p = 0 then f else R_shut f (f.1 13 p).toNatClampNeg
def R_da2 (f : jx_F) (p : Nat) : jx_F := if f.1 14 p = 0 then f else R_shut f (f.1 14 p).toNatClampNeg
noncomputable def R_dropAll (f : jx_F) (n a p : Nat) : jx_F := R_become (R_da2 (R_da1 f p) p) n a p 0
noncomputable def R_ring0 (f : jx_F) (p : Nat) : jx_F := if f.1 10 p = 0 then rf_ui f 17 p (f.1 1 0 + 30) else if f.1 11 p = 0 then (if R_least f 8 1 = 0 then rf_ui f 17 p (f.1 1 0 + 30) else R_beg (rf_ui f 17 p (f.1 1 0 + 30)) p (R_least f 8 1)) else rf_ui f 17 p (f.1 1 0 + 30)
noncomputable def R_ring (f : jx_F) (n a p : Nat) : jx_F := if f.1 15 p = 1 then (if f.1 16 p = 0 then R_sendWatch f p else R_gv (rf_ui (rf_ui f 15 p 2) 17 p (f.1 1 0 + 30)) n a p) else if f.1 15 p = 2 then R_dropAll f n a p else if f.1 15 p = 4 then (if f.1 16 p = 0 then R_sendWatch f p else R_dropAll f n a p) else R_ring0 f p
section JxRefring
variable {th : Nat → Nat} {σ0 : jx_S} {m d p c n a : Nat} {f f' : jx_F} {Q : Option Value → jx_F → Prop}
theorem i32_pos {x : Int32} {o : Nat} (h : x.toInt = (o : Int)) (h0 : o ≠ 0) : ¬ x ≤ 0 := by
  rw [Int32.le_iff_toInt_le, h, show (0 : Int32).toInt = 0 by decide]
  omega
/-- what dropping both connections leaves -/
theorem da_facts (hS : PS f n a) (hp : p < n) {o kk : Nat} (h13 : (f.1 13 p).toInt = (o : Int)) (h14 : (f.1 14 p).toInt = (kk : Int)) : (R_gok (R_da1 f p) n a ∧ (R_da1 f p).1 14 p = f.1 14 p ∧ (kk ≠ 0 → (R_da1 f p).1 27 kk = Int32.ofNat (p + 1) ∧ (R_da1 f p).1 28 kk = 2)) ∧ R_gok (R_da2 (R_da1 f p) p) n a ∧ (R_da2 (R_da1 f p) p).2 = f.2 ∧ (R_da2 (R_da1 f p) p).1 13 p = 0 ∧ (R_da2 (R_da1 f p) p).1 14 p = 0 ∧ (∀ q j, ¬ ((q = 26 ∨ q = 27 ∨ q = 28 ∨ q = 30) ∧ j ≠ 0 ∧ (j = o ∨ j = kk)) → ¬ ((q = 13 ∨ q = 14) ∧ j = p) → (R_da2 (R_da1 f p) p).1 q j = f.1 q j) ∧ ∀ j, j ≠ 0 → (j = o ∨ j = kk) → (R_da2 (R_da1 f p) p).1 26 j = 0 ∧ (R_da2 (R_da1 f p) p).1 27 j = 0 ∧ (R_da2 (R_da1 f p) p).1 28 j = 0 ∧ (R_da2 (R_da1 f p) p).1 30 j = 0 := by
  have hn4 := hS.1.2.2.1
  obtain ⟨st, o', k', u, -, ⟨t13, t13'⟩, ⟨t14, t14'⟩, -, q5, q6, -⟩ := hS.2.2.1 p hp
  have eo : o' = o := by omega
  have ek : k' = kk := by omega
  rw [eo] at q5
  rw [ek] at q6
  have hne : o ≠ 0 → kk ≠ 0 → o ≠ kk := fun z1 z2 z => by
    have h1 := (q5 z1).2
    have h2 := (q6 z2).2
    rw [z, h2] at h1
    exact absurd h1 (by decide)
  obtain ⟨g, hg⟩ : ∃ g, g = R_da1 f p := ⟨_, rfl⟩
  have G1 : R_gok g n a ∧ g.2 = f.2 ∧ g.1 13 p = 0 ∧ (∀ q j, ¬ ((q = 26 ∨ q = 27 ∨ q = 28 ∨ q = 30) ∧ j ≠ 0 ∧ j = o) → ¬ (q = 13 ∧ j = p) → g.1 q j = f.1 q j) ∧ (o ≠ 0 → g.1 26 o = 0 ∧ g.1 27 o = 0 ∧ g.1 28 o = 0 ∧ g.1 30 o = 0) := by
    by_cases z : o = 0
    · have e : f.1 13 p = 0 := (i32_z h13).mpr z
      have eg : g = f := by rw [hg]; unfold R_da1; rw [if_pos e]
      rw [eg]
      exact ⟨hS.1, rfl, e, fun _ _ _ _ => rfl, fun w => absurd z w⟩
    · have e : ¬ f.1 13 p = 0 := fun w => z ((i32_z h13).mp w)
      obtain ⟨w1, w2⟩ := q5 z
      have hpn : (f.1 27 o).toInt = ((p + 1 : Nat) : Int) := by rw [w1, i32_ofNat (by omega)]
      have eg : g = R_shut f o := by rw [hg]; unfold R_da1; rw [if_neg e, i32_nat h13]
      have eg2 : g = rf_ui (R_shut0 f o) 13 p 0 := by rw [eg, R_shut_own (by omega) w1 w2]
      obtain ⟨v1, v2, v3, v4⟩ := R_shut0_v (f := f) (c := o)
      refine ⟨by rw [eg]; exact R_shut_gok hpn hS.1, by rw [eg]; exact R_shut_l, by rw [eg2, rf_ui_eq], fun q j y1 y2 => by rw [eg2, rf_ui_ne y2, R_shut0_o (by omega)], fun _ => ?_⟩
      rw [eg2, rf_ui_ne (by omega), rf_ui_ne (by omega), rf_ui_ne (by omega), rf_ui_ne (by omega)]
      exact ⟨v1, v2, v3, v4⟩
  obtain ⟨g1, g2, g3, g4, g5⟩ := G1
  rw [← hg]
  have g14 : g.1 14 p = f.1 14 p := g4 14 p (by omega) (by omega)
  have gk : kk ≠ 0 → g.1 27 kk = Int32.ofNat (p + 1) ∧ g.1 28 kk = 2 := fun z => by
    have y : ¬ (kk ≠ 0 ∧ kk = o) := fun y => hne (by omega) z (by omega)
    rw [g4 27 kk (by omega) (by omega), g4 28 kk (by omega) (by omega)]
    exact q6 z
  refine ⟨⟨g1, g14, gk⟩, ?_⟩
  obtain ⟨F, hF⟩ : ∃ F, F = R_da2 g p := ⟨_, rfl⟩
  rw [← hF]
  by_cases z : kk = 0
  · have e : g.1 14 p = 0 := by rw [g14]; exact (i32_z h14).mpr z
    have eF : F = g := by rw [hF]; unfold R_da2; rw [if_pos e]
    rw [eF]
    refine ⟨g1, g2, g3, e, fun q j y1 y2 => g4 q j (by omega) (by omega), fun j j1 j2 => ?_⟩
    have ej : j = o := by omega
    rw [ej]
    exact g5 (by omega)
  · have e : ¬ g.1 14 p = 0 := fun w => z ((i32_z h14).mp (by rw [← g14]; exact w))
    obtain ⟨w1, w2⟩ := gk z
    have hpn : (g.1 27 kk).toInt = ((p + 1 : Nat) : Int) := by rw [w1, i32_ofNat (by omega)]
    have eF : F = R_shut g kk := by rw [hF]; unfold R_da2; rw [if_neg e, g14, i32_nat h14]
    have eF2 : F = rf_ui (R_shut0 g kk) 14 p 0 := by rw [eF, R_shut_came (by omega) w1 w2]
    obtain ⟨v1, v2, v3, v4⟩ := R_shut0_v (f := g) (c := kk)
    refine ⟨by rw [eF]; exact R_shut_gok hpn g1, by rw [eF, R_shut_l]; exact g2, by rw [eF2, rf_ui_ne (by omega), R_shut0_o (by omega)]; exact g3, by rw [eF2, rf_ui_eq], fun q j y1 y2 => by rw [eF2, rf_ui_ne (by omega), R_shut0_o (by omega), g4 q j (by omega) (by omega)], fun j j1 j2 => ?_⟩
    by_cases ej : j = kk
    · rw [ej, eF2, rf_ui_ne (by omega), rf_ui_ne (by omega), rf_ui_ne (by omega), rf_ui_ne (by omega)]
      exact ⟨v1, v2, v3, v4⟩
    · have eo : j = o := by omega
      rw [eF2, rf_ui_ne (by omega), rf_ui_ne (by omega), rf_ui_ne (by omega), rf_ui_ne (by omega), R_shut0_o (by omega), R_shut0_o (by omega), R_shut0_o (by omega), R_shut0_o (by omega), eo]
      exact g5 (by omega)
theorem r_dropAll {pv : Int32} (hpv : pv.toInt = (p : Int)) (hS : PS f n a) (hp : p < n) : rfc th σ0 m (d + 8) 238 [.ref 0, .int pv] f (fun r f' => r = none ∧ f' = R_dropAll f n a p) := by
  have hn4 := hS.1.2.2.1
  obtain ⟨st, o, kk, u, -, ⟨t13, t13'⟩, ⟨t14, t14'⟩, -, q5, q6, -⟩ := id (hS.2.2.1 p hp)
  obtain ⟨⟨g1, g14, gk⟩, G1, -⟩ := da_facts hS hp t13 t14
  have hvi : jx_in pv 4 := jx_in_nat hpv (by omega)
  have hvn := i32_nat hpv
  have t38 : jx_fj th (rf_g m) (rf σ0 m) (d + 7) 238 38 [(0, .ref 0), (1, .int pv)] [] (R_da2 (R_da1 f p) p) (fun r f' => r = none ∧ f' = R_dropAll f n a p) := by
    refine rf_at dt_238 40 [] dt_238_k (by decide +kernel) ?_
    intro C J hC hJ
    conv => whnf
    refine hC _ _ _ _ ((r_becomes (d := d) hpv (by omega) G1).mp ?_)
    rintro r f1 ⟨rfl, hf1⟩
    conv => whnf
    exact ⟨rfl, hf1⟩
  have t19 : jx_fj th (rf_g m) (rf σ0 m) (d + 7) 238 19 [(0, .ref 0), (1, .int pv)] [] (R_da1 f p) (fun r f' => r = none ∧ f' = R_dropAll f n a p) := by
    obtain ⟨g, hg⟩ : ∃ g, g = R_da1 f p := ⟨_, rfl⟩
    rw [← hg] at g14 gk t38 ⊢
    refine rf_at dt_238 40 [(38, [0, 1])] dt_238_k (by decide +kernel) ?_
    intro C J hC hJ
    conv => whnf
    refine ⟨hvi, ?_⟩
    conv => whnf
    rw [hvn]
    have h14 : (g.1 14 p).toInt = (kk : Int) := by rw [g14]; exact t14
    by_cases z : kk = 0
    · have e : g.1 14 p = 0 := (i32_z h14).mpr z
      refine jx_yes (show g.1 14 p ≤ 0 by rw [e]; decide) ?_
      conv => whnf
      refine hJ _ _ _ _ ?_
      unfold R_da2 at t38
      rw [if_pos e] at t38
      exact t38
    · have e : ¬ g.1 14 p = 0 := fun w => z ((i32_z h14).mp w)
      refine jx_no (i32_pos h14 z) ?_
      conv => whnf
      refine ⟨hvi, ?_⟩
      conv => whnf
      rw [hvn]
      refine hC _ _ _ _ (((r_shut (d := d) (pn := p + 1) h14 t14' (by rw [(gk z).1, i32_ofNat (by omega)]) (by omega)).up (by omega)).mp ?_)
      rintro r f1 ⟨rfl, hf1⟩
      conv => whnf
      refine hJ _ _ _ _ ?_
      unfold R_da2 at t38
      rw [if_neg e, i32_nat h14, ← hf1] at t38
      exact t38
  refine rf_go dt_238 40 [(19, [0, 1])] dt_238_k (by decide +kernel) rfl ?_
  intro C J hC hJ
  conv => whnf
  refine ⟨hvi, ?_⟩
  conv => whnf
  rw [hvn]
  by_cases z : o = 0
  · have e : f.1 13 p = 0 := (i32_z t13).mpr z
    refine jx_yes (show f.1 13 p ≤ 0 by rw [e]; decide) ?_
    conv => whnf
    refine hJ _ _ _ _ ?_
    have ef : R_da1 f p = f := by unfold R_da1; rw [if_pos e]
    rw [ef] at t19
    exact t19
  · have e : ¬ f.1 13 p = 0 := fun w => z ((i32_z t13).mp w)
    refine jx_no (i32_pos t13 z) ?_
    conv => whnf
    refine ⟨hvi, ?_⟩
    conv => whnf
    rw [hvn]
    refine hC _ _ _ _ (((r_shut (d := d) (pn := p + 1) t13 t13' (by rw [(q5 z).1, i32_ofNat (by omega)]) (by omega)).up (by omega)).mp ?_)
    rintro r f1 ⟨rfl, hf1⟩
    conv => whnf
    refine hJ _ _ _ _ ?_
    have ef : R_da1 f p = f1 := by unfold R_da1; rw [if_neg e, i32_nat t13, hf1]
    rw [ef] at t19
    exact t19
theorem r_ring {pv : Int32} (hpv : pv.toInt = (p : Int)) (hS : PS f n a) (hp : p < n) : rfc th σ0 m (d + 9) 267 [.ref 0, .int pv] f (fun r f' => r = none ∧ f' = R_ring f n a p) := by
  have hn4 := hS.1.2.2.1
  have hvi : jx_in pv 4 := jx_in_nat hpv (by omega)
  have hvn := i32_nat hpv
  obtain ⟨cN, cN1, cN2⟩ := hS.1.cn (q := p) (by omega)
  have h16 : f.1 16 p = 0 ∨ f.1 16 p = 1 := by
    obtain ⟨st, o, kk, u, -, -, -, -, -, -, -, -, -, -, -, -, -, -, -, q16, -⟩ := hS.2.2.1 p hp
    exact q16
  have hno : f.1 11 p = 0 → ¬ R_open (f.1 11 p) := fun e z => by rw [e] at z; rcases z with z | z <;> exact absurd z (by decide)
  have t114 : R_ring f n a p = R_ring0 f p → jx_fj th (rf_g m) (rf σ0 m) (d + 8) 267 114 [(0, .ref 0), (1, .int pv)] [] f (fun r f' => r = none ∧ f' = R_ring f n a p) := by
    intro eR
    rw [eR]
    refine rf_at dt_267 40 [] dt_267_k (by decide +kernel) ?_
    intro C J hC hJ
    conv => whnf
    refine ⟨hvi, ?_⟩
    conv => whnf
    refine ⟨hvi, ?_⟩
    conv => whnf
    rw [hvn]
    obtain ⟨g, hg⟩ : ∃ g, g = rf_ui f 17 p (f.1 1 0 + 30) := ⟨_, rfl⟩
    rw [← hg]
    have g10 : g.1 10 p = f.1 10 p := by rw [hg, rf_ui_ne (by omega)]
    have g11 : g.1 11 p = f.1 11 p := by rw [hg, rf_ui_ne (by omega)]
    have gl : R_least g 8 1 = R_least f 8 1 := R_least_eq (fun c => by rw [hg, rf_ui_ne (by omega)]) 8 1
    unfold R_ring0
    rw [← hg, ← g10, ← g11, ← gl]
    refine ⟨fun (h1 : g.1 10 p = 0) => ?_, fun (h1 : ¬ g.1 10 p = 0) => ?_⟩
    · conv => whnf
      rw [if_pos h1]
      exact ⟨rfl, rfl⟩
    · conv => whnf
      refine ⟨hvi, ?_⟩
      conv => whnf
      rw [hvn]
      refine ⟨fun (h2 : ¬ g.1 11 p = 0) => ?_, fun (h2 : ¬ ¬ g.1 11 p = 0) => ?_⟩
      · conv => whnf
        rw [if_neg h1, if_neg h2]
        exact ⟨rfl, rfl⟩
      · have h2 := Decidable.not_not.mp h2
        conv => whnf
        refine hC _ _ _ _ ((r_begin (d := d) (n := n) (a := a) hpv (by omega) (by rw [hg]; exact hS.1.u (by decide)) (by rw [g11]; exact hno (by rw [← g11]; exact h2))).mp ?_)
        rintro r f1 (⟨z1, rfl, hf1⟩ | ⟨z1, rfl, hf1⟩)
        · conv => whnf
          rw [if_neg h1, if_pos h2, if_pos z1]
          exact ⟨rfl, hf1⟩
        · conv => whnf
          rw [if_neg h1, if_pos h2, if_neg z1]
          exact ⟨rfl, hf1⟩
  refine rf_go dt_267 40 [(114, [0, 1])] dt_267_k (by decide +kernel) rfl ?_
  intro C J hC hJ
  conv => whnf
  refine ⟨hvi, ?_⟩
  conv => whnf
  rw [hvn]
  refine ⟨jx_swx_of (List.forall_mem_cons.mpr ⟨?_, List.forall_mem_cons.mpr ⟨?_, List.forall_mem_cons.mpr ⟨?_, List.forall_mem_cons.mpr ⟨?_, (fun q hq => absurd hq List.not_mem_nil)⟩⟩⟩⟩), ?_⟩
  · intro (hw : f.1 15 p = 1)
    conv => whnf
    refine ⟨hvi, ?_⟩
    conv => whnf
    rw [hvn]
    refine ⟨fun (h1 : ¬ f.1 16 p = 0) => ?_, fun (h1 : ¬ ¬ f.1 16 p = 0) => ?_⟩
    · conv => whnf
      refine ⟨hvi, ?_⟩
      conv => whnf
      refine ⟨hvi, ?_⟩
      conv => whnf
      rw [hvn]
      have e1 : (rf_ui f 15 p 2).1 1 0 = f.1 1 0 := rf_ui_ne (by omega)
      rw [e1]
      refine hC _ _ _ _ (((r_giveOver (d := d) (n := n) (a := a) hpv (by omega) ((hS.1.u (by decide)).u (by decide))).up (by omega)).mp ?_)
      rintro r f1 ⟨rfl, hf1⟩
      conv => whnf
      unfold R_ring
      rw [if_pos hw, if_neg h1]
      exact ⟨rfl, hf1⟩
    · conv => whnf
      refine hC _ _ _ _ (((r_sendWatch (d := d) hpv (by omega) hS.1.1 cN1 cN2).up (by omega)).mp ?_)
      rintro r f1 ⟨rfl, hf1⟩
      conv => whnf
      unfold R_ring
      rw [if_pos hw, if_pos (Decidable.not_not.mp h1)]
      exact ⟨rfl, hf1⟩
  · intro (hw : f.1 15 p = 2)
    conv => whnf
    refine hC _ _ _ _ ((r_dropAll (d := d) hpv hS hp).mp ?_)
    rintro r f1 ⟨rfl, hf1⟩
    conv => whnf
    unfold R_ring
    rw [if_neg (by rw [hw]; decide), if_pos hw]
    exact ⟨rfl, hf1⟩
  · intro (hw : f.1 15 p = 3)
    conv => whnf
    refine hJ _ _ _ _ (t114 ?_)
    unfold R_ring
    rw [if_neg (by rw [hw]; decide), if_neg (by rw [hw]; decide), if_neg (by rw [hw]; decide)]
  · intro (hw : f.1 15 p = 4)
    conv => whnf
    refine ⟨hvi, ?_⟩
    conv => whnf
    rw [hvn]
    refine ⟨fun (h1 : ¬ f.1 16 p = 0) => ?_, fun (h1 : ¬ ¬ f.1 16 p = 0) => ?_⟩
    · conv => whnf
      refine hC _ _ _ _ ((r_dropAll (d := d) hpv hS hp).mp ?_)
      rintro r f1 ⟨rfl, hf1⟩
      conv => whnf
      unfold R_ring
      rw [if_neg (by rw [hw]; decide), if_neg (by rw [hw]; decide), if_pos hw, if_neg h1]
      exact ⟨rfl, hf1⟩
    · conv => whnf
      refine hC _ _ _ _ (((r_sendWatch (d := d) hpv (by omega) hS.1.1 cN1 cN2).up (by omega)).mp ?_)
      rintro r f1 ⟨rfl, hf1⟩
      conv => whnf
      unfold R_ring
      rw [if_neg (by rw [hw]; decide), if_neg (by rw [hw]; decide), if_pos hw, if_pos (Decidable.not_not.mp h1)]
      exact ⟨rfl, hf1⟩
  · refine jx_swd_i (fun hno' => ?_)
    conv => whnf
    refine hJ _ _ _ _ (t114 ?_)
    unfold R_ring
    rw [if_neg (fun e => hno' _ (List.mem_of_getElem? (i := 0) rfl) e), if_neg (fun e => hno' _ (List.mem_of_getElem? (i := 1) rfl) e), if_neg (fun e => hno' _ (List.mem_of_getElem? (i := 3) rfl) e)]
end JxRefring
