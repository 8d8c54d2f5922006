/-! THE PAIR start -/
/-- a connection is asked for -/
def R_beg (f : jx_F) (p c : Nat) : jx_F := R_enter (rf_ui (rf_ui (rf_ui (R_fresh f c 1) 27 c (Int32.ofNat (p + 1))) 28 c 1) 13 p (Int32.ofNat c)) p 1
noncomputable def R_startF (f : jx_F) (v : Int32) : Int32 × jx_F := if 1 ≤ v ∧ v ≤ f.1 7 0 then (if f.1 11 (v.toNatClampNeg - 1) = 0 then (if R_least f 8 1 = 0 then (-4, f) else (Int32.ofNat (R_least f 8 1), R_beg f (v.toNatClampNeg - 1) (R_least f 8 1))) else (-3, f)) else (-1, f)
section JxStart
variable {th : Nat → Nat} {B b m d k n a p c : Nat} {xl : List Int32} {σ σ0 : jx_S} {f g f' : jx_F} {A : Nat → Nat → Nat} {G G' : Nat → Nat → Int32} {T : Nat → Nat} {s : Int32}
theorem R_beg_o {q j : Nat} (h : ¬ (q ∈ [26, 27, 28, 30, 32, 33] ∧ j = c + 1)) (h2 : ¬ ((q = 11 ∨ q = 12 ∨ q = 13) ∧ j = p)) : (R_beg f p (c + 1)).1 q j = f.1 q j := by
  unfold R_beg
  have h3 : ¬ (q = 27 ∧ j = c + 1) := fun z => h ⟨by rw [z.1]; decide, z.2⟩
  have h4 : ¬ (q = 28 ∧ j = c + 1) := fun z => h ⟨by rw [z.1]; decide, z.2⟩
  rw [enter_o (by omega), rf_ui_ne (by omega), rf_ui_ne h4, rf_ui_ne h3]
  exact fresh_o q j h
theorem R_beg_v (hc : c < 8) : (R_beg f p (c + 1)).1 26 (c + 1) = 1 ∧ (R_beg f p (c + 1)).1 27 (c + 1) = Int32.ofNat (p + 1) ∧ (R_beg f p (c + 1)).1 28 (c + 1) = 1 ∧ (R_beg f p (c + 1)).1 30 (c + 1) = 0 ∧ (R_beg f p (c + 1)).1 32 (c + 1) = 0 ∧ (R_beg f p (c + 1)).1 33 (c + 1) = 0 ∧ (R_beg f p (c + 1)).1 13 p = Int32.ofNat (c + 1) ∧ (R_beg f p (c + 1)).1 11 p = 1 := by
  obtain ⟨v26, v27, v28, v30, v32, v33⟩ := fresh_v (f := f) (c := c) (s := 1)
  unfold R_beg
  refine ⟨?_, ?_, ?_, ?_, ?_, ?_, ?_, enter_v⟩
  · rw [enter_o (by omega), rf_ui_ne (by omega), rf_ui_ne (by omega), rf_ui_ne (by omega)]; exact v26
  · rw [enter_o (by omega), rf_ui_ne (by omega), rf_ui_ne (by omega), rf_ui_eq]
  · rw [enter_o (by omega), rf_ui_ne (by omega), rf_ui_eq]
  · rw [enter_o (by omega), rf_ui_ne (by omega), rf_ui_ne (by omega), rf_ui_ne (by omega)]; exact v30
  · rw [enter_o (by omega), rf_ui_ne (by omega), rf_ui_ne (by omega), rf_ui_ne (by omega)]; exact v32
  · rw [enter_o (by omega), rf_ui_ne (by omega), rf_ui_ne (by omega), rf_ui_ne (by omega)]; exact v33
  · rw [enter_o (by omega), rf_ui_eq]
theorem PS.beg (hS : PS f n a) (hp : p < n) (hc : c < 8) (h11 : f.1 11 p = 0) (h26 : f.1 26 (c + 1) = 0) : PS (R_beg f p (c + 1)) n a := by
  have hn4 := hS.1.2.2.1
  have o : ∀ q j, ¬ (q ∈ [26, 27, 28, 30, 32, 33] ∧ j = c + 1) → ¬ ((q = 11 ∨ q = 12 ∨ q = 13) ∧ j = p) → (R_beg f p (c + 1)).1 q j = f.1 q j := fun q j h1 h2 => R_beg_o h1 h2
  have no : ∀ q : Nat, ¬ (26 ≤ q ∧ q ≤ 33) → ∀ j, ¬ ((q = 11 ∨ q = 12 ∨ q = 13) ∧ j = p) → (R_beg f p (c + 1)).1 q j = f.1 q j := fun q hq j h2 => o q j (fun e => by have := e.1; simp only [List.mem_cons, List.not_mem_nil, or_false] at this; omega) h2
  have oc : ∀ q j, j ≠ c + 1 → ¬ ((q = 11 ∨ q = 12 ∨ q = 13) ∧ j = p) → (R_beg f p (c + 1)).1 q j = f.1 q j := fun q j h1 h2 => o q j (fun e => h1 e.2) h2
  obtain ⟨v26, v27, v28, v30, v32, v33, v13, v11⟩ := R_beg_v (f := f) (p := p) hc
  have z0 : (0 : Int32).toInt = ((0 : Nat) : Int) := by decide
  obtain ⟨x, q, r, ⟨t1, t1'⟩, ⟨t2, t2'⟩, ⟨t3, t3'⟩, t4, -⟩ := hS.2.1 (c + 1) (by omega) (by omega)
  have x0 : x = 0 := by rw [h26] at t1; omega
  have h27 : f.1 27 (c + 1) = 0 := (i32_z t2).mpr (t4 x0).1
  obtain ⟨st, oo, kk, u, ⟨y1, y1'⟩, ⟨y2, y2'⟩, ⟨y3, y3'⟩, ⟨y4, y4'⟩, q5, q6, q7, q8, q9, q10, q11, q12, q13, q14, q15, q16, q17⟩ := hS.2.2.1 p hp
  have st0 : st = 0 := by rw [h11] at y1; omega
  obtain ⟨oo0, kk0⟩ := q7 st0
  have f13 : f.1 13 p = 0 := (i32_z y2).mpr oo0
  have f14 : f.1 14 p = 0 := (i32_z y3).mpr kk0
  refine hS.nopen (c0 := c + 1) hp (fun z => by rw [h11] at z; rcases z with z | z <;> exact absurd z (by decide)) ?_ (fun w hw hne q hq => no q (by simp only [List.mem_cons, List.not_mem_nil, or_false] at hq; omega) w (by omega)) (fun q j hq => no q (by omega) j (by omega)) (fun _ => rfl) (fun c' h1 h2 h3 h4 q hq => oc q c' h4 (by omega)) (Or.inr (Or.inl h27)) (fun c' h1 h2 h3 => ?_) ?_ (fun w hw => (hS.2.2.2.2.1 w hw).of (no 22 (by omega) w (by omega)) (no 15 (by omega) w (by omega)) (no 19 (by omega) w (by omega))) (fun c' h1 h2 => ?_) (by rw [no 34 (by omega) 0 (by omega)]; exact Int.le_refl _)
  · obtain ⟨ho, h7, hn, h49, ha, hq, hu⟩ := hS.1
    refine ⟨⟨by rw [no 6 (by omega) 0 (by omega)]; exact ho.1, fun c' hc' => ?_⟩, by rw [no 7 (by omega) 0 (by omega)]; exact h7, hn, by rw [no 49 (by omega) 0 (by omega)]; exact h49, ha, fun i hi k hk => ?_, fun w hw => ?_⟩
    · by_cases e : c' = c + 1
      · rw [e, v32, v33]
        exact ⟨⟨0, z0, by omega⟩, 0, z0, by omega⟩
      · rw [oc 33 c' e (by omega), oc 32 c' e (by omega)]
        exact ho.2 c' hc'
    · obtain ⟨x, e1, e2⟩ := hq i hi k hk
      exact ⟨x, by rw [no k (by omega) _ (by omega)]; exact e1, e2⟩
    · rw [no 14 (by omega) w (by omega)]
      by_cases e : w = p
      · rw [e, v13]
        refine ⟨⟨c + 1, i32_ofNat (by omega), by omega⟩, ?_⟩
        exact (hu p (by omega)).2
      · rw [no 13 (by omega) w (by omega)]
        exact hu w hw
  · by_cases e : c' = c + 1
    · subst e
      refine ⟨1, p + 1, 1, ⟨by rw [v26]; decide, by omega⟩, ⟨by rw [v27, i32_ofNat (by omega)], by omega⟩, ⟨by rw [v28]; decide, by omega⟩, fun z => by omega, ⟨fun z => by omega, fun z => by omega⟩, fun _ => ⟨rfl, v30⟩, fun _ => ?_, fun z => by omega⟩
      rw [show p + 1 - 1 = p by omega]
      exact v13
    · exfalso
      rcases h3 with h3 | h3
      · rcases hS.cof hp h1 h2 h3 with z | z
        · have := z.2
          rw [f13, ofN_0] at this
          have := ofN_inj (by omega) (by omega) this
          omega
        · have := z.2.1
          rw [f14, ofN_0] at this
          have := ofN_inj (by omega) (by omega) this
          omega
      · exact e h3
  · refine ⟨1, c + 1, 0, u, ⟨by rw [v11]; decide, by omega⟩, ⟨by rw [v13, i32_ofNat (by omega)], by omega⟩, ⟨by rw [no 14 (by omega) p (by omega), f14]; exact z0, by omega⟩, ⟨by rw [no 15 (by omega) p (by omega)]; exact y4, y4'⟩, fun _ => ⟨v27, v28⟩, fun z => absurd rfl z, fun z => by omega, fun _ => ⟨by omega, rfl, v26⟩, fun z => by omega, fun z => by omega, fun z => by omega, fun z => by omega, fun z => by omega, fun z => by omega, ⟨fun z => by have := q15.mp z; omega, fun z => by omega⟩, by rw [no 16 (by omega) p (by omega)]; exact q16, by rw [no 10 (by omega) p (by omega)]; exact q17⟩
  · by_cases e : c' = c + 1
    · subst e
      exact Or.inl (by rw [v30]; decide)
    · exact (hS.2.2.2.2.2.1 c' h1 h2).of (oc 30 c' e (by omega)) (fun j => o 29 j (fun z => by have := z.1; revert this; decide) (by omega))
theorem k_startOwn (hW : RW th B b xl σ f A T) (hp : (p : Int) < (f.1 7 0).toInt) : jc th (d + 2) 41 [.ref B, .ref (A 6 p)] σ (fun r σ' => (R_least f 8 1 = 0 ∧ r = some (.int (-4)) ∧ σ' = σ) ∨ (R_least f 8 1 ≠ 0 ∧ r = some (.int (Int32.ofNat (R_least f 8 1))) ∧ ∃ A' T', RW th B b xl σ' (R_beg f p (R_least f 8 1)) A' T' ∧ kpa B A A' σ σ')) := by
  obtain ⟨G, hR, hls⟩ := id hW
  have hp4 := hR.p4 hp
  refine cl_go dt_41 60 [] dt_41_k rfl ?_
  intro C J hC hJ
  conv => whnf
  refine ⟨jx_isC_of hR.X, hC _ _ _ _ ((k_leastClosed (d := d) hR).mp ?_)⟩
  rintro r s1 ⟨hcs, hs1⟩
  rw [hs1]
  rcases hcs with ⟨h0, rfl⟩ | ⟨h0, rfl⟩
  · obtain ⟨g1, g2, g3⟩ := R_least_r (f := f) 8 1 h0
    obtain ⟨c, hc⟩ : ∃ c, R_least f 8 1 = c + 1 := ⟨R_least f 8 1 - 1, by omega⟩
    rw [hc] at g1 g2 g3 h0 ⊢
    rw [show c + 1 - 1 = c by omega]
    conv => whnf
    refine ⟨jx_isC_of (hR.2.2.1 c (by omega)).1, hC _ _ _ _ ((k_giveAnew (d := d) (s := 1) hR (c := c) (by omega)).mp ?_)⟩
    rintro r s2 ⟨rfl, A', T', hR2, hk2⟩
    have hA6 : A' 6 p = A 6 p := hk2.2.1 6 p (by omega) (by omega)
    have o2' := fresh_o (f := f) (c := c) (s := 1)
    obtain ⟨hce, hrow⟩ := hR2.2.2.1 c (by omega)
    conv => whnf
    refine putK hce rfl (fit_o _ rfl) (fun s3 p3 o3 n3 => ?_)
    conv => whnf
    refine putK p3 rfl (fit_i _) (fun s4 p4 o4 n4 => ?_)
    conv => whnf
    obtain ⟨f1, hf1⟩ : ∃ f1, f1 = R_fresh f (c + 1) 1 := ⟨_, rfl⟩
    obtain ⟨f2, hf2⟩ : ∃ f2, f2 = rf_ui (rf_ui f1 27 (c + 1) (Int32.ofNat (p + 1))) 28 (c + 1) 1 := ⟨_, rfl⟩
    rw [← hf1] at hR2 hce hrow p3 p4
    have of2 : ∀ q j, ¬ ((q = 27 ∨ q = 28) ∧ j = c + 1) → f2.1 q j = f1.1 q j := fun q j h => by rw [hf2, rf_ui_ne (by omega), rf_ui_ne (by omega)]
    have e27 : f2.1 27 (c + 1) = Int32.ofNat (p + 1) := by rw [hf2, rf_ui_ne (by omega), rf_ui_eq]
    have e28 : f2.1 28 (c + 1) = 1 := by rw [hf2, rf_ui_eq]
    have hR4 : RelC th B b xl s4 f2 A' G T' := by
      refine hR2.out (c := c) (by omega) (fun q q1 _ => (o4 q q1).trans (o3 q q1)) (n4.trans n3) (fun q j h1 _ _ _ _ => of2 q j (fun z => h1 ⟨by rcases z.1 with e | e <;> rw [e] <;> decide, z.2⟩)) (fun _ _ _ _ => by rw [hf2]; rfl) (fun _ _ _ => rfl) ⟨?_, ?_⟩
      · rw [p4]
        unfold cc_e
        rw [e27, e28, of2 26 _ (by omega), of2 30 _ (by omega), of2 32 _ (by omega), of2 33 _ (by omega), show cp_ref A' (Int32.ofNat (p + 1)) = some (A' 6 p) by obtain ⟨i1, i2⟩ := i32_p1 (p := p) hp4 rfl; unfold cp_ref; rw [if_neg i1, i2], hA6]
        rfl
      · rw [of2 26 _ (by omega), of2 30 _ (by omega), of2 32 _ (by omega), of2 33 _ (by omega)]
        have os : ∀ q, q ≠ B + 14 + 3 * c → s4.1 q = s2.1 q := fun q hq => (o4 q hq).trans (o3 q hq)
        have ns : s4.2 = s2.2 := n4.trans n3
        rcases hrow with ⟨e1, e2, ⟨y1, e3⟩, ⟨y2, e4⟩, e5, e6, e7⟩ | ⟨e1, e2, ⟨y1, n1, e3, e4, e5, e6⟩, y2, a2, z2, e7, e8, e9, e10, e11, e12⟩
        · exact Or.inl ⟨e1, e2, ⟨y1, by rw [os _ (by omega)]; exact e3⟩, ⟨y2, by rw [os _ (by omega)]; exact e4⟩, e5, e6, e7⟩
        · refine Or.inr ⟨⟨e1.1, by rw [ns]; exact e1.2.1, e1.2.2⟩, ⟨e2.1, by rw [ns]; exact e2.2.1, e2.2.2⟩, ⟨y1, n1, by rw [os _ (by have := e1.1; omega)]; exact e3, e4, e5, fun j hj => by rw [of2 29 _ (by omega)]; exact e6 j hj⟩, y2, a2, z2, by rw [os _ (by have := e2.1; omega)]; exact e7, e8, e9, e10, e11, fun i hi => by rw [of2 31 _ (by omega)]; exact e12 i hi⟩
    have hk4 : kp B s2 s4 := ⟨n4.trans n3, fun q q1 q2 => (o4 q (by omega)).trans (o3 q (by omega))⟩
    have h7 : (p : Int) < (f2.1 7 0).toInt := by rw [of2 7 0 (by omega), hf1, o2' 7 0 (fun z => by have := z.1; revert this; decide)]; exact hp
    have b2 := (hR4.pe h7).2.1
    rw [hA6] at b2
    refine putK b2 rfl (fit_o _ rfl) (fun s5 p5 o5 n5 => ?_)
    conv => whnf
    have ecr : cc_ref B (Int32.ofNat (c + 1)) = some (B + 14 + 3 * c) := cc_ref_c (i32_ofNat (by omega))
    obtain ⟨hR5, hk5⟩ := hR4.pe1 (σ' := s5) (f' := rf_ui f2 13 p (Int32.ofNat (c + 1))) h7 (by rw [hA6, p5]; generalize Int32.ofNat (c + 1) = cv at ecr ⊢; simp [cp_e, lim, rf_ui, ecr, va_rf]) (by rw [hA6]; exact o5) n5 (ui_pe ⟨by omega, by omega⟩ (fun _ _ _ => rfl)) rfl (rf_ui_ne (by omega))
    have hls5 : (rf_ui f2 13 p (Int32.ofNat (c + 1))).1 2 0 = lsum G 8 := by rw [rf_ui_ne (by omega), of2 2 0 (by omega), hf1, o2' 2 0 (fun z => by have := z.1; revert this; decide)]; exact hls
    have hkE := k_enter (d := d) (s := 1) (p := p) ⟨G, hR5, hls5⟩ (ui7 (by omega) h7)
    rw [hA6] at hkE
    refine ⟨jx_isC_of hR5.X, hC _ _ _ _ (hkE.mp ?_)⟩
    rintro r s6 ⟨rfl, ⟨G6, hR6, hls6⟩, hk6⟩
    conv => whnf
    refine ⟨_, jx_getF_of ((hR6.2.2.1 c (by omega)).1) rfl, ?_⟩
    conv => whnf
    refine Or.inr ⟨h0, rfl, A', T', ⟨G6, ?_, ?_⟩, hk2.tr (kpa.kp ((hk4.tr hk5).tr hk6))⟩
    · unfold R_beg
      rw [← hf1, ← hf2]
      exact hR6
    · unfold R_beg
      rw [← hf1, ← hf2]
      exact hls6
  · conv => whnf
    exact Or.inl ⟨h0, rfl, rfl⟩
theorem r_begin {pv : Int32} (hp : pv.toInt = (p : Int)) (hp4 : p < 4) (hg : R_gok f n a) (h11 : ¬ R_open (f.1 11 p)) : rfc th σ0 m (d + 8) 187 [.ref 0, .int pv] f (fun r f' => (R_least f 8 1 = 0 ∧ r = some (.int 0) ∧ f' = f) ∨ (R_least f 8 1 ≠ 0 ∧ r = some (.int (Int32.ofNat (R_least f 8 1))) ∧ f' = R_beg f p (R_least f 8 1))) := by
  have hpn := i32_nat hp
  have hpi : jx_in pv 4 := jx_in_nat hp hp4
  refine rf_go dt_187 60 [] dt_187_k (by decide +kernel) rfl ?_
  intro C J hC hJ
  conv => whnf
  refine hC _ _ _ _ (((r_fresh (d := d)).up (by omega)).mp ?_)
  rintro r f1 (⟨h1, rfl, hf1⟩ | ⟨h1, rfl, hf1⟩)
  · obtain ⟨h2, h3, -⟩ := R_least_r (f := f) 8 1 h1
    obtain ⟨c, hc⟩ : ∃ c, R_least f 8 1 = c + 1 := ⟨R_least f 8 1 - 1, by omega⟩
    rw [hc] at hf1 h1 h2 h3 ⊢
    have hci : (Int32.ofNat (c + 1)).toInt = ((c + 1 : Nat) : Int) := i32_ofNat (by omega)
    have hin : jx_in (Int32.ofNat (c + 1)) 9 := jx_in_nat hci (by omega)
    have hcn := i32_nat hci
    conv => whnf
    refine jx_no (show ¬ Int32.ofNat (c + 1) ≤ 0 by rw [Int32.le_iff_toInt_le, hci, show (0 : Int32).toInt = 0 by decide]; omega) ?_
    conv => whnf
    refine ⟨hin, ?_⟩
    conv => whnf
    refine ⟨hin, ?_⟩
    conv => whnf
    refine ⟨hpi, ?_⟩
    conv => whnf
    rw [hcn, hpn]
    have ep : pv + 1 = Int32.ofNat (p + 1) := Int32.toInt_inj.mp (by rw [i32_add (c := 1) hp (by decide) (by omega) (by omega), i32_ofNat (by omega)]; omega)
    rw [show (fun x y : Int32 => x + y) pv 1 = Int32.ofNat (p + 1) from ep]
    obtain ⟨g, hgd⟩ : ∃ g, g = rf_ui (rf_ui (rf_ui f1 27 (c + 1) (Int32.ofNat (p + 1))) 28 (c + 1) 1) 13 p (Int32.ofNat (c + 1)) := ⟨_, rfl⟩
    rw [← hgd]
    have ofr := fresh_o (f := f) (c := c) (s := 1)
    have og : ∀ q j, ¬ (26 ≤ q ∧ q ≤ 33) → ¬ (q = 13 ∧ j = p) → g.1 q j = f.1 q j := fun q j h1 h2 => by
      rw [hgd, rf_ui_ne h2, rf_ui_ne (by omega), rf_ui_ne (by omega), hf1]
      exact ofr q j (fun z => by have := z.1; simp only [List.mem_cons, List.not_mem_nil, or_false] at this; omega)
    obtain ⟨v26, v27, v28, v30, v32, v33⟩ := fresh_v (f := f) (c := c) (s := 1)
    have hgg : R_gok g n a := by
      obtain ⟨ho, h7, hn, h49, ha, hq, hu⟩ := hg
      refine ⟨⟨by rw [og 6 0 (by omega) (by omega)]; exact ho.1, fun c' hc' => ?_⟩, by rw [og 7 0 (by omega) (by omega)]; exact h7, hn, by rw [og 49 0 (by omega) (by omega)]; exact h49, ha, fun i hi k hk => ?_, fun w hw => ?_⟩
      · have e32 : g.1 32 c' = (R_fresh f (c + 1) 1).1 32 c' := by rw [hgd, rf_ui_ne (by omega), rf_ui_ne (by omega), rf_ui_ne (by omega), hf1]
        have e33 : g.1 33 c' = (R_fresh f (c + 1) 1).1 33 c' := by rw [hgd, rf_ui_ne (by omega), rf_ui_ne (by omega), rf_ui_ne (by omega), hf1]
        rw [e32, e33]
        by_cases e : c' = c + 1
        · rw [e, v32, v33]
          exact ⟨⟨0, by decide, by omega⟩, 0, by decide, by omega⟩
        · rw [ofr 33 c' (fun z => e z.2), ofr 32 c' (fun z => e z.2)]
          exact ho.2 c' hc'
      · obtain ⟨x, e1, e2⟩ := hq i hi k hk
        exact ⟨x, by rw [og k _ (by omega) (by omega)]; exact e1, e2⟩
      · rw [og 14 w (by omega) (by omega)]
        by_cases e : w = p
        · rw [e, hgd, rf_ui_eq]
          exact ⟨⟨c + 1, hci, by omega⟩, (hu p (by omega)).2⟩
        · rw [og 13 w (by omega) (by omega)]
          exact hu w hw
    refine hC _ _ _ _ ((r_becomes (d := d) hp hp4 hgg).mp ?_)
    rintro r f2 ⟨rfl, hf2⟩
    conv => whnf
    refine Or.inr ⟨h1, rfl, ?_⟩
    rw [hf2, R_become_nn (fun z => by rcases z with z | z <;> exact absurd z (by decide)) (by rw [og 11 p (by omega) (by omega)]; exact h11), hgd, hf1]
    rfl
  · conv => whnf
    refine jx_yes (show (0 : Int32) ≤ 0 by decide) ?_
    conv => whnf
    exact Or.inl ⟨h1, rfl, hf1⟩
end JxStart
