/-! THE PAIR tick: the reference's loops -/
noncomputable def R_tickF (f : jx_F) (n a : Nat) (t : Int32) : Int32 × jx_F := if t < f.1 1 0 ∨ 2000 < t - f.1 1 0 then (-2, f) else (Int32.ofNat (R_tk n a (t - f.1 1 0).toNatClampNeg f).1, (R_tk n a (t - f.1 1 0).toNatClampNeg f).2)
section JxReftick2
variable {th : Nat → Nat} {σ0 : jx_S} {mm d p c n a h x m s : Nat} {f f' F g : jx_F} {Q : Option Value → jx_F → Prop} {tv : Int32}
theorem i32_c0 {x : Int32} : x + Int32.ofNat 0 = x := Int32.add_zero _
theorem PS.now {y : Int32} (hS : PS f n a) : PS (rf_ui f 1 0 y) n a := by
  have o : ∀ q j, q ≠ 1 → (rf_ui f 1 0 y).1 q j = f.1 q j := fun q j z => rf_ui_ne (by omega)
  refine hS.of (hS.1.u (by decide)).1 (fun q j hq => o q j ?_) (fun _ => rfl) (fun p hp => (hS.2.2.2.2.1 p hp).of (o 22 p (by omega)) (o 15 p (by omega)) (o 19 p (by omega))) (by rw [o 34 0 (by omega)]; exact Int.le_refl _)
  simp only [List.mem_cons, List.not_mem_nil, or_false] at hq
  omega
theorem MI.now {y : Int32} (hM : MI f) : MI (rf_ui f 1 0 y) := hM.of (rf_ui_ne (by omega)) (rf_ui_ne (by omega)) (fun _ => rf_ui_ne (by omega)) (fun _ _ _ => rfl)
theorem r_tick_p : ∀ (r p : Nat) (pv dv : Int32) (f : jx_F) (h : Nat), pv.toInt = (p : Int) → p + r = n → PS f n a → (f.1 34 0).toInt = (h : Int) → h + 128 * r < 2147481000 → (∃ t : Nat, (f.1 1 0).toInt = (t : Int) ∧ t < 2147483647) → jx_fj th (rf_g mm) (rf σ0 mm) (d + 9) 266 143 [(0, .ref 0), (1, .int tv), (2, .int (dv + Int32.ofNat (R_tpl n a r p f).1))] [] (R_tpl n a r p f).2 Q → jx_fj th (rf_g mm) (rf σ0 mm) (d + 9) 266 50 [(0, .ref 0), (1, .int tv), (2, .int dv), (3, .int pv)] [] f Q
  | 0, p, pv, dv, f, h, hv, hp, hS, h34, hh, ht, hQ => by
    have h7 := hS.1.2.1
    refine rf_at dt_266 40 [(143, [0, 1, 2])] dt_266_k (by decide +kernel) ?_
    intro C J hC hJ
    conv => whnf
    refine jx_yes (show f.1 7 0 ≤ pv by rw [Int32.le_iff_toInt_le, h7, hv]; omega) ?_
    conv => whnf
    refine hJ _ _ _ _ ?_
    have e : dv + Int32.ofNat (R_tpl n a 0 p f).1 = dv := i32_c0
    rw [e] at hQ
    exact hQ
  | r + 1, p, pv, dv, f, h, hv, hp, hS, h34, hh, ht, hQ => by
    have h7 := hS.1.2.1
    have hn4 := hS.1.2.2.1
    have hvi : jx_in pv 4 := jx_in_nat hv (by omega)
    have hvn := i32_nat hv
    have hv1 : (pv + Int32.ofInt 1).toInt = ((p + 1 : Nat) : Int) := by rw [i32_add (c := 1) hv (by decide) (by omega) (by omega)]; omega
    obtain ⟨⟨a1, a2, h1, a3, a4⟩, b1, b2, h2, b3, b4, b5⟩ := hS.tp (p := p) (by omega) h34 (by omega)
    obtain ⟨t, t1, t2⟩ := ht
    have hlim := lim_i hS (p := p) (by omega) t1 t2
    obtain ⟨g, hg⟩ : ∃ g, g = R_tpa f n a p := ⟨_, rfl⟩
    have eqP : R_tpl n a (r + 1) p f = (R_tpc f n a p + (R_tpl n a r (p + 1) (R_tp f n a p)).1, (R_tpl n a r (p + 1) (R_tp f n a p)).2) := rfl
    rw [eqP] at hQ
    have next : ∀ k : Nat, k = R_tpc f n a p → jx_fj th (rf_g mm) (rf σ0 mm) (d + 9) 266 50 [(0, .ref 0), (1, .int tv), (2, .int (dv + Int32.ofNat k)), (3, .int (pv + Int32.ofInt 1))] [] (R_tp f n a p) Q := fun k hk => by
      refine r_tick_p r (p + 1) _ _ (R_tp f n a p) h2 hv1 (by omega) b1 b3 (by omega) ⟨t, by rw [b2.now]; exact t1, t2⟩ ?_
      rw [i32_cnt, hk]
      exact hQ
    have t116 : ∀ k : Nat, k = (if lim f p ≤ f.1 1 0 then 1 else 0) → jx_fj th (rf_g mm) (rf σ0 mm) (d + 9) 266 116 [(0, .ref 0), (1, .int tv), (2, .int (dv + Int32.ofNat k)), (3, .int pv)] [] g Q := fun k hk => by
      rw [← hg] at a1 a2 a3
      refine rf_at dt_266 60 [(50, [0, 1, 2, 3])] dt_266_k (by decide +kernel) ?_
      intro C J hC hJ
      conv => whnf
      refine ⟨hvi, ?_⟩
      conv => whnf
      rw [hvn]
      refine ⟨fun (z : g.1 1 0 < g.1 17 p) => ?_, fun (z : ¬ g.1 1 0 < g.1 17 p) => ?_⟩
      · conv => whnf
        have e1 : R_tp f n a p = g := by unfold R_tp; rw [← hg, if_neg (Int32.not_le.mpr z)]
        have e2 : k = R_tpc f n a p := by unfold R_tpc; rw [← hg, if_neg (Int32.not_le.mpr z), hk, Nat.add_zero]
        have := next k e2
        rw [e1] at this
        exact hJ _ _ _ _ this
      · conv => whnf
        refine hC _ _ _ _ ((r_ring (d := d) hv a1 (by omega)).mp ?_)
        rintro r' f1 ⟨rfl, hf1⟩
        conv => whnf
        have e1 : R_tp f n a p = f1 := by unfold R_tp; rw [← hg, if_pos (Int32.not_lt.mp z), hf1]
        have e2 : k + 1 = R_tpc f n a p := by unfold R_tpc; rw [← hg, if_pos (Int32.not_lt.mp z), hk]
        have := next (k + 1) e2
        rw [e1, ← i32_cnt] at this
        exact hJ _ _ _ _ this
    refine rf_at dt_266 60 [(116, [0, 1, 2, 3])] dt_266_k (by decide +kernel) ?_
    intro C J hC hJ
    conv => whnf
    refine jx_no (show ¬ f.1 7 0 ≤ pv by rw [Int32.le_iff_toInt_le, h7, hv]; omega) ?_
    conv => whnf
    refine ⟨hvi, ?_⟩
    conv => whnf
    rw [hvn]
    have no : ¬ lim f p ≤ f.1 1 0 → jx_fj th (rf_g mm) (rf σ0 mm) (d + 9) 266 116 [(0, .ref 0), (1, .int tv), (2, .int dv), (3, .int pv)] [] f Q := fun z => by
      have := t116 0 (by rw [if_neg z])
      have eg : g = f := by rw [hg]; unfold R_tpa; rw [if_neg z]
      rw [i32_c0, eg] at this
      exact this
    have yes : lim f p ≤ f.1 1 0 → ∀ f1, f1 = R_dropAll f n a p → jx_fj th (rf_g mm) (rf σ0 mm) (d + 9) 266 116 [(0, .ref 0), (1, .int tv), (2, .int (dv + Int32.ofInt 1)), (3, .int pv)] [] f1 Q := fun z f1 e => by
      have := t116 1 (by rw [if_pos z])
      have eg : g = f1 := by rw [hg, e]; unfold R_tpa; rw [if_pos z]
      rw [eg] at this
      exact this
    refine hC _ _ _ _ (((r_in (d := d)).up (by omega)).mp ?_)
    rintro r' f1 ⟨hcs, hf1⟩
    rw [hf1]
    rcases hcs with ⟨rfl, y1, y2⟩ | ⟨rfl, y⟩
    · conv => whnf
      refine jx_yes (show ¬ (1 : Int32) = 0 by decide) ?_
      conv => whnf
      refine jx_no (show ¬ (1 : Int32) = 0 by decide) ?_
      conv => whnf
      refine ⟨hvi, ?_⟩
      conv => whnf
      rw [hvn]
      refine ⟨fun (z : f.1 1 0 < f.1 12 p) => ?_, fun (z : ¬ f.1 1 0 < f.1 12 p) => ?_⟩
      · conv => whnf
        exact hJ _ _ _ _ (no (fun w => absurd z (Int32.not_lt.mpr (hlim.mp w).2)))
      · conv => whnf
        refine hC _ _ _ _ (((r_dropAll (d := d) hv hS (by omega)).up (by omega)).mp ?_)
        rintro r' f2 ⟨rfl, hf2⟩
        conv => whnf
        exact hJ _ _ _ _ (yes (hlim.mpr ⟨Or.inl ⟨y1, y2⟩, Int32.not_lt.mp z⟩) f2 hf2)
    · conv => whnf
      refine jx_no (show ¬ ¬ (0 : Int32) = 0 from fun z => z rfl) ?_
      conv => whnf
      refine ⟨hvi, ?_⟩
      conv => whnf
      rw [hvn]
      refine ⟨fun (z7 : ¬ f.1 11 p = 7) => ?_, fun (z7 : ¬ ¬ f.1 11 p = 7) => ?_⟩
      · conv => whnf
        refine jx_yes (show (0 : Int32) = 0 from rfl) ?_
        conv => whnf
        exact hJ _ _ _ _ (no (fun w => by
          rcases (hlim.mp w).1 with w | w
          · exact y w
          · exact z7 w))
      · have z7 := Decidable.not_not.mp z7
        conv => whnf
        refine jx_no (show ¬ (1 : Int32) = 0 by decide) ?_
        conv => whnf
        refine ⟨hvi, ?_⟩
        conv => whnf
        rw [hvn]
        refine ⟨fun (z : f.1 1 0 < f.1 12 p) => ?_, fun (z : ¬ f.1 1 0 < f.1 12 p) => ?_⟩
        · conv => whnf
          exact hJ _ _ _ _ (no (fun w => absurd z (Int32.not_lt.mpr (hlim.mp w).2)))
        · conv => whnf
          refine hC _ _ _ _ (((r_dropAll (d := d) hv hS (by omega)).up (by omega)).mp ?_)
          rintro r' f2 ⟨rfl, hf2⟩
          conv => whnf
          exact hJ _ _ _ _ (yes (hlim.mpr ⟨Or.inr z7, Int32.not_lt.mp z⟩) f2 hf2)
theorem r_tick_s : ∀ (r s : Nat) (sv dv : Int32) (f : jx_F), sv.toInt = (s : Int) → (f.1 40 0).toInt = ((s + r : Nat) : Int) → MI f → jx_fj th (rf_g mm) (rf σ0 mm) (d + 9) 266 30 [(0, .ref 0), (1, .int tv), (2, .int (dv + Int32.ofNat (R_tsl r s f).1))] [] (R_tsl r s f).2 Q → jx_fj th (rf_g mm) (rf σ0 mm) (d + 9) 266 145 [(0, .ref 0), (1, .int tv), (2, .int dv), (3, .int sv)] [] f Q
  | 0, s, sv, dv, f, hv, hm, hM, hQ => by
    refine rf_at dt_266 40 [(30, [0, 1, 2])] dt_266_k (by decide +kernel) ?_
    intro C J hC hJ
    conv => whnf
    refine jx_yes (show f.1 40 0 ≤ sv by rw [Int32.le_iff_toInt_le, hm, hv]; omega) ?_
    conv => whnf
    refine hJ _ _ _ _ ?_
    have e : dv + Int32.ofNat (R_tsl 0 s f).1 = dv := i32_c0
    rw [e] at hQ
    exact hQ
  | r + 1, s, sv, dv, f, hv, hm, hM, hQ => by
    have h16 := hM.2.2
    have hvi : jx_in sv 16 := jx_in_nat hv (by omega)
    have hvn := i32_nat hv
    obtain ⟨x, x1, x2, x3, x4⟩ := hM.ac hm (by omega : s < s + (r + 1))
    have hai : jx_in (f.1 44 s) 16 := jx_in_nat x4 (by omega)
    refine rf_at dt_266 60 [(145, [0, 1, 2, 3])] dt_266_k (by decide +kernel) ?_
    intro C J hC hJ
    conv => whnf
    refine jx_no (show ¬ f.1 40 0 ≤ sv by rw [Int32.le_iff_toInt_le, hm, hv]; omega) ?_
    conv => whnf
    refine ⟨hvi, ?_⟩
    conv => whnf
    rw [hvn]
    refine ⟨fun (z : f.1 1 0 < f.1 48 s) => ?_, fun (z : ¬ f.1 1 0 < f.1 48 s) => ?_⟩
    · conv => whnf
      have e : R_tsl (r + 1) s f = R_tsl r (s + 1) f := by
        show (if _ then _ else _) = _
        rw [if_neg (Int32.not_le.mpr z)]
      rw [e] at hQ
      refine hJ _ _ _ _ (r_tick_s r (s + 1) _ dv f ?_ (by rw [hm]; omega) hM hQ)
      rw [i32_add (c := 1) hv (by decide) (by omega) (by omega)]; omega
    · have e : R_tsl (r + 1) s f = (1 + (R_tsl r s (R_ets f (s + r + 1) s)).1, (R_tsl r s (R_ets f (s + r + 1) s)).2) := by
        show (if _ then _ else _) = _
        rw [if_pos (Int32.not_lt.mp z)]
      rw [e] at hQ
      conv => whnf
      refine ⟨hvi, ?_⟩
      conv => whnf
      rw [hvn]
      refine ⟨hai, ?_⟩
      conv => whnf
      refine ⟨hvi, ?_⟩
      conv => whnf
      refine ⟨hai, ?_⟩
      conv => whnf
      obtain ⟨g, hg⟩ : ∃ g, g = R_rsv f s := ⟨_, rfl⟩
      have eg : rf_ul f 38 (f.1 44 s).toNatClampNeg (f.2 38 (f.1 44 s).toNatClampNeg - f.2 45 sv.toNatClampNeg) = g := by rw [hg, hvn]; rfl
      rw [eg]
      have g40 : (g.1 40 0).toInt = ((s + r + 1 : Nat) : Int) := by rw [hg]; show (f.1 40 0).toInt = _; rw [hm]; omega
      refine hC _ _ _ _ (((r_forget (d := d) hv g40 (by omega) (by omega)).up (by omega)).mp ?_)
      rintro r' f1 ⟨rfl, hf1⟩
      have e1 : f1 = R_ets f (s + r + 1) s := by rw [hf1, hg]; rfl
      have hM1 := hM.ets hm (by omega : s < s + (r + 1))
      conv => whnf
      refine hJ _ _ _ _ (r_tick_s r s _ _ f1 hv ?_ ?_ ?_)
      · rw [hf1, fg_40]
        exact i32_59 (n := s + r) g40
      · rw [e1]
        exact hM1
      · rw [e1, show dv + Int32.ofInt 1 = dv + Int32.ofNat 1 from rfl, i32_cnt]
        exact hQ
theorem r_tick_l {tN : Nat} (ht : tv.toInt = (tN : Int)) (htm : tN < 2147483647) : ∀ (r : Nat) (dv : Int32) (f : jx_F) (h : Nat), (f.1 1 0).toInt = (tN : Int) - (r : Int) → r ≤ tN → PS f n a → MI f → (f.1 34 0).toInt = (h : Int) → h + 512 * r < 2147480000 → Q (some (.int (dv + Int32.ofNat (R_tk n a r f).1))) (R_tk n a r f).2 → jx_fj th (rf_g mm) (rf σ0 mm) (d + 9) 266 30 [(0, .ref 0), (1, .int tv), (2, .int dv)] [] f Q
  | 0, dv, f, h, hn, hr, hS, hM, h34, hh, hQ => by
    refine rf_at dt_266 40 [] dt_266_k (by decide +kernel) ?_
    intro C J hC hJ
    conv => whnf
    refine jx_yes (show tv ≤ f.1 1 0 by rw [Int32.le_iff_toInt_le, hn, ht]; omega) ?_
    conv => whnf
    have e : dv + Int32.ofNat (R_tk n a 0 f).1 = dv := i32_c0
    rw [e] at hQ
    exact hQ
  | r + 1, dv, f, h, hn, hr, hS, hM, h34, hh, hQ => by
    have hlt := Int32.toInt_lt tv
    have hn4 := hS.1.2.2.1
    obtain ⟨f1, hf1⟩ : ∃ f1, f1 = rf_ui f 1 0 (f.1 1 0 + 1) := ⟨_, rfl⟩
    have hS1 : PS f1 n a := by rw [hf1]; exact hS.now
    have hM1 : MI f1 := by rw [hf1]; exact hM.now
    have n1 : (f1.1 1 0).toInt = (tN : Int) - (r : Int) := by rw [hf1, rf_ui_eq, i32_add (c := 1) hn (by decide) (by omega) (by omega)]; omega
    have f34 : (f1.1 34 0).toInt = (h : Int) := by rw [hf1, rf_ui_ne (by omega)]; exact h34
    obtain ⟨⟨x, -, hx, -⟩, -⟩ := id hM1
    obtain ⟨s1, s2, -, s4, h', s5, s6, s7⟩ := hS1.sec hM1 hx f34 (by omega)
    obtain ⟨b1, b2, -⟩ := PS.tpl n 0 f1 h hS1 (by omega) f34 (by omega)
    obtain ⟨g, hg⟩ : ∃ g, g = (R_tpl n a n 0 f1).2 := ⟨_, rfl⟩
    have hMg : MI g := by rw [hg]; exact b2.mi hM1
    obtain ⟨⟨-, m, -, m1, -⟩, -⟩ := id hMg
    have eS : R_sec f1 n a = ((R_tpl n a n 0 f1).1 + (R_tsl m 0 g).1, (R_tsl m 0 g).2) := by unfold R_sec; rw [← hg, i32_nat m1]
    rw [tk_s, ← hf1] at hQ
    refine rf_at dt_266 40 [(50, [0, 1, 2, 3])] dt_266_k (by decide +kernel) ?_
    intro C J hC hJ
    conv => whnf
    refine jx_no (show ¬ tv ≤ f.1 1 0 by rw [Int32.le_iff_toInt_le, hn, ht]; omega) ?_
    conv => whnf
    rw [show rf_ui f 1 0 (f.1 1 0 + 1) = f1 from hf1.symm]
    refine hJ _ _ _ _ (r_tick_p n 0 0 dv f1 h (by decide) (by omega) hS1 f34 (by omega) ⟨tN - r, by omega, by omega⟩ ?_)
    rw [← hg]
    refine rf_at dt_266 40 [(145, [0, 1, 2, 3])] dt_266_k (by decide +kernel) ?_
    intro C J hC hJ
    conv => whnf
    refine hJ _ _ _ _ (r_tick_s m 0 0 _ g (by decide) (by rw [m1]; omega) hMg ?_)
    rw [eS] at s1 s2 s4 s5 hQ
    refine r_tick_l ht htm r _ (R_tsl m 0 g).2 h' (by rw [s4]; exact n1) (by omega) s1 s2 s5 (by omega) ?_
    rw [i32_cnt, i32_cnt, ← Nat.add_assoc]
    exact hQ
theorem r_tick {t : Nat} (hn : (f.1 1 0).toInt = (t : Int)) (htm : t < 2147480000) (hS : PS (rf_ui f 0 0 0) n a) (hM : MI (rf_ui f 0 0 0)) (h34 : (f.1 34 0).toInt = (h : Int)) (hh : h < 2146000000) : rfc th σ0 mm (d + 10) 266 [.ref 0, .int tv] f (fun r f' => r = some (.int (R_tickF (rf_ui f 0 0 0) n a tv).1) ∧ f' = (R_tickF (rf_ui f 0 0 0) n a tv).2) := by
  obtain ⟨g, hg⟩ : ∃ g, g = rf_ui f 0 0 0 := ⟨_, rfl⟩
  rw [← hg] at hS hM ⊢
  have gn : (g.1 1 0).toInt = (t : Int) := by rw [hg, rf_ui_ne (by omega)]; exact hn
  have g34 : (g.1 34 0).toInt = (h : Int) := by rw [hg, rf_ui_ne (by omega)]; exact h34
  have hlt := Int32.toInt_lt tv
  refine rf_go dt_266 40 [(30, [0, 1, 2])] dt_266_k (by decide +kernel) rfl ?_
  intro C J hC hJ
  conv => whnf
  rw [show rf_ui f 0 0 0 = g from hg.symm]
  refine ⟨fun (h1 : tv < g.1 1 0) => ?_, fun (h1 : ¬ tv < g.1 1 0) => ?_⟩
  · conv => whnf
    unfold R_tickF
    rw [if_pos (Or.inl h1)]
    exact ⟨rfl, rfl⟩
  · have hge : (t : Int) ≤ tv.toInt := by
      have := Int32.not_lt.mp h1
      rw [Int32.le_iff_toInt_le, gn] at this
      exact this
    have hsub : (tv - g.1 1 0).toInt = tv.toInt - (t : Int) := i32_sub rfl gn (by omega) (by omega)
    conv => whnf
    refine ⟨fun (h2 : tv - g.1 1 0 ≤ 2000) => ?_, fun (h2 : ¬ tv - g.1 1 0 ≤ 2000) => ?_⟩
    · rw [Int32.le_iff_toInt_le, hsub, show (2000 : Int32).toInt = 2000 by decide] at h2
      obtain ⟨r, hr⟩ : ∃ r : Nat, tv.toInt - (t : Int) = (r : Int) := ⟨(tv.toInt - (t : Int)).toNat, by omega⟩
      have er : (tv - g.1 1 0).toNatClampNeg = r := i32_nat (by rw [hsub]; exact hr)
      conv => whnf
      refine hJ _ _ _ _ (r_tick_l (d := d) (tN := t + r) (n := n) (a := a) (by omega) (by omega) r 0 g h (by rw [gn]; omega) (by omega) hS hM g34 (by omega) ?_)
      unfold R_tickF
      rw [if_neg (fun z => by
        rcases z with z | z
        · exact h1 z
        · rw [Int32.lt_iff_toInt_lt, hsub, show (2000 : Int32).toInt = 2000 by decide] at z
          omega), er, Int32.zero_add]
      exact ⟨rfl, rfl⟩
    · conv => whnf
      unfold R_tickF
      rw [if_pos (Or.inr (Int32.not_le.mp h2))]
      exact ⟨rfl, rfl⟩
end JxReftick2
