/-! THE PAIR connected, the end -/
section JxConn3
variable {th : Nat → Nat} {B b m d k n a p c : Nat} {xl : List Int32} {σ σ0 : jx_S} {f g F f' : jx_F} {A : Nat → Nat → Nat} {G G' : Nat → Nat → Int32} {T : Nat → Nat} {s : Int32}
/-- the invariant behind a call, by what the call leaves as it is -/
theorem PI.fin2 (hI : PI f G k) (hS : PS f n a) (hPS : PS F n a) (ho : ∀ q j, R_askK q = false → ¬ (26 ≤ q ∧ q ≤ 33) → (j < n → ¬ (11 ≤ q ∧ q ≤ 25)) → F.1 q j = f.1 q j) (hi : ∀ u j, 54 ≤ u ∧ u ≤ 58 → a ≤ j → F.1 u j = f.1 u j) (hll : ∀ u j, ¬ (u = 53 ∧ j < a) → F.2 u j = f.2 u j) (h34 : (f.1 34 0).toInt ≤ (F.1 34 0).toInt ∧ (F.1 34 0).toInt ≤ (f.1 34 0).toInt + 2000000) (hl : F.1 2 0 = lsum G' 8) : PI F G' (k + 1) := by
  have h7 := hS.1.2.1
  have h49 := hS.1.2.2.2.1
  refine hI.fin (G' := G') (fun n2 a2 hS2 => ?_) (fun q u hu hq => ho q u ?_ ?_ (fun z => by omega)) (fun i hi' => ⟨hi 55 i (by omega) (by omega), hll 53 i (by omega)⟩) hl (ho 1 0 rfl (by omega) (fun _ => by omega)) h34 (fun q j hq => ho q j ?_ ?_ (fun _ => ?_)) (fun q j hq => hll q j ?_)
  · obtain ⟨e1, e2⟩ := hS.uniq hS2
    rw [e1, e2]
    exact hPS
  · simp only [List.mem_cons, List.not_mem_nil, or_false] at hq
    rcases hq with rfl | rfl | rfl | rfl | rfl | rfl | rfl | rfl | rfl | rfl | rfl | rfl | rfl <;> rfl
  · simp only [List.mem_cons, List.not_mem_nil, or_false] at hq
    omega
  · simp only [List.mem_cons, List.not_mem_nil, or_false] at hq
    rcases hq with rfl | rfl | rfl | rfl | rfl <;> rfl
  · simp only [List.mem_cons, List.not_mem_nil, or_false] at hq
    omega
  · simp only [List.mem_cons, List.not_mem_nil, or_false] at hq
    omega
  · simp only [List.mem_cons, List.not_mem_nil, or_false] at hq
    omega
theorem askK_no {q : Nat} (hq : R_askK q = false) : q ∉ [2, 31, 32, 34, 65, 66] := fun z => by
  simp only [List.mem_cons, List.not_mem_nil, or_false] at z
  rcases z with rfl | rfl | rfl | rfl | rfl | rfl <;> exact absurd hq (by decide)
/-- what the own connection's opening comes to -/
theorem own_cases (hS : PS f n a) (hc : c < 8) (h26 : f.1 26 (c + 1) = 1) {x : Nat} (hx : (f.1 34 0).toInt = (x : Int)) (hx2 : x < 2147480000) (hp : p < n) (h27 : f.1 27 (c + 1) = Int32.ofNat (p + 1)) : ∃ h : jx_F, PS h n a ∧ (h.1 34 0).toInt = ((x + 1 : Nat) : Int) ∧ h.2 = f.2 ∧ (∀ q j, q ∉ [2, 31, 32, 34, 65, 66] → ¬ ((q = 11 ∨ q = 12 ∨ q = 20) ∧ j = p) → ¬ (q = 26 ∧ j = c + 1) → h.1 q j = f.1 q j) ∧ (R_own f n a (c + 1) p = h ∨ R_own f n a (c + 1) p = R_drop h n a (c + 1)) := by
  have hn4 := hS.1.2.2.1
  obtain ⟨p', hp', g27, g28, g30, g13, hst⟩ := hS.asked hc h26
  have ep : p' = p := by
    rw [h27] at g27
    have := ofN_inj (by omega) (by omega) g27
    omega
  subst ep
  obtain ⟨f2, hf2⟩ : ∃ f2, f2 = R_sendOpening (rf_ui f 26 (c + 1) 2) p' := ⟨_, rfl⟩
  have of2 : ∀ q j, q ∉ [2, 31, 32, 34, 65, 66] → ¬ (q = 20 ∧ j = p') → ¬ (q = 26 ∧ j = c + 1) → f2.1 q j = f.1 q j := fun q j h1 h2 h3 => by rw [hf2]; exact R_own2_o h1 h2 h3
  have e34 : f2.1 34 0 = f.1 34 0 + 1 := by rw [hf2, R_sendOpening_v, rf_ui_ne (by omega)]
  have x34 : (f2.1 34 0).toInt = ((x + 1 : Nat) : Int) := by rw [e34, i32_add (c := 1) hx (by decide) (by omega) (by omega)]; omega
  have l2 : f2.2 = f.2 := by rw [hf2, R_sendOpening_l]; rfl
  have f211 : f2.1 11 p' = f.1 11 p' := of2 11 p' (by decide) (by omega) (by omega)
  have eO : R_own f n a (c + 1) p' = if f2.1 11 p' = 1 then R_become f2 n a p' 2 else R_choose f2 n a p' := by
    unfold R_own
    rw [← hf2]
  have com : ∀ s : Int32, ((R_enter f2 p' s).1 34 0).toInt = ((x + 1 : Nat) : Int) ∧ (R_enter f2 p' s).2 = f.2 ∧ ∀ q j, q ∉ [2, 31, 32, 34, 65, 66] → ¬ ((q = 11 ∨ q = 12 ∨ q = 20) ∧ j = p') → ¬ (q = 26 ∧ j = c + 1) → (R_enter f2 p' s).1 q j = f.1 q j := fun s => ⟨by rw [enter_o (by omega)]; exact x34, l2, fun q j h1 h2 h3 => by rw [enter_o (by omega), of2 q j h1 (by omega) h3]⟩
  rcases hst with ⟨w1, w2⟩ | ⟨w1, cc, w2, w3, w4, w5, w6, w7⟩
  · have hno : ¬ R_open (f2.1 11 p') := fun z => by rw [f211, w1] at z; rcases z with z | z <;> exact absurd z (by decide)
    refine ⟨R_enter f2 p' 2, ?_, (com 2).1, (com 2).2.1, (com 2).2.2, Or.inl ?_⟩
    · rw [hf2]
      exact hS.own1 (y := 2) hc hp g27 g28 g13 hx (by omega) (by decide) (Or.inl ⟨w1, w2, rfl⟩)
    · rw [eO, if_pos (by rw [f211]; exact w1), R_become_nn (fun z => by rcases z with z | z <;> exact absurd z (by decide)) hno]
  · have h14 : ¬ f.1 14 p' = 0 := fun z => by
      rw [z] at w4
      have : (0 : Int32).toInt = 0 := by decide
      omega
    have hno : ¬ R_open (f2.1 11 p') := fun z => by rw [f211, w1] at z; rcases z with z | z <;> exact absurd z (by decide)
    have hPS : PS (R_enter f2 p' 4) n a := by
      rw [hf2]
      exact hS.own1 (y := 4) hc hp g27 g28 g13 hx (by omega) (by decide) (Or.inr ⟨w1, h14, rfl⟩)
    refine ⟨R_enter f2 p' 4, hPS, (com 4).1, (com 4).2.1, (com 4).2.2, ?_⟩
    rw [eO, if_neg (by rw [f211, w1]; decide)]
    by_cases hl : R_later f2 p'
    · refine Or.inr (R_choose_drop (by omega) (by rw [of2 13 p' (by decide) (by omega) (by omega)]; exact g13) (by omega) (by rw [of2 27 _ (by decide) (by omega) (by omega)]; exact g27) (by rw [of2 28 _ (by decide) (by omega) (by omega)]; exact g28) hno hl)
    · refine Or.inl ?_
      unfold R_choose
      rw [if_neg hl, R_become_nn (fun z => by rcases z with z | z <;> exact absurd z (by decide)) hno]
theorem PI.own (hI : PI f G k) (hS : PS f n a) (hk : k ≤ 512) (hc : c < 8) (h26 : f.1 26 (c + 1) = 1) (hp : p < n) (h27 : f.1 27 (c + 1) = Int32.ofNat (p + 1)) (hl : (R_own f n a (c + 1) p).1 2 0 = lsum G' 8) : PI (R_own f n a (c + 1) p) G' (k + 1) := by
  obtain ⟨n', a', hS', x, hx, hx1, hx2⟩ := hI.ps
  obtain ⟨e1, e2⟩ := hS.uniq hS'
  subst e1 e2
  obtain ⟨h, hPS, h34, h2, ho, hF⟩ := own_cases hS hc h26 hx (by omega) hp h27
  rcases hF with e | e
  · rw [e] at hl ⊢
    exact hI.fin2 hS hPS (fun q j q1 q2 q3 => ho q j (askK_no q1) (fun z => q3 (by omega) (by omega)) (by omega)) (fun u j hu _ => ho u j (by simp only [List.mem_cons, List.not_mem_nil, or_false]; omega) (by omega) (by omega)) (fun u j _ => by rw [h2]) (by rw [h34]; omega) hl
  · rw [e] at hl ⊢
    obtain ⟨r1, r2, r3⟩ := hPS.drop (c := c + 1) (by omega) (by omega) ⟨x + 1, h34, by omega⟩
    exact hI.fin2 hS r1 (fun q j q1 q2 q3 => by rw [R_drop_o hPS (by omega) (by omega) q1 (by omega) q3]; exact ho q j (askK_no q1) (fun z => q3 (by omega) (by omega)) (by omega)) (fun u j hu hj => by rw [R_drop_i hu hj]; exact ho u j (by simp only [List.mem_cons, List.not_mem_nil, or_false]; omega) (by omega) (by omega)) (fun u j hu => by rw [R_drop_l hu, h2]) (by omega) hl
theorem r_connected {v on : Int32} (hon : on = 0 ∨ on = 1) (hS : PS (rf_ui f 0 0 0) n a) (h9 : ∀ p, p < n → ∃ x : Nat, ((rf_ui f 0 0 0).1 9 p).toInt = (x : Int) ∧ x ≤ 40) : rfc th σ0 m (d + 10) 206 [.ref 0, .int v, .int on] f (fun r f' => r = some (.int (R_connF (rf_ui f 0 0 0) n a v on).1) ∧ f' = (R_connF (rf_ui f 0 0 0) n a v on).2) := by
  obtain ⟨g, hgd⟩ : ∃ g, g = rf_ui f 0 0 0 := ⟨_, rfl⟩
  rw [← hgd] at hS h9 ⊢
  have hn4 := hS.1.2.2.1
  refine rf_go dt_206 80 [] dt_206_k (by decide +kernel) rfl ?_
  intro C J hC hJ
  conv => whnf
  rw [show rf_ui f 0 0 0 = g from hgd.symm]
  refine hC _ _ _ _ (((r_in (d := d)).up (by omega)).mp ?_)
  rintro r f1 ⟨hcs, hf1⟩
  rw [hf1]
  rcases hcs with ⟨rfl, hv⟩ | ⟨rfl, hv⟩
  · obtain ⟨c, hc, hvc⟩ := i32_18 hv
    have hvn := i32_nat hvc
    have hvi : jx_in v 9 := jx_in_nat hvc (by omega)
    conv => whnf
    refine jx_no (show ¬ (1 : Int32) = 0 by decide) ?_
    conv => whnf
    refine ⟨hvi, ?_⟩
    conv => whnf
    rw [hvn]
    refine ⟨fun (h : ¬ g.1 26 (c + 1) = 0) => ?_, fun (h : ¬ ¬ g.1 26 (c + 1) = 0) => ?_⟩
    · conv => whnf
      refine ⟨hvi, ?_⟩
      conv => whnf
      rw [hvn]
      refine ⟨fun (h2 : ¬ g.1 26 (c + 1) = 2) => ?_, fun (h2 : ¬ ¬ g.1 26 (c + 1) = 2) => ?_⟩
      · have h26 : g.1 26 (c + 1) = 1 := by
          obtain ⟨x, q, r, ⟨t1, t1'⟩, -⟩ := hS.2.1 (c + 1) (by omega) (by omega)
          have x0 : x ≠ 0 := fun z => h ((i32_z t1).mpr z)
          have x2 : x ≠ 2 := fun z => h2 (Int32.toInt_inj.mp (by rw [t1, z]; decide))
          exact Int32.toInt_inj.mp (by rw [t1, show x = 1 by omega]; decide)
        conv => whnf
        rcases hon with rfl | rfl
        · refine jx_no (show ¬ ¬ (0 : Int32) = 0 from fun z => z rfl) ?_
          conv => whnf
          refine hC _ _ _ _ (((r_dropS (d := d) hS hvc (by omega) (by omega))).mp ?_)
          rintro r f2 ⟨rfl, hf2⟩
          conv => whnf
          unfold R_connF
          rw [hvn, if_pos ⟨hv, h⟩, if_neg h2, if_pos rfl]
          exact ⟨rfl, hf2⟩
        · refine jx_yes (show ¬ (1 : Int32) = 0 by decide) ?_
          conv => whnf
          refine ⟨hvi, ?_⟩
          conv => whnf
          refine ⟨hvi, ?_⟩
          conv => whnf
          rw [hvn]
          obtain ⟨p, hp, g27, g28, g30, g13, hst⟩ := hS.asked hc h26
          obtain ⟨f1', hf1'⟩ : ∃ f1', f1' = rf_ui g 26 (c + 1) 2 := ⟨_, rfl⟩
          have o1 : ∀ q j, ¬ (q = 26 ∧ j = c + 1) → f1'.1 q j = g.1 q j := fun q j hh => by rw [hf1']; exact rf_ui_ne hh
          rw [← hf1', o1 27 _ (by omega)]
          have hq : (g.1 27 (c + 1) - 1).toInt = (p : Int) := by rw [g27, i32_sub (c := 1) (i32_ofNat (by omega)) (by decide) (by omega) (by omega)]; omega
          have hqn := i32_nat hq
          have hqi : jx_in (g.1 27 (c + 1) - 1) 4 := jx_in_nat hq (by omega)
          have g1 : R_gok f1' n a := by rw [hf1']; exact hS.1.u (by decide)
          have h13 : (f1'.1 13 p).toInt = ((c + 1 : Nat) : Int) := by rw [o1 13 p (by omega), g13, i32_ofNat (by omega)]
          refine hC _ _ _ _ (((r_sendOpening (d := d) hq (by omega) g1.1 h13 (by omega)).up (by omega)).mp ?_)
          rintro r f2 ⟨rfl, hf2⟩
          have g2 : R_gok f2 n a := by rw [hf2]; exact R_sendOpening_gok g1 (by omega)
          have o2 : ∀ q j, q ∉ [2, 31, 32, 34, 65, 66] → ¬ (q = 20 ∧ j = p) → ¬ (q = 26 ∧ j = c + 1) → f2.1 q j = g.1 q j := fun q j h1 h2 h3 => by rw [hf2, R_sendOpening_o h1 h2, o1 q j h3]
          have eO : R_own g n a (c + 1) p = if f2.1 11 p = 1 then R_become f2 n a p 2 else R_choose f2 n a p := by
            unfold R_own
            rw [← hf1', ← hf2]
          have e27 : (g.1 27 (c + 1)).toNatClampNeg - 1 = p := by rw [g27, i32_nat (i32_ofNat (n := p + 1) (by omega))]; omega
          conv => whnf
          refine ⟨hqi, ?_⟩
          conv => whnf
          rw [hqn]
          refine ⟨fun (h11 : ¬ f2.1 11 p = 1) => ?_, fun (h11 : ¬ ¬ f2.1 11 p = 1) => ?_⟩
          · conv => whnf
            obtain ⟨hN, e6, e6'⟩ := hS.1.1.1
            have hname : ∃ pN : Nat, (f2.1 9 p).toInt = (pN : Int) ∧ pN ≤ 40 := by
              rw [o2 9 p (by decide) (by omega) (by omega)]
              exact h9 p hp
            obtain ⟨pN, hm, hm4⟩ := hname
            refine hC _ _ _ _ (((r_choose (d := d) hq (by omega) g2 (by rw [o2 6 0 (by decide) (by omega) (by omega)]; exact e6) e6' hm hm4 (by rw [o2 13 p (by decide) (by omega) (by omega), g13]; exact i32_ofNat (n := c + 1) (by omega)) (by omega) (by rw [o2 27 _ (by decide) (by omega) (by omega), g27]; exact i32_ofNat (n := p + 1) (by omega)) (by omega))).mp ?_)
            rintro r f3 ⟨rfl, hf3⟩
            conv => whnf
            unfold R_connF
            rw [hvn, if_pos ⟨hv, h⟩, if_neg h2, if_neg (by decide), e27, eO, if_neg h11]
            exact ⟨rfl, hf3⟩
          · conv => whnf
            refine hC _ _ _ _ (((r_becomes (d := d) hq (by omega) g2).up (by omega)).mp ?_)
            rintro r f3 ⟨rfl, hf3⟩
            conv => whnf
            unfold R_connF
            rw [hvn, if_pos ⟨hv, h⟩, if_neg h2, if_neg (by decide), e27, eO, if_pos (Decidable.not_not.mp h11)]
            exact ⟨rfl, hf3⟩
      · conv => whnf
        unfold R_connF
        rw [hvn, if_pos ⟨hv, h⟩, if_pos (Decidable.not_not.mp h2)]
        exact ⟨rfl, rfl⟩
    · conv => whnf
      unfold R_connF
      rw [hvn, if_neg (fun z => h z.2)]
      exact ⟨rfl, rfl⟩
  · conv => whnf
    refine jx_yes (show (0 : Int32) = 0 from rfl) ?_
    conv => whnf
    unfold R_connF
    rw [if_neg (fun z => hv z.1)]
    exact ⟨rfl, rfl⟩
end JxConn3
