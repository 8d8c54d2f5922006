/-! THE PAIRS stop, gone -/
section JxPairs3
variable {th : Nat → Nat} {B b m d k n a p c : Nat} {xl : List Int32} {σ σ0 : jx_S} {f g f' : jx_F} {A : Nat → Nat → Nat} {G G' : Nat → Nat → Int32} {T : Nat → Nat} {s : Int32}
theorem PI.same (hI : PI f G k) (hl : f.1 2 0 = lsum G' 8) : PI f G' (k + 1) := hI.fin (fun _ _ h => h) (fun _ _ _ _ => rfl) (fun _ _ => ⟨rfl, rfl⟩) hl rfl ⟨Int.le_refl _, by omega⟩ (fun _ _ _ => rfl) (fun _ _ _ => rfl)
theorem PS.uniq {n' a' : Nat} (h : PS f n a) (h' : PS f n' a') : n' = n ∧ a' = a := by
  have e1 := h.1.2.1
  have e2 := h'.1.2.1
  have e3 := h.1.2.2.2.1
  have e4 := h'.1.2.2.2.1
  omega
theorem R_gv_i {u j : Nat} (hu : 54 ≤ u ∧ u ≤ 58) (hj : a ≤ j) : (R_gv g n a p).1 u j = g.1 u j := by
  unfold R_gv
  rw [R_gvl_i hu _ _ _ (by omega)]
  unfold R_inc
  exact rf_ui_ne (by omega)
theorem R_gv_l {u j : Nat} (h : ¬ (u = 53 ∧ j < a)) : (R_gv g n a p).2 u j = g.2 u j := by
  unfold R_gv
  rw [R_gvl_l _ _ _ (by omega)]
  rfl
theorem R_bshut_i {u j : Nat} (hu : 54 ≤ u ∧ u ≤ 58) (hj : a ≤ j) : (R_bshut g n a p).1 u j = g.1 u j := by
  unfold R_bshut
  rw [R_gv_i hu hj, rf_ui_ne (by omega), rf_ui_ne (by omega), rf_ui_ne (by omega)]
theorem R_bshut_l {u j : Nat} (h : ¬ (u = 53 ∧ j < a)) : (R_bshut g n a p).2 u j = g.2 u j := by
  unfold R_bshut
  rw [R_gv_l h]
  rfl
theorem pair_stop (hk : k ≤ 512) (hR : Rel th B b xl σ f A G T) (hI : PI (fN f) G k) (h1 : σ.2.1 + 2 * ngr A B 8 ≤ B + 118 + 100 * k) (h2 : σ.2.2 + 2600 * ngr A B 8 ≤ 81000 + 13000 * k) (hQ : KQ f) : lawp_8 th b B (B + 39) xl σ (Inv th B b xl (k + 1)) := by
  intro v w
  have hI0 := hI.un
  obtain ⟨n, a, hS, x, hx, hx1, hx2⟩ := hI0.ps
  obtain ⟨f0, hf0⟩ : ∃ f0, f0 = rf_ui f 0 0 0 := ⟨_, rfl⟩
  rw [← hf0] at hI0 hS hx
  refine pair_work (w := (R_stopF f0 n a v w).1) (f' := (R_stopF f0 n a v w).2) rfl hR hI h1 h2 hQ (fun hW => (k_stop (d := 23) (by rw [hf0]; exact hW) hS ⟨x, hx, hx1, by omega⟩).mp ?_) (fun σ0 => ?_) (fun G' hl => ?_) (fun hq => ?_)
  · rintro r s1 ⟨h3, h4, h5⟩
    exact ⟨h3, A, T, h4, h5.kr⟩
  · rw [hf0]
    exact r_stop (d := 21) (by rw [← hf0]; exact hS.1)
  · have hn4 := hS.1.2.2.1
    unfold R_stopF at hl ⊢
    by_cases hv : 1 ≤ v ∧ v ≤ f0.1 7 0
    · obtain ⟨p, hp, hvp⟩ := i32_1x hS.1.2.1 hv
      have ev : v.toNatClampNeg - 1 = p := by rw [i32_nat hvp]; omega
      rw [if_pos hv, ev] at hl ⊢
      by_cases hw : 0 ≤ w ∧ w ≤ 2
      · rw [if_pos hw] at hl ⊢
        by_cases ho : R_open (f0.1 11 p)
        · rw [if_pos ho] at hl ⊢
          obtain ⟨f1, hf1⟩ : ∃ f1, f1 = R_sendEnding f0 p w := ⟨_, rfl⟩
          have o1 : ∀ q j, q ∉ [2, 31, 32, 34, 65, 66] → ¬ (q = 22 ∧ j = p) → f1.1 q j = f0.1 q j := fun q j h1 h2 => by rw [hf1]; exact R_sendEnding_o h1 h2
          obtain ⟨v34, v22⟩ : f1.1 34 0 = f0.1 34 0 + 1 ∧ f1.1 22 p = f0.1 34 0 := by rw [hf1]; exact R_sendEnding_v
          have l1 : f1.2 = f0.2 := by rw [hf1]; exact R_sendEnding_l
          have x34 : (f1.1 34 0).toInt = ((x + 1 : Nat) : Int) := by rw [v34, i32_add (c := 1) hx (by decide) (by omega) (by omega)]; omega
          have hS1 : PS f1 n a := hS.of (by rw [hf1]; exact R_sendEnding_ok hS.1 (by omega)) (fun q j hq => o1 q j (by simp only [List.mem_cons, List.not_mem_nil, or_false] at hq ⊢; omega) (by simp only [List.mem_cons, List.not_mem_nil, or_false] at hq; omega)) (fun j => by rw [l1]) (fun u hu => by
            have := hS.2.2.2.2.1 u hu
            by_cases e : u = p
            · subst e
              unfold PJ_p at this ⊢
              rw [v22, o1 15 u (by decide) (by omega), o1 19 u (by decide) (by omega)]
              exact ⟨by omega, this.2⟩
            · exact this.of (o1 22 u (by decide) (by omega)) (o1 15 u (by decide) (by omega)) (o1 19 u (by decide) (by omega))) (by rw [x34]; omega)
          have ho1 : R_open (f1.1 11 p) := by rw [o1 11 p (by decide) (by omega)]; exact ho
          have eF : R_become f1 n a p 7 = R_bshut (R_enter f1 p 7) n a p := R_become_yn (fun z => by rcases z with z | z <;> exact absurd z (by decide)) ho1
          obtain ⟨F, hF⟩ : ∃ F, F = R_bshut (R_enter f1 p 7) n a p := ⟨_, rfl⟩
          have hPS : PS F n a ∧ (f1.1 34 0).toInt ≤ (F.1 34 0).toInt ∧ (F.1 34 0).toInt ≤ (f1.1 34 0).toInt + 64 := by
            obtain ⟨st, o, kk, u, t1, t2, t3, t4, q5, q6, q7, q8, q9, q10, q11, q12, q13, q14, q15, q16, q17⟩ := hS1.2.2.1 p hp
            have oe : ∀ q j, ¬ ((q = 11 ∨ q = 12) ∧ j = p) → (R_enter f1 p 7).1 q j = f1.1 q j := fun q j h => enter_o h
            rw [hF]
            refine hS1.bshut (g := R_enter f1 p 7) hp ⟨x + 1, x34, by omega⟩ hS1.1.enter (fun u hu hne q _ => oe q u (by omega)) (fun q j hq => oe q j (by omega)) (fun _ => rfl) (fun c _ _ _ q hq => oe q c (by omega)) (fun c c1 c2 _ => (hS1.2.1 c c1 c2).of (fun q hq => oe q c (by omega)) (fun j _ _ => ⟨fun _ => oe 13 j (by omega), fun _ => oe 14 j (by omega)⟩)) ⟨7, o, kk, ⟨by rw [enter_v]; decide, Or.inr rfl⟩, by rw [oe 13 p (by omega)]; exact t2, by rw [oe 14 p (by omega)]; exact t3, fun e => by rw [oe 27 o (by omega), oe 28 o (by omega)]; exact q5 e, fun e => by rw [oe 27 kk (by omega), oe 28 kk (by omega)]; exact q6 e, fun e => by omega, fun _ => ?_⟩ (oe 10 p (by omega)) (fun u hu => (hS1.2.2.2.2.1 u hu).of (oe 22 u (by omega)) (oe 15 u (by omega)) (oe 19 u (by omega))) (fun c c1 c2 => (hS1.2.2.2.2.2.1 c c1 c2).of (oe 30 c (by omega)) (fun j => oe 29 j (by omega)))
            rw [oe 26 o (by omega)]
            rcases ho1 with e | e
            · refine Or.inl (q12 ?_)
              have := t1.1
              rw [e] at this
              have e5 : (5 : Int32).toInt = 5 := by decide
              omega
            · refine Or.inr (q13 ?_)
              have := t1.1
              rw [e] at this
              have e6 : (6 : Int32).toInt = 6 := by decide
              omega
          have oF : ∀ q j, R_askK q = false → ¬ ((q = 11 ∨ q = 12 ∨ q = 15 ∨ q = 16 ∨ q = 17 ∨ q = 18 ∨ q = 22) ∧ j = p) → F.1 q j = f0.1 q j := fun q j h1 h2 => by
            rw [hF, R_bshut_o h1 (by omega), enter_o (by omega)]
            refine o1 q j (fun z => ?_) (by omega)
            simp only [List.mem_cons, List.not_mem_nil, or_false] at z
            rcases z with rfl | rfl | rfl | rfl | rfl | rfl <;> exact absurd h1 (by decide)
          have eFF : R_become (R_sendEnding f0 p w) n a p 7 = F := by rw [← hf1, eF, hF]
          rw [eFF] at hl ⊢
          have hl : F.1 2 0 = lsum G' 8 := hl
          show PI F G' (k + 1)
          refine hI0.fin (G' := G') (fun n' a' hS' => ?_) (fun q u hu hq => oF q u ?_ ?_) (fun i hi => ⟨?_, ?_⟩) hl (oF 1 0 rfl (by omega)) ⟨by omega, by omega⟩ (fun q j hq => oF q j ?_ ?_) (fun q j hq => ?_)
          · obtain ⟨e1, e2⟩ := hS.uniq hS'
            rw [e1, e2]
            exact hPS.1
          · simp only [List.mem_cons, List.not_mem_nil, or_false] at hq
            rcases hq with rfl | rfl | rfl | rfl | rfl | rfl | rfl | rfl | rfl | rfl | rfl | rfl | rfl <;> rfl
          · have := hS.1.2.1
            omega
          · have := hS.1.2.2.2.1
            rw [hF, R_bshut_i (by omega) (by omega), enter_o (by omega), o1 55 i (by decide) (by omega)]
          · have := hS.1.2.2.2.1
            rw [hF, R_bshut_l (by omega)]
            show f1.2 53 i = _
            rw [l1]
          · simp only [List.mem_cons, List.not_mem_nil, or_false] at hq
            rcases hq with rfl | rfl | rfl | rfl | rfl <;> rfl
          · simp only [List.mem_cons, List.not_mem_nil, or_false] at hq
            omega
          · simp only [List.mem_cons, List.not_mem_nil, or_false] at hq
            rw [hF, R_bshut_l (by omega)]
            show f1.2 q j = _
            rw [l1]
        · rw [if_neg ho] at hl ⊢
          exact hI0.same hl
      · rw [if_neg hw] at hl ⊢
        exact hI0.same hl
    · rw [if_neg hv] at hl ⊢
      exact hI0.same hl
  · rw [← hf0] at hq
    unfold R_stopF
    have hn4 := hS.1.2.2.1
    by_cases hv : 1 ≤ v ∧ v ≤ f0.1 7 0
    · obtain ⟨p, hp, hvp⟩ := i32_1x hS.1.2.1 hv
      have ev : v.toNatClampNeg - 1 = p := by rw [i32_nat hvp]; omega
      rw [if_pos hv, ev]
      by_cases hw : 0 ≤ w ∧ w ≤ 2
      · rw [if_pos hw]
        by_cases ho : R_open (f0.1 11 p)
        · rw [if_pos ho]
          refine hq.of (fun q j hq' => ?_)
          show (R_become (R_sendEnding f0 p w) n a p 7).1 q j = _
          have e11 : (R_sendEnding f0 p w).1 11 p = f0.1 11 p := R_sendEnding_o (by decide) (by omega)
          rw [R_become_yn (fun z => by rcases z with z | z <;> exact absurd z (by decide)) (by rw [e11]; exact ho), R_bshut_o (by rcases hq' with rfl | rfl | rfl | rfl <;> rfl) (by omega), enter_o (by omega), R_sendEnding_o (by rcases hq' with rfl | rfl | rfl | rfl <;> decide) (by omega)]
        · rw [if_neg ho]; exact hq
      · rw [if_neg hw]; exact hq
    · rw [if_neg hv]; exact hq
end JxPairs3
