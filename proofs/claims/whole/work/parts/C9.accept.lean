/-! THE PAIR accept -/
section JxAccept
variable {th : Nat → Nat} {d B b c k m : Nat} {xl : List Int32} {σ σ' σ0 : jx_S} {f f' : jx_F} {A : Nat → Nat → Nat} {G : Nat → Nat → Int32} {T : Nat → Nat} {Q : Option Value → jx_S → Prop}
theorem k_lc_l (hR : RelC th B b xl σ f A G T) : ∀ (r k : Nat) (iv : Int32), iv.toInt = (k : Int) → k + r = 8 → (R_least f r (k + 1) ≠ 0 → Q (some (.ref (B + 14 + 3 * (R_least f r (k + 1) - 1)))) σ) → (R_least f r (k + 1) = 0 → Q (some .null) σ) → cl_fj th d 42 2 [(0, .ref B), (1, .int iv)] [] σ Q
  | 0, k, iv, hv, hk, h1, h2 => by
    obtain ⟨g, hg, hgi⟩ := hR.1.2.2.2.2.2.2.2.2.1
    refine cl_at dt_42 60 [] dt_42_k ?_
    intro C J hC hJ
    conv => whnf
    refine ⟨_, jx_getF_of (hR.X) rfl, ?_⟩
    conv => whnf
    refine ⟨_, jx_al_of (hg), ?_⟩
    conv => whnf
    refine jx_yes (show Int32.ofNat 8 ≤ iv by rw [Int32.le_iff_toInt_le, hv, i32_ofNat (by omega)]; omega) ?_
    conv => whnf
    exact h2 rfl
  | r + 1, k, iv, hv, hk, h1, h2 => by
    obtain ⟨g, hg, hgi⟩ := hR.1.2.2.2.2.2.2.2.2.1
    have hce := (hR.2.2.1 k (by omega)).1
    refine cl_at dt_42 60 [(2, [0, 1])] dt_42_k ?_
    intro C J hC hJ
    conv => whnf
    refine ⟨_, jx_getF_of (hR.X) rfl, ?_⟩
    conv => whnf
    refine ⟨_, jx_al_of (hg), ?_⟩
    conv => whnf
    refine jx_no (show ¬ Int32.ofNat 8 ≤ iv by rw [Int32.le_iff_toInt_le, hv, i32_ofNat (by omega)]; omega) ?_
    conv => whnf
    refine ⟨_, jx_getF_of (hR.X) rfl, ?_⟩
    conv => whnf
    refine ⟨_, jx_ald_of hg (Or.inr rfl) hv (show k < 8 by omega), ?_⟩
    rw [hgi k (by omega)]
    conv => whnf
    refine ⟨_, jx_getF_of (hce) rfl, ?_⟩
    conv => whnf
    refine ⟨fun (h : ¬ f.1 26 (k + 1) = 0) => ?_, fun (h : ¬ ¬ f.1 26 (k + 1) = 0) => ?_⟩
    · conv => whnf
      have e : R_least f (r + 1) (k + 1) = R_least f r (k + 1 + 1) := if_neg h
      rw [e] at h1 h2
      refine hJ _ _ _ _ (k_lc_l hR r (k + 1) _ ?_ (by omega) h1 h2)
      rw [i32_add (c := 1) hv (by decide) (by omega) (by omega)]; omega
    · have e : R_least f (r + 1) (k + 1) = k + 1 := if_pos (Decidable.not_not.mp h)
      rw [e] at h1
      conv => whnf
      refine ⟨_, jx_getF_of (hR.X) rfl, ?_⟩
      conv => whnf
      refine ⟨_, jx_ald_of hg (Or.inr rfl) hv (show k < 8 by omega), ?_⟩
      rw [hgi k (by omega)]
      conv => whnf
      have := h1 (by omega)
      rw [show k + 1 - 1 = k by omega] at this
      exact this
theorem R_least_r : ∀ (r k : Nat), R_least f r k ≠ 0 → k ≤ R_least f r k ∧ R_least f r k < k + r ∧ f.1 26 (R_least f r k) = 0
  | 0, k, h => absurd rfl h
  | r + 1, k, h => by
    by_cases hu : f.1 26 k = 0
    · have e : R_least f (r + 1) k = k := if_pos hu
      rw [e]
      exact ⟨Nat.le_refl _, by omega, hu⟩
    · have e : R_least f (r + 1) k = R_least f r (k + 1) := if_neg hu
      rw [e] at h ⊢
      obtain ⟨h1, h2, h3⟩ := R_least_r r (k + 1) h
      exact ⟨by omega, by omega, h3⟩
theorem k_leastClosed (hR : RelC th B b xl σ f A G T) : jc th (d + 1) 42 [.ref B] σ (fun r σ' => ((R_least f 8 1 ≠ 0 ∧ r = some (.ref (B + 14 + 3 * (R_least f 8 1 - 1)))) ∨ (R_least f 8 1 = 0 ∧ r = some .null)) ∧ σ' = σ) := by
  refine cl_go dt_42 20 [(2, [0, 1])] dt_42_k rfl ?_
  intro C J hC hJ
  conv => whnf
  exact hJ _ _ _ _ (k_lc_l hR 8 0 0 (by decide) rfl (fun h => ⟨Or.inl ⟨h, rfl⟩, rfl⟩) (fun h => ⟨Or.inr ⟨h, rfl⟩, rfl⟩))
/-- the reference's place stays; rows of a connection may be made -/
def kpa (B : Nat) (A A' : Nat → Nat → Nat) (σ σ' : jx_S) : Prop := (∀ a, B + 39 ≤ a → a < B + 102 → σ'.1 a = σ.1 a) ∧ (∀ q i, q ≠ 51 → q ≠ 52 → A' q i = A q i) ∧ σ.2.1 ≤ σ'.2.1 ∧ σ'.2.1 + 2 * ngr A' B 8 = σ.2.1 + 2 * ngr A B 8 ∧ σ'.2.2 + 2600 * ngr A' B 8 = σ.2.2 + 2600 * ngr A B 8
theorem kpa.rf : kpa B A A σ σ := ⟨fun _ _ _ => rfl, fun _ _ _ _ => rfl, Nat.le_refl _, rfl, rfl⟩
theorem kpa.tr {A' A'' : Nat → Nat → Nat} {σ'' : jx_S} (h : kpa B A A' σ σ') (h' : kpa B A' A'' σ' σ'') : kpa B A A'' σ σ'' := ⟨fun a h1 h2 => (h'.1 a h1 h2).trans (h.1 a h1 h2), fun q i h1 h2 => (h'.2.1 q i h1 h2).trans (h.2.1 q i h1 h2), Nat.le_trans h.2.2.1 h'.2.2.1, h'.2.2.2.1.trans h.2.2.2.1, h'.2.2.2.2.trans h.2.2.2.2⟩
theorem kpa.kp (h : kp B σ σ') : kpa B A A σ σ' := ⟨h.2, fun _ _ _ _ => rfl, by rw [h.1]; exact Nat.le_refl _, by rw [h.1], by rw [h.1]⟩
theorem ngr_lt {A' : Nat → Nat → Nat} (hc : A 52 c = B + 16 + 3 * c) (hc' : ¬ A' 52 c = B + 16 + 3 * c) (ho : ∀ q, q ≠ c → A' 52 q = A 52 q) : ∀ m, c < m → ngr A B m = ngr A' B m + 1
  | 0, h => by omega
  | m + 1, h => by
    unfold ngr
    by_cases e : c = m
    · subst e
      rw [if_pos hc, if_neg hc']
      have : ∀ q, q ≤ c → ngr A B q = ngr A' B q := by
        intro q
        induction q with
        | zero => intro _; rfl
        | succ q ih =>
          intro hq
          unfold ngr
          rw [ih (by omega), ho q (by omega)]
      rw [this c (Nat.le_refl _)]
    · rw [ngr_lt hc hc' ho m (by omega), ho m (fun z => e z.symm)]
      omega
theorem fresh_o {s : Int32} : ∀ q j, ¬ (q ∈ [26, 27, 28, 30, 32, 33] ∧ j = c + 1) → (R_fresh f (c + 1) s).1 q j = f.1 q j := by
  intro q j h
  unfold R_fresh
  have hn : ∀ k, k ∈ [26, 27, 28, 30, 32, 33] → ¬ (q = k ∧ j = c + 1) := fun k hk e => h ⟨by rw [e.1]; exact hk, e.2⟩
  rw [rf_ui_ne (hn 33 (by decide)), rf_ui_ne (hn 32 (by decide)), rf_ui_ne (hn 30 (by decide)), rf_ui_ne (hn 28 (by decide)), rf_ui_ne (hn 27 (by decide)), rf_ui_ne (hn 26 (by decide))]
theorem fresh_v {s : Int32} : (R_fresh f (c + 1) s).1 26 (c + 1) = s ∧ (R_fresh f (c + 1) s).1 27 (c + 1) = 0 ∧ (R_fresh f (c + 1) s).1 28 (c + 1) = 0 ∧ (R_fresh f (c + 1) s).1 30 (c + 1) = 0 ∧ (R_fresh f (c + 1) s).1 32 (c + 1) = 0 ∧ (R_fresh f (c + 1) s).1 33 (c + 1) = 0 := by
  simp [R_fresh, rf_ui]
theorem k_giveAnew {s : Int32} (hR : RelC th B b xl σ f A G T) (hc : c < 8) : jc th (d + 1) 43 [.ref (B + 14 + 3 * c), .int s] σ (fun r σ' => r = none ∧ ∃ A' T', RelC th B b xl σ' (R_fresh f (c + 1) s) A' G T' ∧ kpa B A A' σ σ') := by
  have hB := hR.1.2.2.2.2.1
  obtain ⟨hce, hrow⟩ := hR.2.2.1 c hc
  have hX := hR.X
  obtain ⟨-, ⟨hd1, hd2, -⟩, hC', ⟨np, p1', p2', -, hP'⟩, ⟨nq, q1', q2', -, hQ'⟩, -⟩ := id hR
  have o := fresh_o (f := f) (c := c) (s := s)
  obtain ⟨v26, v27, v28, v30, v32, v33⟩ := fresh_v (f := f) (c := c) (s := s)
  have no : ∀ q : Nat, ¬ (26 ≤ q ∧ q ≤ 33) → ∀ j, (R_fresh f (c + 1) s).1 q j = f.1 q j := fun q hq j => o q j (fun e => by have := e.1; simp only [List.mem_cons, List.not_mem_nil, or_false] at this; omega)
  have fin : ∀ (σ' : jx_S) (A' : Nat → Nat → Nat) (T' : Nat → Nat), chg (fun a => a = B + 14 + 3 * c) σ σ' T T' → (∀ q i, q ≠ 51 → q ≠ 52 → A' q i = A q i) → (∀ c', c' ≠ c → A' 51 c' = A 51 c' ∧ A' 52 c' = A 52 c') → rl_c1 B σ' (R_fresh f (c + 1) s) A' G T' c → RelC th B b xl σ' (R_fresh f (c + 1) s) A' G T' := by
    intro σ' A' T' hch hA hA5 hc1
    refine hR.fr hch (fun a e => Or.inr (Or.inr (Or.inr (Or.inl ⟨c, hc, e⟩)))) (fun q j hq => no q (fun e => hq (by unfold wfr; omega)) j) (fun _ _ _ _ => rfl) hA ?_ ⟨?_, ?_⟩ (fun c' hc' => ?_) (fun p hp => (hP' p (by omega)).mv (by omega) hch (fun a t h _ => by have := h.1; omega) (fun q h1 h2 => no q (by omega) p) (fun j _ => no 8 (by omega) _) ⟨hA 6 p (by omega) (by omega), hA 60 p (by omega) (by omega)⟩ rfl) (fun i hi => (hQ' i (by omega)).mv hch (fun a t h _ => by have := h.1; omega) (fun q j hq => no q (by simp only [List.mem_cons, List.not_mem_nil, or_false] at hq; omega) j) (fun q hq => no q (by simp only [List.mem_cons, List.not_mem_nil, or_false] at hq; omega) i) rfl ⟨hA 11 i (by omega) (by omega), hA 111 i (by omega) (by omega), fun p => hA 6 p (by omega) (by omega)⟩)
    · rw [hch.1 B (by omega) (by omega), hX]
      unfold cx_e
      rw [no 4 (by omega), no 1 (by omega), no 34 (by omega)]
    · obtain ⟨c0, hc0⟩ := hd1
      exact ⟨c0, by rw [hch.1 _ (by omega) (by omega)]; exact hc0⟩
    · obtain ⟨w, hw⟩ := hd2
      exact ⟨w, by rw [hch.1 _ (by omega) (by omega)]; exact hw⟩
    · by_cases e : c' = c
      · subst e; exact hc1
      · exact (hC' c' hc').mv hc' hch hB ⟨by omega, by omega, by omega⟩ (fun a t h _ => by have := h.1; omega) (fun q hq => o q _ (fun z => e (by omega))) (fun j hj => o 29 _ (fun z => by have := z.1; revert this; decide)) (fun j hj => o 31 _ (fun z => by have := z.1; revert this; decide)) ⟨(hA5 c' e).1, (hA5 c' e).2, fun i => hA 6 i (by omega) (by omega)⟩ rfl
  refine cl_go dt_43 60 [(26, [0, 1])] dt_43_k rfl ?_
  intro C J hC hJ
  have tail : ∀ (τ : jx_S) (A' : Nat → Nat → Nat) (T' : Nat → Nat) (u1 u2 u3 u4 u5 u7 : Value), τ.1 (B + 14 + 3 * c) = some (.inr (5, [.int (Int32.ofNat (c + 1)), u1, u2, u3, u4, u5, .int (G 1 c), u7, .ref (A' 51 c), .ref (A' 52 c)])) → (∀ a, a < σ.2.1 → a ≠ B + 14 + 3 * c → τ.1 a = σ.1 a) → σ.2.1 ≤ τ.2.1 → (∀ a, a < σ.2.1 → T' a = T a) → (∀ q i, q ≠ 51 → q ≠ 52 → A' q i = A q i) → (∀ c', c' ≠ c → A' 51 c' = A 51 c' ∧ A' 52 c' = A 52 c') → (dy B τ T' (A' 51 c) (510 + c) ∧ dy B τ T' (A' 52 c) (520 + c) ∧ (∃ h : Nat → Int32, τ.1 (A' 51 c) = some (.inl (0, 600, .inl h))) ∧ ∃ h : Nat → Int32, τ.1 (A' 52 c) = some (.inl (0, 2000, .inl h))) → τ.2.1 + 2 * ngr A' B 8 = σ.2.1 + 2 * ngr A B 8 → τ.2.2 + 2600 * ngr A' B 8 = σ.2.2 + 2600 * ngr A B 8 → cl_fj th d 43 26 [(0, .ref (B + 14 + 3 * c)), (1, .int s)] [] τ (fun r σ' => r = none ∧ ∃ A' T', RelC th B b xl σ' (R_fresh f (c + 1) s) A' G T' ∧ kpa B A A' σ σ') := by
    intro τ A' T' u1 u2 u3 u4 u5 u7 t1 t2 t3 t4 t5 t6 t7 t8 t9
    refine cl_at dt_43 60 [] dt_43_k ?_
    intro C J hC hJ
    conv => whnf
    refine putK t1 rfl (fit_i _) (fun s1 p1 o1 n1 => ?_)
    conv => whnf
    refine putK p1 rfl (fit_o _ rfl) (fun s2 p2 o2 n2 => ?_)
    conv => whnf
    refine putK p2 rfl (fit_i _) (fun s3 p3 o3 n3 => ?_)
    conv => whnf
    refine putK p3 rfl (fit_i _) (fun s4 p4 o4 n4 => ?_)
    conv => whnf
    refine putK p4 rfl (fit_i _) (fun s5 p5 o5 n5 => ?_)
    conv => whnf
    refine putK p5 rfl (fit_i _) (fun s6 p6 o6 n6 => ?_)
    conv => whnf
    have os : ∀ q, q ≠ B + 14 + 3 * c → s6.1 q = τ.1 q := fun q hq => by rw [o6 q hq, o5 q hq, o4 q hq, o3 q hq, o2 q hq, o1 q hq]
    have ns : s6.2 = τ.2 := by rw [n6, n5, n4, n3, n2, n1]
    obtain ⟨y1, y2, ⟨g1, y3⟩, g2, y4⟩ := t7
    refine ⟨rfl, A', T', fin s6 A' T' ⟨fun a h1 h2 => (os a h2).trans (t2 a h1 h2), by rw [ns]; exact t3, t4⟩ t5 t6 ⟨?_, Or.inr ⟨⟨y1.1, by rw [ns]; exact y1.2.1, y1.2.2⟩, ⟨y2.1, by rw [ns]; exact y2.2.1, y2.2.2⟩, ⟨g1, 0, by rw [os _ (by have := y1.1; omega)]; exact y3, by rw [v30]; decide, by omega, fun j hj => by omega⟩, g2, 0, 0, by rw [os _ (by have := y2.1; omega)]; exact y4, by rw [v33]; decide, by omega, by rw [v32]; decide, by omega, fun j hj => by omega⟩⟩, fun a h1 h2 => ?_, t5, by rw [ns]; exact t3, by rw [ns]; exact t8, by rw [ns]; exact t9⟩
    · rw [p6]
      unfold cc_e
      rw [v26, v27, v28, v30, v32, v33]
      rfl
    · rw [os a (by omega), t2 a (by omega) (by omega)]
  rcases hrow with ⟨e1, e2, ⟨y1, e3⟩, ⟨y2, e4⟩, -⟩ | ⟨e1, e2, ⟨y1, n1, e3, -⟩, y2, a2, z2, e4, -⟩
  · conv => whnf
    refine ⟨_, jx_getF_of (hce) rfl, ?_⟩
    conv => whnf
    refine ⟨_, jx_al_of (e4), ?_⟩
    conv => whnf
    refine jx_no (show ¬ ¬ Int32.ofNat 0 = 0 from fun z => z rfl) ?_
    conv => whnf
    refine ⟨by decide, ?_⟩
    conv => whnf
    have m1 : (jx_mk σ (.inl (0, 600, jx_emp 0)) 600).1 σ.2.1 = some (.inl (0, 600, jx_emp 0)) := jx_mk_eq
    have m2 : ∀ a, a ≠ σ.2.1 → (jx_mk σ (.inl (0, 600, jx_emp 0)) 600).1 a = σ.1 a := fun a ha => jx_mk_ne ha
    have m3 : (jx_mk σ (.inl (0, 600, jx_emp 0)) 600).2.1 = σ.2.1 + 1 ∧ (jx_mk σ (.inl (0, 600, jx_emp 0)) 600).2.2 = σ.2.2 + 600 := ⟨rfl, rfl⟩
    have hce1 := (m2 (B + 14 + 3 * c) (by omega)).trans hce
    refine putK (σ := jx_mk σ (.inl (0, 600, jx_emp 0)) 600) hce1 rfl (fit_a _ rfl) (fun s1 p1 o1 n1 => ?_)
    conv => whnf
    refine ⟨by decide, ?_⟩
    conv => whnf
    have k1 : (jx_mk s1 (.inl (0, 2000, jx_emp 0)) 2000).1 s1.2.1 = some (.inl (0, 2000, jx_emp 0)) := jx_mk_eq
    have k2 : ∀ a, a ≠ s1.2.1 → (jx_mk s1 (.inl (0, 2000, jx_emp 0)) 2000).1 a = s1.1 a := fun a ha => jx_mk_ne ha
    have k3 : (jx_mk s1 (.inl (0, 2000, jx_emp 0)) 2000).2.1 = s1.2.1 + 1 ∧ (jx_mk s1 (.inl (0, 2000, jx_emp 0)) 2000).2.2 = s1.2.2 + 2000 := ⟨rfl, rfl⟩
    have hn1 : s1.2.1 = σ.2.1 + 1 ∧ s1.2.2 = σ.2.2 + 600 := by rw [n1]; exact m3
    have hce2 := (k2 (B + 14 + 3 * c) (by omega)).trans p1
    refine putK (σ := jx_mk s1 (.inl (0, 2000, jx_emp 0)) 2000) hce2 rfl (fit_a _ rfl) (fun s2 p2 o2 n2 => ?_)
    conv => whnf
    have hA51 : (if 51 = 51 ∧ c = c then σ.2.1 else if 51 = 52 ∧ c = c then σ.2.1 + 1 else A 51 c) = σ.2.1 := if_pos ⟨rfl, rfl⟩
    have hA52 : (if 52 = 51 ∧ c = c then σ.2.1 else if 52 = 52 ∧ c = c then σ.2.1 + 1 else A 52 c) = σ.2.1 + 1 := by rw [if_neg (by omega), if_pos ⟨rfl, rfl⟩]
    have hold : ∀ a, a < σ.2.1 → a ≠ B + 14 + 3 * c → s2.1 a = σ.1 a := fun a h1 h2 => by rw [o2 a h2, k2 a (by omega), o1 a h2, m2 a (by omega)]
    have hng := ngr_lt (A := A) (B := B) (c := c) (A' := fun q i => if q = 51 ∧ i = c then σ.2.1 else if q = 52 ∧ i = c then σ.2.1 + 1 else A q i) e2 (by show ¬ (if 52 = 51 ∧ c = c then σ.2.1 else if 52 = 52 ∧ c = c then σ.2.1 + 1 else A 52 c) = _; rw [hA52]; omega) (fun q hq => by show (if 52 = 51 ∧ q = c then σ.2.1 else if 52 = 52 ∧ q = c then σ.2.1 + 1 else A 52 q) = _; rw [if_neg (by omega), if_neg (fun z => hq z.2)]) 8 hc
    refine hJ _ _ _ _ (tail s2 (fun q i => if q = 51 ∧ i = c then σ.2.1 else if q = 52 ∧ i = c then σ.2.1 + 1 else A q i) (fun a => if a = σ.2.1 then 510 + c else if a = σ.2.1 + 1 then 520 + c else T a) (.int (f.1 26 (c + 1))) (va_rf (cp_ref A (f.1 27 (c + 1)))) (.int (f.1 28 (c + 1))) (.int (f.1 30 (c + 1))) (.int (f.1 32 (c + 1))) (.int (f.1 33 (c + 1))) ?_ hold (by rw [n2, k3.1, hn1.1]; omega) (fun a ha => by rw [if_neg (by omega), if_neg (by omega)]) (fun q i h1 h2 => by rw [if_neg (fun z => h1 z.1), if_neg (fun z => h2 z.1)]) (fun c' hc' => ⟨by show (if 51 = 51 ∧ c' = c then _ else if 51 = 52 ∧ c' = c then _ else _) = _; rw [if_neg (fun z => hc' z.2), if_neg (fun z => hc' z.2)], by show (if 52 = 51 ∧ c' = c then _ else if 52 = 52 ∧ c' = c then _ else _) = _; rw [if_neg (fun z => hc' z.2), if_neg (fun z => hc' z.2)]⟩) ?_ ?_ ?_)
    · show s2.1 (B + 14 + 3 * c) = some (Sum.inr (5, [.int (Int32.ofNat (c + 1)), .int (f.1 26 (c + 1)), va_rf (cp_ref A (f.1 27 (c + 1))), .int (f.1 28 (c + 1)), .int (f.1 30 (c + 1)), .int (f.1 32 (c + 1)), .int (G 1 c), .int (f.1 33 (c + 1)), .ref (if 51 = 51 ∧ c = c then σ.2.1 else if 51 = 52 ∧ c = c then σ.2.1 + 1 else A 51 c), .ref (if 52 = 51 ∧ c = c then σ.2.1 else if 52 = 52 ∧ c = c then σ.2.1 + 1 else A 52 c)]))
      rw [hA51, hA52, p2, hn1.1]
      rfl
    · show dy B s2 _ (if 51 = 51 ∧ c = c then σ.2.1 else if 51 = 52 ∧ c = c then σ.2.1 + 1 else A 51 c) _ ∧ dy B s2 _ (if 52 = 51 ∧ c = c then σ.2.1 else if 52 = 52 ∧ c = c then σ.2.1 + 1 else A 52 c) _ ∧ (∃ h : Nat → Int32, s2.1 (if 51 = 51 ∧ c = c then σ.2.1 else if 51 = 52 ∧ c = c then σ.2.1 + 1 else A 51 c) = _) ∧ ∃ h : Nat → Int32, s2.1 (if 52 = 51 ∧ c = c then σ.2.1 else if 52 = 52 ∧ c = c then σ.2.1 + 1 else A 52 c) = _
      rw [hA51, hA52]
      refine ⟨⟨hB, by rw [n2, k3.1, hn1.1]; omega, if_pos rfl⟩, ⟨by omega, by rw [n2, k3.1, hn1.1]; omega, (if_neg (by omega)).trans (if_pos rfl)⟩, ⟨fun _ => 0, ?_⟩, fun _ => 0, ?_⟩
      · rw [o2 _ (by omega), k2 _ (by omega), o1 _ (by omega), m1]
        rfl
      · rw [o2 _ (by omega), ← hn1.1, k1]
        rfl
    · rw [n2, k3.1, hn1.1]; omega
    · rw [n2, k3.2, hn1.2]; omega
  · conv => whnf
    refine ⟨_, jx_getF_of (hce) rfl, ?_⟩
    conv => whnf
    refine ⟨_, jx_al_of (e4), ?_⟩
    conv => whnf
    refine jx_yes (show ¬ Int32.ofNat 2000 = 0 by decide) ?_
    conv => whnf
    exact hJ _ _ _ _ (tail σ A T _ _ _ _ _ _ hce (fun _ _ _ => rfl) (Nat.le_refl _) (fun _ _ => rfl) (fun _ _ _ _ => rfl) (fun _ _ => ⟨rfl, rfl⟩) ⟨e1, e2, ⟨y1, e3⟩, y2, e4⟩ rfl rfl)
end JxAccept
