/-! WHAT A CHANGE LEAVES AS IT IS: ASKS, KEPT, SESSIONS, the object -/
section JxFrames2
variable {th : Nat → Nat} {B b : Nat} {xl : List Int32} {σ σ' : jx_S} {f f' : jx_F} {A A' : Nat → Nat → Nat} {G G' : Nat → Nat → Int32} {T T' : Nat → Nat} {W : Nat → Prop}
theorem ro_eq {a n : Nat} {o o' : Nat → Int32} (h : ro_at B σ T a n o) (he : ∀ j, j < n → o' j = o j) : ro_at B σ T a n o' := by
  obtain ⟨h1, x, h2, h3⟩ := h
  exact ⟨h1, x, h2, fun j hj => ⟨(h3 j hj).1.trans (he j hj).symm, (h3 j hj).2⟩⟩
theorem rl_q1.mv {i : Nat} (hr : rl_q1 B σ f A T i) (h : chg W σ σ' T T') (ht : ∀ a t, dy B σ T a t → t = 1000 + i ∨ t = 2000 + i → ¬ W a) (hf : ∀ k j, k ∈ [5, 6, 50, 51, 52] → f'.1 k j = f.1 k j) (hq : ∀ k, k ∈ [54, 55, 56, 57] → f'.1 k i = f.1 k i) (hl : f'.2 53 i = f.2 53 i) (hA : A' 11 i = A 11 i ∧ A' 111 i = A 111 i ∧ ∀ p, A' 6 p = A 6 p) : rl_q1 B σ' f' A' T' i := by
  obtain ⟨q1, q2, q3, q4, n, w, q5, q6, q7, q8, q9, q10⟩ := hr
  have eh : R_hs f' = R_hs f := by unfold R_hs; rw [hf 6 0 (by decide)]
  have e5 : ∀ k, k ∈ [50, 51, 52] → R_qn f' k i = R_qn f k i := by
    intro k hk
    unfold R_qn
    rw [hf k _ (by simp only [List.mem_cons, List.not_mem_nil, or_false] at hk ⊢; omega)]
  have eT : R_askT f' i (R_hs f') (R_qn f' 50 i) (R_qn f' 52 i) (R_qn f' 51 i) = R_askT f i (R_hs f) (R_qn f 50 i) (R_qn f 52 i) (R_qn f 51 i) := by
    rw [eh, e5 50 (by decide), e5 51 (by decide), e5 52 (by decide)]
    exact R_askT_eq hf
  refine ⟨by rw [hA.1]; exact h.mv q1, by rw [hA.2.1]; exact h.mv q2, ?_, fun k hk => ?_, n, w, ?_, by rw [eT]; exact q6, q7, by rw [hq 55 (by decide)]; exact q8, q9, by rw [eT]; exact q10⟩
  · rw [hA.1, h.eqv q1 (ht _ _ q1 (Or.inl rfl)), q3]
    unfold cq_e
    rw [hA.2.1, hA.2.2, hq 54 (by decide), hq 55 (by decide), hq 56 (by decide), hq 57 (by decide), hl]
  · obtain ⟨x, h1, h2⟩ := q4 k hk
    exact ⟨x, by rw [hf k _ (by rcases hk with rfl | rfl | rfl <;> decide)]; exact h1, h2⟩
  · rw [hA.2.1, h.eqv q2 (ht _ _ q2 (Or.inr rfl))]; exact q5
theorem rl_q.mv (hr : rl_q th B σ f A T) (h : chg W σ σ' T T') (hB : B + 102 ≤ σ.2.1) (hw : ¬ W (B + 4)) (ht : ∀ a t, dy B σ T a t → (1000 ≤ t ∧ t < 1064) ∨ (2000 ≤ t ∧ t < 2064) ∨ t = 71 → ¬ W a) (hf : ∀ k j, k ∈ [5, 6, 49, 50, 51, 52, 54, 55, 56, 57] → f'.1 k j = f.1 k j) (hl : ∀ j, f'.2 53 j = f.2 53 j) (hA : ∀ k i, k = 6 ∨ k = 11 ∨ k = 111 ∨ (k = 70 ∧ i = 1) → A' k i = A k i) : rl_q th B σ' f' A' T' := by
  obtain ⟨n, p1, p2, p3, p4⟩ := hr
  refine ⟨n, by rw [hf 49 0 (by decide)]; exact p1, p2, ?_, fun i hi => (p4 i hi).mv h (fun a t hd ht2 => ht a t hd (by omega)) (fun k j hk => hf k j (by simp only [List.mem_cons, List.not_mem_nil, or_false] at hk ⊢; omega)) (fun k hk => hf k i (by simp only [List.mem_cons, List.not_mem_nil, or_false] at hk ⊢; omega)) (hl i) ⟨hA 11 i (Or.inr (Or.inl rfl)), hA 111 i (Or.inr (Or.inr (Or.inl rfl))), fun p => hA 6 p (Or.inl rfl)⟩⟩
  have := h.al (by omega) hw (fun a hd => ht a 71 hd (Or.inr (Or.inr rfl))) p3
  rw [hA 70 1 (Or.inr (Or.inr (Or.inr ⟨rfl, rfl⟩))), show (List.range n).map (A' 11) = (List.range n).map (A 11) from List.map_congr_left (fun i _ => hA 11 i (Or.inr (Or.inl rfl)))]
  exact this
theorem rl_k.mv (hr : rl_k th B σ f A T) (h : chg W σ σ' T T') (hB : B + 102 ≤ σ.2.1) (hw : ¬ W (B + 5)) (ht : ∀ a t, dy B σ T a t → t = 9 ∨ t = 92 ∨ t = 81 ∨ t = 72 → ¬ W a) (hf : ∀ k j, 59 ≤ k → k ≤ 64 → f'.1 k j = f.1 k j) (hA : ∀ k i, k = 9 ∨ k = 91 ∨ k = 92 ∨ (k = 70 ∧ i = 2) → A' k i = A k i) : rl_k th B σ' f' A' T' := by
  obtain ⟨n, p1, p2, p3, pi, p4⟩ := hr
  refine ⟨n, by rw [hf 59 0 (by omega) (by omega)]; exact p1, p2, ?_, fun k k' h1 h2 h3 => pi k k' h1 h2 (by rw [← hA 92 k (Or.inr (Or.inr (Or.inl rfl))), ← hA 92 k' (Or.inr (Or.inr (Or.inl rfl)))]; exact h3), fun k hk => ?_⟩
  · have := h.al (by omega) hw (fun a hd => ht a 72 hd (by omega)) p3
    rw [hA 70 2 (Or.inr (Or.inr (Or.inr ⟨rfl, rfl⟩))), show (List.range n).map (A' 9) = (List.range n).map (A 9) from List.map_congr_left (fun i _ => hA 9 i (Or.inl rfl))]
    exact this
  · obtain ⟨q1, q2, q3, ⟨n4, q4, q5, q6⟩, n3, w, q7, q8, q9, q10, q11, q12, q13⟩ := p4 k hk
    refine ⟨by rw [hA 9 k (Or.inl rfl)]; exact h.mv q1, by rw [hA 92 k (Or.inr (Or.inr (Or.inl rfl)))]; exact h.mv q2, ?_, ⟨n4, by rw [hf 62 _ (by omega) (by omega)]; exact q4, q5, ?_⟩, n3, w, ?_, q8, q9, by rw [hf 61 k (by omega) (by omega)]; exact q10, q11, by rw [hf 60 _ (by omega) (by omega)]; exact q12, fun j h1 h2 h3 => by rw [hf 60 _ (by omega) (by omega)]; exact q13 j h1 h2 h3⟩
    · rw [hA 9 k (Or.inl rfl), h.eqv q1 (ht _ _ q1 (by omega)), q3]
      unfold ck_e
      rw [hA 91 k (Or.inr (Or.inl rfl)), hA 92 k (Or.inr (Or.inr (Or.inl rfl))), hf 63 k (by omega) (by omega), hf 64 k (by omega) (by omega)]
    · rw [hA 91 k (Or.inr (Or.inl rfl))]
      exact ro_eq (h.ro (fun a ha => ht a 81 ha (by omega)) q6) (fun j _ => hf 62 _ (by omega) (by omega))
    · rw [hA 92 k (Or.inr (Or.inr (Or.inl rfl))), h.eqv q2 (ht _ _ q2 (by omega))]; exact q7
theorem rl_s.mv (hr : rl_s th B σ f A T) (h : chg W σ σ' T T') (hB : B + 102 ≤ σ.2.1) (hw : ¬ W (B + 8)) (ht : ∀ a t, dy B σ T a t → t = 8 ∨ t = 81 ∨ t = 74 → ¬ W a) (hf : ∀ k j, 40 ≤ k → k ≤ 48 → f'.1 k j = f.1 k j) (hl : ∀ k j, k = 45 ∨ k = 46 → f'.2 k j = f.2 k j) (h7 : (f.1 7 0).toInt ≤ (f'.1 7 0).toInt) (h35 : (f.1 35 0).toInt ≤ (f'.1 35 0).toInt) (hA : ∀ k i, k = 8 ∨ k = 81 ∨ k = 82 ∨ k = 83 ∨ (k = 70 ∧ i = 4) → A' k i = A k i) (hA10 : ∀ i : Nat, (i : Int) < (f.1 35 0).toInt → A' 10 i = A 10 i) (hA6 : ∀ i : Nat, (i : Int) < (f.1 7 0).toInt → A' 6 i = A 6 i) : rl_s th B σ' f' A' T' := by
  obtain ⟨n, p1, p2, p3, pi, p4⟩ := hr
  refine ⟨n, by rw [hf 40 0 (by omega) (by omega)]; exact p1, p2, ?_, fun k k' h1 h2 h3 => pi k k' h1 h2 (by rw [← hA 8 k (by omega), ← hA 8 k' (by omega)]; exact h3), fun s hs => ?_⟩
  · have := h.al (by omega) hw (fun a hd => ht a 74 hd (by omega)) p3
    rw [hA 70 4 (by omega), show (List.range n).map (A' 8) = (List.range n).map (A 8) from List.map_congr_left (fun i _ => hA 8 i (by omega))]
    exact this
  · obtain ⟨q1, q2, ⟨i, q3, q3'⟩, ⟨p, q4, q4'⟩, ⟨n5, q5, q6, q7⟩, ⟨n8, q8, q9, q10⟩, n11, q11, q12, q13⟩ := p4 s hs
    have hro := fun {a n : Nat} {o : Nat → Int32} (x : ro_at B σ T a n o) => h.ro (fun a ha => ht a 81 ha (by omega)) x
    refine ⟨by rw [hA 8 s (by omega)]; exact h.mv q1, ?_, ⟨i, by rw [hf 44 s (by omega) (by omega)]; exact q3, by omega⟩, ⟨p, by rw [hf 47 s (by omega) (by omega)]; exact q4, by omega⟩, ⟨n5, by rw [hf 41 _ (by omega) (by omega)]; exact q5, q6, ?_⟩, ⟨n8, by rw [hf 42 _ (by omega) (by omega)]; exact q8, q9, ?_⟩, n11, by rw [hf 43 _ (by omega) (by omega)]; exact q11, q12, ?_⟩
    · rw [hA 8 s (by omega), h.eqv q1 (ht _ _ q1 (by omega)), q2]
      unfold cs_e cp_ref
      rw [hA 81 s (by omega), hA 82 s (by omega), hA 83 s (by omega), hf 44 s (by omega) (by omega), hf 47 s (by omega) (by omega), hf 48 s (by omega) (by omega), hl 45 s (by omega), hl 46 s (by omega), i32_nat q3, hA10 i q3', i32_nat q4, show p + 1 - 1 = p by omega, hA6 p q4']
    · rw [hA 81 s (by omega)]; exact ro_eq (hro q7) (fun j _ => hf 41 _ (by omega) (by omega))
    · rw [hA 82 s (by omega)]; exact ro_eq (hro q10) (fun j _ => hf 42 _ (by omega) (by omega))
    · rw [hA 83 s (by omega)]; exact ro_eq (hro q13) (fun j _ => hf 43 _ (by omega) (by omega))
/-- the object's own fields may have changed: hx tells how -/
theorem rl_x.mv (hr : rl_x th B b xl σ f A G T) (h : chg W σ σ' T T') (hw : ∀ a, a < B → ¬ W a) (hw2 : ¬ W (B + 1) ∧ ¬ W (B + 2) ∧ ¬ W (B + 6) ∧ ¬ W (B + 9)) (ht : ∀ a, dy B σ T a 81 → ¬ W a) (hx : σ'.1 B = some (cx_e B f' (A' 0 0) (G' 0 0))) (hf : ∀ k j, 3 ≤ k → k ≤ 6 → f'.1 k j = f.1 k j) (hA : A' 0 0 = A 0 0) : rl_x th B b xl σ' f' A' G' T' := by
  obtain ⟨x1, x2, x3, x4, x6, x7, ⟨n, x8, x9, y, x10, x11⟩, ⟨n2, z8, z9, y2, z10, z11⟩, ⟨g, c1, c2⟩, x12, ⟨o1, o2, o3, o4, o5, o6, x13⟩⟩ := hr
  have hlow : ∀ a, a < B → σ'.1 a = σ.1 a := fun a ha => h.1 a (by omega) (hw a ha)
  refine ⟨by rw [hlow b x2]; exact x1, x2, ⟨?_, ?_, fun z z1 z2 => ?_⟩, x4, Nat.le_trans x6 h.2.1, hx, ⟨n, by rw [hf 4 0 (by omega) (by omega)]; exact x8, x9, y, by rw [h.1 _ (by omega) hw2.1]; exact x10, fun j hj => by rw [hf 3 j (by omega) (by omega)]; exact x11 j hj⟩, ⟨n2, by rw [hf 6 0 (by omega) (by omega)]; exact z8, z9, y2, ?_, fun j hj => by rw [hf 5 j (by omega) (by omega)]; exact z11 j hj⟩, ⟨g, by rw [h.1 _ (by omega) hw2.2.1]; exact c1, c2⟩, by rw [h.1 _ (by omega) hw2.2.2.1]; exact x12, ⟨o1, o2, o3, o4, o5, o6, by rw [h.1 _ (by omega) hw2.2.2.2]; exact x13⟩⟩
  · rw [hlow _ (x4 0 (by omega))]; exact x3.1
  · rw [hlow _ (x4 1 (by omega))]; exact x3.2.1
  · rw [hlow _ (x4 z z2)]; exact x3.2.2 z z1 z2
  · rw [hA]
    rcases z10 with ⟨z1, z2⟩ | ⟨z1, z2⟩
    · exact Or.inl ⟨z1, by rw [z1] at z2 ⊢; rw [hlow _ (x4 0 (by omega))]; exact z2⟩
    · exact Or.inr ⟨h.mv z1, by rw [h.eqv z1 (ht _ z1)]; exact z2⟩
end JxFrames2
