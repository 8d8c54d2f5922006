/-! WHAT A CHANGE LEAVES AS IT IS: each part of Rel by itself -/
/-- only addresses of W have changed among those that were there; what was marked keeps its mark -/
def chg (W : Nat → Prop) (σ σ' : jx_S) (T T' : Nat → Nat) : Prop := (∀ a, a < σ.2.1 → ¬ W a → σ'.1 a = σ.1 a) ∧ σ.2.1 ≤ σ'.2.1 ∧ ∀ a, a < σ.2.1 → T' a = T a
section JxFrames
variable {th : Nat → Nat} {B b : Nat} {xl : List Int32} {σ σ' : jx_S} {f f' : jx_F} {A A' : Nat → Nat → Nat} {G G' : Nat → Nat → Int32} {T T' : Nat → Nat} {W : Nat → Prop}
theorem chg.mv (h : chg W σ σ' T T') {a t : Nat} (hd : dy B σ T a t) : dy B σ' T' a t := ⟨hd.1, Nat.lt_of_lt_of_le hd.2.1 h.2.1, by rw [h.2.2 a hd.2.1]; exact hd.2.2⟩
theorem chg.eqv (h : chg W σ σ' T T') {a t : Nat} (hd : dy B σ T a t) (hw : ¬ W a) : σ'.1 a = σ.1 a := h.1 a hd.2.1 hw
theorem chg.ro (h : chg W σ σ' T T') (hw : ∀ a, dy B σ T a 81 → ¬ W a) {a n : Nat} {o : Nat → Int32} (hd : ro_at B σ T a n o) : ro_at B σ' T' a n o := by
  obtain ⟨h1, x, h2, h3⟩ := hd
  exact ⟨h.mv h1, x, by rw [h.eqv h1 (hw a h1)]; exact h2, h3⟩
theorem chg.al (h : chg W σ σ' T T') {L E t : Nat} {xs : List Nat} (hL : L < σ.2.1) (hw : ¬ W L) (ht : ∀ a, dy B σ T a t → ¬ W a) (hd : al_at th B σ T L E t xs) : al_at th B σ' T' L E t xs := by
  obtain ⟨⟨mc, h1⟩, h2⟩ := hd
  refine ⟨⟨mc, by rw [h.1 L hL hw]; exact h1⟩, ?_⟩
  rcases h2 with h2 | ⟨h2, cap, g, h3, h4⟩
  · exact Or.inl h2
  · exact Or.inr ⟨h.mv h2, cap, g, by rw [h.eqv h2 (ht _ h2)]; exact h3, h4⟩
theorem rl_d.mv (hr : rl_d B σ f A T) (h : chg W σ σ' T T') (hB : B + 102 ≤ σ.2.1) (hw : ¬ W (B + 11) ∧ ¬ W (B + 12) ∧ ¬ W (B + 38)) (ht : ∀ a, dy B σ T a 4 → ¬ W a) (hf : ∀ k j, k = 5 ∨ k = 6 → f'.1 k j = f.1 k j) (hA : A' 4 0 = A 4 0) : rl_d B σ' f' A' T' := by
  obtain ⟨⟨c, d1⟩, ⟨w, d2⟩, d3, n, o, d4, d5, d6⟩ := hr
  have e : R_hs f' = R_hs f := by unfold R_hs; rw [hf 6 0 (Or.inr rfl)]
  have em : R_me f' (R_hs f') 20 = R_me f (R_hs f) 20 := by rw [e]; exact R_me_eq (fun q => hf 5 q (Or.inl rfl)) (hf 6 0 (Or.inr rfl))
  refine ⟨⟨c, by rw [h.1 _ (by omega) hw.1, hA]; exact d1⟩, ⟨w, by rw [h.1 _ (by omega) hw.2.1]; exact d2⟩, ?_, n, o, ?_, by rw [em]; exact d5, by rw [em]; exact d6⟩
  · rw [hA]
    rcases d3 with d3 | d3
    · exact Or.inl d3
    · exact Or.inr (h.mv d3)
  · rw [hA]
    rcases d3 with d3 | d3
    · rw [d3] at d4 ⊢
      rw [h.1 _ (by omega) hw.2.2]; exact d4
    · rw [h.eqv d3 (ht _ d3)]; exact d4
theorem cc_e_eq {c : Nat} (hf : ∀ k, k ∈ [26, 27, 28, 30, 32, 33] → f'.1 k (c + 1) = f.1 k (c + 1)) (hA : A' 51 c = A 51 c ∧ A' 52 c = A 52 c ∧ ∀ i, A' 6 i = A 6 i) (hG : G' 1 c = G 1 c) : cc_e f' A' G' c = cc_e f A G c := by
  unfold cc_e cp_ref
  rw [hf 26 (by decide), hf 27 (by decide), hf 28 (by decide), hf 30 (by decide), hf 32 (by decide), hf 33 (by decide), hA.1, hA.2.1, hG, hA.2.2]
theorem rl_c1.mv {c : Nat} (hr : rl_c1 B σ f A G T c) (hc : c < 8) (h : chg W σ σ' T T') (hB : B + 102 ≤ σ.2.1) (hw : ¬ W (B + 14 + 3 * c) ∧ ¬ W (B + 15 + 3 * c) ∧ ¬ W (B + 16 + 3 * c)) (ht : ∀ a t, dy B σ T a t → t = 510 + c ∨ t = 520 + c → ¬ W a) (hf : ∀ k, k ∈ [26, 27, 28, 30, 32, 33] → f'.1 k (c + 1) = f.1 k (c + 1)) (hi : ∀ j, j < 600 → f'.1 29 (600 * (c + 1) + j) = f.1 29 (600 * (c + 1) + j)) (ho : ∀ j, j < 2000 → f'.1 31 (2000 * (c + 1) + j) = f.1 31 (2000 * (c + 1) + j)) (hA : A' 51 c = A 51 c ∧ A' 52 c = A 52 c ∧ ∀ i, A' 6 i = A 6 i) (hG : G' 1 c = G 1 c) : rl_c1 B σ' f' A' G' T' c := by
  obtain ⟨c1, c2⟩ := hr
  refine ⟨by rw [h.1 _ (by omega) hw.1, cc_e_eq hf hA hG]; exact c1, ?_⟩
  rw [hA.1, hA.2.1, hf 26 (by decide), hf 30 (by decide), hf 32 (by decide), hf 33 (by decide)]
  rcases c2 with ⟨e1, e2, ⟨y1, e3⟩, ⟨y2, e4⟩, e5⟩ | ⟨e1, e2, ⟨y1, n1, e3, e4, e5, e6⟩, y2, a2, z2, e7, e8, e9, e10, e11, e12⟩
  · refine Or.inl ⟨e1, e2, ⟨y1, ?_⟩, ⟨y2, ?_⟩, e5⟩
    · rw [e1] at e3 ⊢; rw [h.1 _ (by omega) hw.2.1]; exact e3
    · rw [e2] at e4 ⊢; rw [h.1 _ (by omega) hw.2.2]; exact e4
  · refine Or.inr ⟨h.mv e1, h.mv e2, ⟨y1, n1, by rw [h.eqv e1 (ht _ _ e1 (Or.inl rfl))]; exact e3, e4, e5, fun j hj => by rw [hi j (by omega)]; exact e6 j hj⟩, y2, a2, z2, by rw [h.eqv e2 (ht _ _ e2 (Or.inr rfl))]; exact e7, e8, e9, e10, e11, fun i hz => ?_⟩
    rw [ho _ (Nat.mod_lt _ (by omega))]
    exact e12 i hz
theorem cp_e_eq {p : Nat} (hf : ∀ k, 10 ≤ k → k ≤ 25 → f'.1 k p = f.1 k p) (hA : A' 60 p = A 60 p) (hG : G' 2 p = G 2 p) : cp_e B f' A' G' p = cp_e B f A G p := by
  unfold cp_e lim
  rw [hf 10 (by omega) (by omega), hf 11 (by omega) (by omega), hf 12 (by omega) (by omega), hf 13 (by omega) (by omega), hf 14 (by omega) (by omega), hf 15 (by omega) (by omega), hf 16 (by omega) (by omega), hf 17 (by omega) (by omega), hf 18 (by omega) (by omega), hf 19 (by omega) (by omega), hf 20 (by omega) (by omega), hf 21 (by omega) (by omega), hf 22 (by omega) (by omega), hf 23 (by omega) (by omega), hf 24 (by omega) (by omega), hf 25 (by omega) (by omega), hA, hG]
theorem rl_p1.mv {p : Nat} (hr : rl_p1 B σ f A G T p) (hp : p < 4) (h : chg W σ σ' T T') (ht : ∀ a t, dy B σ T a t → t = 60 + p ∨ t = 81 → ¬ W a) (hf : ∀ k, 9 ≤ k → k ≤ 25 → f'.1 k p = f.1 k p) (h8 : ∀ j, j < 40 → f'.1 8 (40 * p + j) = f.1 8 (40 * p + j)) (hA : A' 6 p = A 6 p ∧ A' 60 p = A 60 p) (hG : G' 2 p = G 2 p) : rl_p1 B σ' f' A' G' T' p := by
  obtain ⟨q1, q2, ⟨n3, q3, q4, q5⟩, q6⟩ := hr
  refine ⟨by rw [hA.1]; exact h.mv q1, ?_, ⟨n3, by rw [hf 9 (by omega) (by omega)]; exact q3, q4, ?_⟩, by rw [hf 22 (by omega) (by omega), hG]; exact q6⟩
  · rw [hA.1, h.eqv q1 (ht _ _ q1 (Or.inl rfl)), cp_e_eq (fun k h1 h2 => hf k (by omega) h2) hA.2 hG]
    exact q2
  · rw [hA.2]
    obtain ⟨r1, x, r2, r3⟩ := h.ro (fun a ha => ht a 81 ha (Or.inr rfl)) q5
    exact ⟨r1, x, r2, fun j hj => ⟨(r3 j hj).1.trans (h8 j (by omega)).symm, (r3 j hj).2⟩⟩
theorem rl_p.mv (hr : rl_p th B σ f A G T) (h : chg W σ σ' T T') (hB : B + 102 ≤ σ.2.1) (hw : ¬ W (B + 3)) (ht : ∀ a t, dy B σ T a t → (60 ≤ t ∧ t < 64) ∨ t = 81 ∨ t = 70 → ¬ W a) (hf : ∀ k j, 7 ≤ k → k ≤ 25 → f'.1 k j = f.1 k j) (hA : ∀ k i, k = 6 ∨ k = 60 ∨ (k = 70 ∧ i = 0) → A' k i = A k i) (hG : ∀ p, G' 2 p = G 2 p) : rl_p th B σ' f' A' G' T' := by
  obtain ⟨n, p1, p2, p3, p4⟩ := hr
  refine ⟨n, by rw [hf 7 0 (by omega) (by omega)]; exact p1, p2, ?_, fun p hp => (p4 p hp).mv (by omega) h (fun a t hd ht2 => ht a t hd (by omega)) (fun k h1 h2 => hf k p (by omega) h2) (fun j _ => hf 8 _ (by omega) (by omega)) ⟨hA 6 p (Or.inl rfl), hA 60 p (Or.inr (Or.inl rfl))⟩ (hG p)⟩
  have := h.al (by omega) hw (fun a hd => ht a 70 hd (Or.inr (Or.inr rfl))) p3
  rw [hA 70 0 (Or.inr (Or.inr ⟨rfl, rfl⟩)), show (List.range n).map (A' 6) = (List.range n).map (A 6) from List.map_congr_left (fun i _ => hA 6 i (Or.inl rfl))]
  exact this
theorem rl_a.mv (hr : rl_a th B σ f A T) (h : chg W σ σ' T T') (hB : B + 102 ≤ σ.2.1) (hw : ¬ W (B + 7)) (ht : ∀ a t, dy B σ T a t → (3000 ≤ t ∧ t < 3016) ∨ t = 73 → ¬ W a) (hf : f'.1 35 0 = f.1 35 0) (hl : ∀ k j, 36 ≤ k → k ≤ 39 → f'.2 k j = f.2 k j) (hA : ∀ k i, k = 10 ∨ (k = 70 ∧ i = 3) → A' k i = A k i) : rl_a th B σ' f' A' T' := by
  obtain ⟨n, p1, p2, p3, p4⟩ := hr
  refine ⟨n, by rw [hf]; exact p1, p2, ?_, fun i hi => ?_⟩
  · have := h.al (by omega) hw (fun a hd => ht a 73 hd (Or.inr rfl)) p3
    rw [hA 70 3 (Or.inr ⟨rfl, rfl⟩), show (List.range n).map (A' 10) = (List.range n).map (A 10) from List.map_congr_left (fun i _ => hA 10 i (Or.inl rfl))]
    exact this
  · obtain ⟨q1, q2, q0⟩ := p4 i hi
    rw [hA 10 i (Or.inl rfl)]
    refine ⟨h.mv q1, ?_, by rw [hl 36 i (by omega) (by omega)]; exact q0⟩
    rw [h.eqv q1 (ht _ _ q1 (by omega))]
    unfold ca_e at q2 ⊢
    rw [hl 36 i (by omega) (by omega), hl 37 i (by omega) (by omega), hl 38 i (by omega) (by omega), hl 39 i (by omega) (by omega)]
    exact q2
end JxFrames
