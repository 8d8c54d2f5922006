/-! WHAT THE CALLS OF THE CLASS CHANGE: connections, PEERS, ASKS, the draft -/
/-- fields of the reference that the states of PEERS and their connections write -/
def wfr (q : Nat) : Prop := q = 0 ∨ q = 1 ∨ q = 2 ∨ (10 ≤ q ∧ q ≤ 34) ∨ (54 ≤ q ∧ q ≤ 58) ∨ 65 ≤ q
/-- what was there of the reference stays, nothing is made -/
def kp (B : Nat) (σ σ' : jx_S) : Prop := σ'.2 = σ.2 ∧ ∀ a, B + 39 ≤ a → a < B + 102 → σ'.1 a = σ.1 a
section JxFrames3
variable {th : Nat → Nat} {B b : Nat} {xl : List Int32} {σ σ' σ'' : jx_S} {f f' : jx_F} {A A' : Nat → Nat → Nat} {G G' : Nat → Nat → Int32} {T T' : Nat → Nat} {W : Nat → Prop}
theorem kp.rf : kp B σ σ := ⟨rfl, fun _ _ _ => rfl⟩
theorem kp.tr (h : kp B σ σ') (h' : kp B σ' σ'') : kp B σ σ'' := ⟨h'.1.trans h.1, fun a h1 h2 => (h'.2 a h1 h2).trans (h.2 a h1 h2)⟩
theorem RelC.fr (hR : RelC th B b xl σ f A G T) (hch : chg W σ σ' T T')
    (hW : ∀ a, W a → a = B ∨ a = B + 11 ∨ a = B + 12 ∨ (∃ c, c < 8 ∧ a = B + 14 + 3 * c) ∨ ∃ t, dy B σ T a t ∧ ((510 ≤ t ∧ t < 528) ∨ (60 ≤ t ∧ t < 64) ∨ (1000 ≤ t ∧ t < 1064) ∨ (2000 ≤ t ∧ t < 2064)))
    (hf : ∀ q j, ¬ wfr q → f'.1 q j = f.1 q j) (hl : ∀ q j, 36 ≤ q → q ≤ 46 → f'.2 q j = f.2 q j) (hA : ∀ k i, k ≠ 51 → k ≠ 52 → A' k i = A k i)
    (hX : σ'.1 B = some (cx_e B f' (A 0 0) (G' 0 0))) (hD : (∃ c : Int32, σ'.1 (B + 11) = some (.inr (4, [.ref (B + 12), .int c, .ref (A 4 0)]))) ∧ ∃ w : Nat → Int32, σ'.1 (B + 12) = some (.inl (1, 64, .inl w)))
    (hC : ∀ c, c < 8 → rl_c1 B σ' f' A' G' T' c) (hP : ∀ p : Nat, (p : Int) < (f.1 7 0).toInt → rl_p1 B σ' f' A' G' T' p) (hQ : ∀ i : Nat, (i : Int) < (f.1 49 0).toInt → rl_q1 B σ' f' A' T' i) : RelC th B b xl σ' f' A' G' T' := by
  obtain ⟨hx, hd, -, ⟨np, p1, p2, p3, -⟩, ⟨nq, q1, q2, q3, -⟩, hk, ha, hs⟩ := hR
  have hB := hx.2.2.2.2.1
  have k0 : ∀ q, q < 65 → ¬ (q = 0 ∨ q = 1 ∨ q = 2 ∨ (10 ≤ q ∧ q ≤ 34) ∨ (54 ≤ q ∧ q ≤ 58)) → ∀ j, f'.1 q j = f.1 q j := fun q h1 h2 j => hf q j (fun z => by unfold wfr at z; omega)
  have low : ∀ a, a < B + 39 → a ≠ B → a ≠ B + 11 → a ≠ B + 12 → (∀ c, c < 8 → a ≠ B + 14 + 3 * c) → ¬ W a := by
    intro a h1 h2 h3 h4 h5 hw
    rcases hW a hw with e | e | e | ⟨c, e1, e2⟩ | ⟨t, e, -⟩
    · exact h2 e
    · exact h3 e
    · exact h4 e
    · exact h5 c e1 e2
    · have := e.1; omega
  have hi : ∀ a t, dy B σ T a t → ¬ ((510 ≤ t ∧ t < 528) ∨ (60 ≤ t ∧ t < 64) ∨ (1000 ≤ t ∧ t < 1064) ∨ (2000 ≤ t ∧ t < 2064)) → ¬ W a := by
    intro a t hd ht hw
    have h1 := hd.1
    rcases hW a hw with e | e | e | ⟨c, e1, e2⟩ | ⟨t', e, ht'⟩
    · omega
    · omega
    · omega
    · omega
    · have e1 := e.2.2
      have e2 := hd.2.2
      rw [e1] at e2
      rw [e2] at ht'
      exact ht ht'
  refine ⟨hx.mv hch (fun a h1 => low a (by omega) (by omega) (by omega) (by omega) (fun _ _ => by omega)) ⟨low _ (by omega) (by omega) (by omega) (by omega) (fun _ _ => by omega), low _ (by omega) (by omega) (by omega) (by omega) (fun _ _ => by omega), low _ (by omega) (by omega) (by omega) (by omega) (fun _ _ => by omega), low _ (by omega) (by omega) (by omega) (by omega) (fun _ _ => by omega)⟩ (fun a hd => hi a _ hd (by omega)) (by rw [hA 0 0 (by omega) (by omega)]; exact hX) (fun q j h1 h2 => k0 q (by omega) (by omega) j) (hA 0 0 (by omega) (by omega)), ?_, hC, ⟨np, by rw [k0 7 (by omega) (by omega)]; exact p1, p2, ?_, fun p hp => hP p (by omega)⟩, ⟨nq, by rw [k0 49 (by omega) (by omega)]; exact q1, q2, ?_, fun i hi => hQ i (by omega)⟩, hk.mv hch hB (low _ (by omega) (by omega) (by omega) (by omega) (fun _ _ => by omega)) (fun a t hd ht => hi a t hd (by omega)) (fun q j h1 h2 => k0 q (by omega) (by omega) j) (fun k i h => hA k i (by omega) (by omega)), ha.mv hch hB (low _ (by omega) (by omega) (by omega) (by omega) (fun _ _ => by omega)) (fun a t hd ht => hi a t hd (by omega)) (k0 35 (by omega) (by omega) 0) (fun q j h1 h2 => hl q j (by omega) (by omega)) (fun k i h => hA k i (by omega) (by omega)), hs.mv hch hB (low _ (by omega) (by omega) (by omega) (by omega) (fun _ _ => by omega)) (fun a t hd ht => hi a t hd (by omega)) (fun q j h1 h2 => k0 q (by omega) (by omega) j) (fun q j h => hl q j (by omega) (by omega)) (by rw [k0 7 (by omega) (by omega)]; exact Int.le_refl _) (by rw [k0 35 (by omega) (by omega)]; exact Int.le_refl _) (fun k i h => hA k i (by omega) (by omega)) (fun i _ => hA 10 i (by omega) (by omega)) (fun i _ => hA 6 i (by omega) (by omega))⟩
  · obtain ⟨-, -, d3, n, o, d4, d5, d6⟩ := hd
    have e : R_hs f' = R_hs f := by unfold R_hs; rw [k0 6 (by omega) (by omega)]
    have em : R_me f' (R_hs f') 20 = R_me f (R_hs f) 20 := by rw [e]; exact R_me_eq (fun q => k0 5 (by omega) (by omega) q) (k0 6 (by omega) (by omega) 0)
    refine ⟨by rw [hA 4 0 (by omega) (by omega)]; exact hD.1, hD.2, ?_, n, o, ?_, by rw [em]; exact d5, by rw [em]; exact d6⟩
    · rw [hA 4 0 (by omega) (by omega)]
      rcases d3 with d3 | d3
      · exact Or.inl d3
      · exact Or.inr (hch.mv d3)
    · rw [hA 4 0 (by omega) (by omega)]
      rcases d3 with d3 | d3
      · rw [d3] at d4 ⊢
        rw [hch.1 _ (by omega) (low _ (by omega) (by omega) (by omega) (by omega) (fun _ _ => by omega))]; exact d4
      · rw [hch.eqv d3 (hi _ _ d3 (by omega))]; exact d4
  · have := hch.al (by omega) (low _ (by omega) (by omega) (by omega) (by omega) (fun _ _ => by omega)) (fun a hd => hi a 70 hd (by omega)) p3
    rw [hA 70 0 (by omega) (by omega), show (List.range np).map (A' 6) = (List.range np).map (A 6) from List.map_congr_left (fun i _ => hA 6 i (by omega) (by omega))]
    exact this
  · have := hch.al (by omega) (low _ (by omega) (by omega) (by omega) (by omega) (fun _ _ => by omega)) (fun a hd => hi a 71 hd (by omega)) q3
    rw [hA 70 1 (by omega) (by omega), show (List.range nq).map (A' 11) = (List.range nq).map (A 11) from List.map_congr_left (fun i _ => hA 11 i (by omega) (by omega))]
    exact this
/-- the object's own fields -/
theorem RelC.obj (hR : RelC th B b xl σ f A G T) (h1 : ∀ q, q ≠ B → σ'.1 q = σ.1 q) (h2 : σ'.2 = σ.2) (hf : ∀ q j, q ≠ 1 → q ≠ 34 → q < 65 → q ≠ 0 → q ≠ 2 → f'.1 q j = f.1 q j) (hl : ∀ q j, 36 ≤ q → q ≤ 53 → f'.2 q j = f.2 q j) (hG : ∀ q j, q ≠ 0 → G' q j = G q j) (hX : σ'.1 B = some (cx_e B f' (A 0 0) (G' 0 0))) : RelC th B b xl σ' f' A G' T := by
  have hch : chg (fun a => a = B) σ σ' T T := ⟨fun a _ hw => h1 a hw, by rw [h2]; exact Nat.le_refl _, fun _ _ => rfl⟩
  have hB := hR.1.2.2.2.2.1
  have hd : ∀ a t, dy B σ T a t → ¬ a = B := fun a t hd => by have := hd.1; omega
  obtain ⟨-, ⟨hd1, hd2, -⟩, hC, ⟨np, p1, p2, -, hP⟩, ⟨nq, q1, q2, -, hQ⟩, -⟩ := id hR
  refine hR.fr hch (fun a e => Or.inl e) (fun q j hq => hf q j (fun e => hq (by unfold wfr; omega)) (fun e => hq (by unfold wfr; omega)) (by unfold wfr at hq; omega) (fun e => hq (by unfold wfr; omega)) (fun e => hq (by unfold wfr; omega))) (fun q j h1 h2 => hl q j h1 (by omega)) (fun _ _ _ _ => rfl) hX ⟨?_, ?_⟩ (fun c hc => (hC c hc).mv hc hch hB ⟨by omega, by omega, by omega⟩ (fun a t h _ => hd a t h) (fun q hq => ?_) (fun j _ => hf 29 _ (by omega) (by omega) (by omega) (by omega) (by omega)) (fun j _ => hf 31 _ (by omega) (by omega) (by omega) (by omega) (by omega)) ⟨rfl, rfl, fun _ => rfl⟩ (hG 1 c (by omega))) (fun p hp => (hP p (by omega)).mv (by omega) hch (fun a t h _ => hd a t h) (fun k k1 k2 => ?_) (fun j _ => hf 8 _ (by omega) (by omega) (by omega) (by omega) (by omega)) ⟨rfl, rfl⟩ (hG 2 p (by omega))) (fun i hi => (hQ i (by omega)).mv hch (fun a t h _ => hd a t h) (fun k j hk => ?_) (fun k hk => ?_) (hl 53 i (by omega) (by omega)) ⟨rfl, rfl, fun _ => rfl⟩)
  · obtain ⟨c, hc⟩ := hd1
    exact ⟨c, by rw [h1 _ (by omega)]; exact hc⟩
  · obtain ⟨w, hw⟩ := hd2
    exact ⟨w, by rw [h1 _ (by omega)]; exact hw⟩
  · simp only [List.mem_cons, List.not_mem_nil, or_false] at hq
    exact hf q _ (by omega) (by omega) (by omega) (by omega) (by omega)
  · exact hf k p (by omega) (by omega) (by omega) (by omega) (by omega)
  · simp only [List.mem_cons, List.not_mem_nil, or_false] at hk
    exact hf k j (by omega) (by omega) (by omega) (by omega) (by omega)
  · simp only [List.mem_cons, List.not_mem_nil, or_false] at hk
    exact hf k i (by omega) (by omega) (by omega) (by omega) (by omega)
/-- fields that say nothing between the calls -/
theorem RelC.eqf (hR : RelC th B b xl σ f A G T) (hf : ∀ q j, q < 65 → q ≠ 0 → q ≠ 2 → f'.1 q j = f.1 q j) (hl : ∀ q j, 36 ≤ q → q ≤ 53 → f'.2 q j = f.2 q j) : RelC th B b xl σ f' A G T :=
  hR.obj (fun _ _ => rfl) rfl (fun q j _ _ h3 h4 h5 => hf q j h3 h4 h5) hl (fun _ _ _ => rfl) (by rw [hR.1.2.2.2.2.2.1]; unfold cx_e; rw [hf 4 0 (by omega) (by omega) (by omega), hf 1 0 (by omega) (by omega) (by omega), hf 34 0 (by omega) (by omega) (by omega)])
/-- the draft -/
theorem RelC.draft (hR : RelC th B b xl σ f A G T) (h1 : ∀ q, q ≠ B + 11 → q ≠ B + 12 → σ'.1 q = σ.1 q) (h2 : σ'.2 = σ.2) (hD : (∃ c : Int32, σ'.1 (B + 11) = some (.inr (4, [.ref (B + 12), .int c, .ref (A 4 0)]))) ∧ ∃ w : Nat → Int32, σ'.1 (B + 12) = some (.inl (1, 64, .inl w))) : RelC th B b xl σ' f A G T := by
  have hch : chg (fun a => a = B + 11 ∨ a = B + 12) σ σ' T T := ⟨fun a _ hw => h1 a (fun e => hw (Or.inl e)) (fun e => hw (Or.inr e)), by rw [h2]; exact Nat.le_refl _, fun _ _ => rfl⟩
  have hB := hR.1.2.2.2.2.1
  have hd : ∀ a t, dy B σ T a t → ¬ (a = B + 11 ∨ a = B + 12) := fun a t hd => by have := hd.1; omega
  obtain ⟨hx, -, hC, ⟨np, p1, p2, -, hP⟩, ⟨nq, q1, q2, -, hQ⟩, -⟩ := id hR
  exact hR.fr hch (fun a e => by rcases e with e | e; exact Or.inr (Or.inl e); exact Or.inr (Or.inr (Or.inl e))) (fun _ _ _ => rfl) (fun _ _ _ _ => rfl) (fun _ _ _ _ => rfl) (by rw [h1 B (by omega) (by omega)]; exact hx.2.2.2.2.2.1) hD (fun c hc => (hC c hc).mv hc hch hB ⟨by omega, by omega, by omega⟩ (fun a t h _ => hd a t h) (fun _ _ => rfl) (fun _ _ => rfl) (fun _ _ => rfl) ⟨rfl, rfl, fun _ => rfl⟩ rfl) (fun p hp => (hP p (by omega)).mv (by omega) hch (fun a t h _ => hd a t h) (fun _ _ _ => rfl) (fun _ _ => rfl) ⟨rfl, rfl⟩ rfl) (fun i hi => (hQ i (by omega)).mv hch (fun a t h _ => hd a t h) (fun _ _ _ => rfl) (fun _ _ => rfl) rfl ⟨rfl, rfl, fun _ => rfl⟩)
/-- one PEER -/
theorem RelC.peer {p : Nat} (hR : RelC th B b xl σ f A G T) (hp : (p : Int) < (f.1 7 0).toInt) (h1 : ∀ q, q ≠ A 6 p → σ'.1 q = σ.1 q) (h2 : σ'.2 = σ.2) (hf : ∀ q j, ¬ (10 ≤ q ∧ q ≤ 25 ∧ j = p) → q < 65 → q ≠ 0 → q ≠ 2 → f'.1 q j = f.1 q j) (hl : ∀ q j, 36 ≤ q → q ≤ 53 → f'.2 q j = f.2 q j) (hG : ∀ q j, ¬ (q = 2 ∧ j = p) → G' q j = G q j) (he : σ'.1 (A 6 p) = some (cp_e B f' A G' p)) (h22 : ¬ f'.1 22 p = 0 → G' 2 p = f'.1 22 p) : RelC th B b xl σ' f' A G' T := by
  have hch : chg (fun a => a = A 6 p) σ σ' T T := ⟨fun a _ hw => h1 a hw, by rw [h2]; exact Nat.le_refl _, fun _ _ => rfl⟩
  have hB := hR.1.2.2.2.2.1
  obtain ⟨hx, ⟨hd1, hd2, -⟩, hC, ⟨np, p1, p2, -, hP⟩, ⟨nq, q1, q2, -, hQ⟩, -⟩ := id hR
  obtain ⟨a1, a2, ⟨n3, a3, a4, a5⟩, a6⟩ := hP p (by omega)
  have hlo : ∀ a, a < B + 102 → ¬ a = A 6 p := fun a ha e => by have := a1.1; omega
  have hd : ∀ a t, dy B σ T a t → t ≠ 60 + p → ¬ a = A 6 p := fun a t hd ht e => by
    have h3 := hd.2.2
    rw [e, a1.2.2] at h3
    exact ht h3.symm
  refine hR.fr hch (fun a e => Or.inr (Or.inr (Or.inr (Or.inr ⟨60 + p, by rw [e]; exact a1, by omega⟩)))) (fun q j hq => hf q j (fun e => hq (by unfold wfr; omega)) (by unfold wfr at hq; omega) (fun e => hq (by unfold wfr; omega)) (fun e => hq (by unfold wfr; omega))) (fun q j h1 h2 => hl q j h1 (by omega)) (fun _ _ _ _ => rfl) ?_ ⟨?_, ?_⟩ (fun c hc => (hC c hc).mv hc hch hB ⟨hlo _ (by omega), hlo _ (by omega), hlo _ (by omega)⟩ (fun a t h ht => hd a t h (by omega)) (fun q hq => ?_) (fun j _ => hf 29 _ (by omega) (by omega) (by omega) (by omega)) (fun j _ => hf 31 _ (by omega) (by omega) (by omega) (by omega)) ⟨rfl, rfl, fun _ => rfl⟩ (hG 1 c (by omega))) (fun p' hp' => ?_) (fun i hi => (hQ i (by omega)).mv hch (fun a t h ht => hd a t h (by omega)) (fun k j hk => ?_) (fun k hk => ?_) (hl 53 i (by omega) (by omega)) ⟨rfl, rfl, fun _ => rfl⟩)
  · rw [h1 B (hlo _ (by omega)), hx.2.2.2.2.2.1]
    unfold cx_e
    rw [hf 4 0 (by omega) (by omega) (by omega) (by omega), hf 1 0 (by omega) (by omega) (by omega) (by omega), hf 34 0 (by omega) (by omega) (by omega) (by omega), hG 0 0 (by omega)]
  · obtain ⟨c, hc⟩ := hd1
    exact ⟨c, by rw [h1 _ (hlo _ (by omega))]; exact hc⟩
  · obtain ⟨w, hw⟩ := hd2
    exact ⟨w, by rw [h1 _ (hlo _ (by omega))]; exact hw⟩
  · simp only [List.mem_cons, List.not_mem_nil, or_false] at hq
    exact hf q _ (by omega) (by omega) (by omega) (by omega)
  · by_cases e : p' = p
    · subst e
      refine ⟨⟨a1.1, by rw [h2]; exact a1.2.1, a1.2.2⟩, he, ⟨n3, by rw [hf 9 p' (by omega) (by omega) (by omega) (by omega)]; exact a3, a4, ?_⟩, h22⟩
      exact ro_eq (hch.ro (fun a h => hd a 81 h (by omega)) a5) (fun j _ => hf 8 _ (by omega) (by omega) (by omega) (by omega))
    · exact (hP p' (by omega)).mv (by omega) hch (fun a t h ht => hd a t h (by omega)) (fun k k1 k2 => hf k p' (by omega) (by omega) (by omega) (by omega)) (fun j _ => hf 8 _ (by omega) (by omega) (by omega) (by omega)) ⟨rfl, rfl⟩ (hG 2 p' (by omega))
  · simp only [List.mem_cons, List.not_mem_nil, or_false] at hk
    exact hf k j (by omega) (by omega) (by omega) (by omega)
  · simp only [List.mem_cons, List.not_mem_nil, or_false] at hk
    exact hf k i (by omega) (by omega) (by omega) (by omega)
/-- a connection: its object and the row that waits -/
theorem RelC.out {c : Nat} (hR : RelC th B b xl σ f A G T) (hc : c < 8) (h1 : ∀ q, q ≠ B + 14 + 3 * c → ¬ (q = A 52 c ∧ B + 102 ≤ q) → σ'.1 q = σ.1 q) (h2 : σ'.2 = σ.2) (hf : ∀ q j, ¬ (q ∈ [26, 27, 28, 30, 32, 33] ∧ j = c + 1) → ¬ (q = 31 ∧ 2000 * (c + 1) ≤ j ∧ j < 2000 * (c + 1) + 2000) → q < 65 → q ≠ 0 → q ≠ 2 → f'.1 q j = f.1 q j) (hl : ∀ q j, 36 ≤ q → q ≤ 53 → f'.2 q j = f.2 q j) (hG : ∀ q j, ¬ (q = 1 ∧ j = c) → G' q j = G q j) (hc1 : rl_c1 B σ' f' A G' T c) : RelC th B b xl σ' f' A G' T := by
  have hch : chg (fun a => a = B + 14 + 3 * c ∨ (a = A 52 c ∧ B + 102 ≤ a)) σ σ' T T := ⟨fun a _ hw => h1 a (fun e => hw (Or.inl e)) (fun e => hw (Or.inr e)), by rw [h2]; exact Nat.le_refl _, fun _ _ => rfl⟩
  have hB := hR.1.2.2.2.2.1
  obtain ⟨hx, ⟨hd1, hd2, -⟩, hC, ⟨np, p1, p2, -, hP⟩, ⟨nq, q1, q2, -, hQ⟩, -⟩ := id hR
  have hrow : A 52 c = B + 16 + 3 * c ∨ dy B σ T (A 52 c) (520 + c) := by
    rcases (hC c hc).2 with e | e
    · exact Or.inl e.2.1
    · exact Or.inr e.2.1
  have hlo : ∀ a, a < B + 102 → a ≠ B + 14 + 3 * c → ¬ (a = B + 14 + 3 * c ∨ (a = A 52 c ∧ B + 102 ≤ a)) := fun a ha h e => by rcases e with e | e; exact h e; omega
  have hd : ∀ a t, dy B σ T a t → t ≠ 520 + c → ¬ (a = B + 14 + 3 * c ∨ (a = A 52 c ∧ B + 102 ≤ a)) := fun a t hd ht e => by
    have h0 := hd.1
    rcases e with e | ⟨e, e2⟩
    · omega
    · rcases hrow with h | h
      · omega
      · have h3 := hd.2.2
        rw [e, h.2.2] at h3
        exact ht h3.symm
  have hk : ∀ q j, q ∉ [26, 27, 28, 30, 32, 33, 31] → q < 65 → q ≠ 0 → q ≠ 2 → f'.1 q j = f.1 q j := fun q j hq => hf q j (fun e => hq (by have := e.1; simp only [List.mem_cons, List.not_mem_nil, or_false] at this ⊢; omega)) (fun e => hq (by rw [e.1]; decide))
  have no : ∀ q : Nat, ¬ (26 ≤ q ∧ q ≤ 33) → q ∉ [26, 27, 28, 30, 32, 33, 31] := by
    intro q hq hm
    simp only [List.mem_cons, List.not_mem_nil, or_false] at hm
    omega
  refine hR.fr hch (fun a e => ?_) (fun q j hq => hk q j (no q (fun e => hq (by unfold wfr; omega))) (by unfold wfr at hq; omega) (fun e => hq (by unfold wfr; omega)) (fun e => hq (by unfold wfr; omega))) (fun q j h1 h2 => hl q j h1 (by omega)) (fun _ _ _ _ => rfl) ?_ ⟨?_, ?_⟩ (fun c' hc' => ?_) (fun p hp => (hP p (by omega)).mv (by omega) hch (fun a t h ht => hd a t h (by omega)) (fun k k1 k2 => hk k p (no k (by omega)) (by omega) (by omega) (by omega)) (fun j _ => hk 8 _ (no 8 (by omega)) (by omega) (by omega) (by omega)) ⟨rfl, rfl⟩ (hG 2 p (by omega))) (fun i hi => (hQ i (by omega)).mv hch (fun a t h ht => hd a t h (by omega)) (fun k j hk' => ?_) (fun k hk' => ?_) (hl 53 i (by omega) (by omega)) ⟨rfl, rfl, fun _ => rfl⟩)
  · rcases e with e | ⟨e, e2⟩
    · exact Or.inr (Or.inr (Or.inr (Or.inl ⟨c, hc, e⟩)))
    · rcases hrow with h | h
      · omega
      · exact Or.inr (Or.inr (Or.inr (Or.inr ⟨520 + c, by rw [e]; exact h, by omega⟩)))
  · rw [h1 B (by omega) (by omega), hx.2.2.2.2.2.1]
    unfold cx_e
    rw [hk 4 0 (no 4 (by omega)) (by omega) (by omega) (by omega), hk 1 0 (no 1 (by omega)) (by omega) (by omega) (by omega), hk 34 0 (no 34 (by omega)) (by omega) (by omega) (by omega), hG 0 0 (by omega)]
  · obtain ⟨c, hc⟩ := hd1
    exact ⟨c, by rw [h1 _ (by omega) (by omega)]; exact hc⟩
  · obtain ⟨w, hw⟩ := hd2
    exact ⟨w, by rw [h1 _ (by omega) (by omega)]; exact hw⟩
  · by_cases e : c' = c
    · subst e; exact hc1
    · exact (hC c' hc').mv hc' hch hB ⟨hlo _ (by omega) (by omega), hlo _ (by omega) (by omega), hlo _ (by omega) (by omega)⟩ (fun a t h ht => hd a t h (by omega)) (fun q hq => hf q _ (by omega) (by simp only [List.mem_cons, List.not_mem_nil, or_false] at hq; omega) (by simp only [List.mem_cons, List.not_mem_nil, or_false] at hq; omega) (by simp only [List.mem_cons, List.not_mem_nil, or_false] at hq; omega) (by simp only [List.mem_cons, List.not_mem_nil, or_false] at hq; omega)) (fun j hj => hf 29 _ (fun e => by have := e.1; revert this; decide) (by omega) (by omega) (by omega) (by omega)) (fun j hj => hf 31 _ (fun e => by have := e.1; revert this; decide) (by omega) (by omega) (by omega) (by omega)) ⟨rfl, rfl, fun _ => rfl⟩ (hG 1 c' (fun z => e z.2))
  · simp only [List.mem_cons, List.not_mem_nil, or_false] at hk'
    exact hk k j (no k (by omega)) (by omega) (by omega) (by omega)
  · simp only [List.mem_cons, List.not_mem_nil, or_false] at hk'
    exact hk k i (no k (by omega)) (by omega) (by omega) (by omega)
/-- one ASK: its object and its words -/
theorem RelC.ask {i : Nat} (hR : RelC th B b xl σ f A G T) (hi : (i : Int) < (f.1 49 0).toInt) (h1 : ∀ q, q ≠ A 11 i → q ≠ A 111 i → σ'.1 q = σ.1 q) (h2 : σ'.2 = σ.2) (hf : ∀ q j, ¬ (54 ≤ q ∧ q ≤ 58 ∧ j = i) → q < 65 → q ≠ 0 → q ≠ 2 → f'.1 q j = f.1 q j) (hl : ∀ q j, ¬ (q = 53 ∧ j = i) → 36 ≤ q → q ≤ 53 → f'.2 q j = f.2 q j) (hq1 : rl_q1 B σ' f' A T i) : RelC th B b xl σ' f' A G T := by
  have hch : chg (fun a => a = A 11 i ∨ a = A 111 i) σ σ' T T := ⟨fun a _ hw => h1 a (fun e => hw (Or.inl e)) (fun e => hw (Or.inr e)), by rw [h2]; exact Nat.le_refl _, fun _ _ => rfl⟩
  have hB := hR.1.2.2.2.2.1
  obtain ⟨hx, ⟨hd1, hd2, -⟩, hC, ⟨np, p1, p2, -, hP⟩, ⟨nq, q1, q2, -, hQ⟩, -⟩ := id hR
  obtain ⟨a1, a2, -⟩ := hQ i (by omega)
  have hlo : ∀ a, a < B + 102 → ¬ (a = A 11 i ∨ a = A 111 i) := fun a ha e => by have := a1.1; have := a2.1; omega
  have hd : ∀ a t, dy B σ T a t → t ≠ 1000 + i → t ≠ 2000 + i → ¬ (a = A 11 i ∨ a = A 111 i) := fun a t hd ht ht2 e => by
    have h3 := hd.2.2
    rcases e with e | e
    · rw [e, a1.2.2] at h3; exact ht h3.symm
    · rw [e, a2.2.2] at h3; exact ht2 h3.symm
  refine hR.fr hch (fun a e => ?_) (fun q j hq => hf q j (fun e => hq (by unfold wfr; omega)) (by unfold wfr at hq; omega) (fun e => hq (by unfold wfr; omega)) (fun e => hq (by unfold wfr; omega))) (fun q j h1 h2 => hl q j (by omega) h1 (by omega)) (fun _ _ _ _ => rfl) ?_ ⟨?_, ?_⟩ (fun c hc => (hC c hc).mv hc hch hB ⟨hlo _ (by omega), hlo _ (by omega), hlo _ (by omega)⟩ (fun a t h ht => hd a t h (by omega) (by omega)) (fun q hq => ?_) (fun j _ => hf 29 _ (by omega) (by omega) (by omega) (by omega)) (fun j _ => hf 31 _ (by omega) (by omega) (by omega) (by omega)) ⟨rfl, rfl, fun _ => rfl⟩ rfl) (fun p hp => (hP p (by omega)).mv (by omega) hch (fun a t h ht => hd a t h (by omega) (by omega)) (fun k k1 k2 => hf k p (by omega) (by omega) (by omega) (by omega)) (fun j _ => hf 8 _ (by omega) (by omega) (by omega) (by omega)) ⟨rfl, rfl⟩ rfl) (fun i' hi' => ?_)
  · rcases e with e | e
    · exact Or.inr (Or.inr (Or.inr (Or.inr ⟨1000 + i, by rw [e]; exact a1, by omega⟩)))
    · exact Or.inr (Or.inr (Or.inr (Or.inr ⟨2000 + i, by rw [e]; exact a2, by omega⟩)))
  · have hz := hlo B (by omega)
    rw [h1 B (fun e => hz (Or.inl e)) (fun e => hz (Or.inr e)), hx.2.2.2.2.2.1]
    unfold cx_e
    rw [hf 4 0 (by omega) (by omega) (by omega) (by omega), hf 1 0 (by omega) (by omega) (by omega) (by omega), hf 34 0 (by omega) (by omega) (by omega) (by omega)]
  · obtain ⟨c, hc⟩ := hd1
    have hz := hlo (B + 11) (by omega)
    exact ⟨c, by rw [h1 _ (fun e => hz (Or.inl e)) (fun e => hz (Or.inr e))]; exact hc⟩
  · obtain ⟨w, hw⟩ := hd2
    have hz := hlo (B + 12) (by omega)
    exact ⟨w, by rw [h1 _ (fun e => hz (Or.inl e)) (fun e => hz (Or.inr e))]; exact hw⟩
  · simp only [List.mem_cons, List.not_mem_nil, or_false] at hq
    exact hf q _ (by omega) (by omega) (by omega) (by omega)
  · by_cases e : i' = i
    · subst e; exact hq1
    · refine (hQ i' (by omega)).mv hch (fun a t h ht => hd a t h (by omega) (by omega)) (fun k j hk => ?_) (fun k hk => ?_) (hl 53 i' (by omega) (by omega) (by omega)) ⟨rfl, rfl, fun _ => rfl⟩
      · simp only [List.mem_cons, List.not_mem_nil, or_false] at hk
        exact hf k j (by omega) (by omega) (by omega) (by omega)
      · simp only [List.mem_cons, List.not_mem_nil, or_false] at hk
        exact hf k i' (by omega) (by omega) (by omega) (by omega)
end JxFrames3
