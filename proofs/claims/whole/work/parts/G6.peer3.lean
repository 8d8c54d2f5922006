/-! THE PAIR peer: a PEER more -/
section JxPeer3
variable {th : Nat → Nat} {B b d n N : Nat} {xl : List Int32} {σ σ' : jx_S} {f f' : jx_F} {A A' : Nat → Nat → Nat} {G : Nat → Nat → Int32} {T T' : Nat → Nat} {st : Int32}
theorem rl_c1.an {c : Nat} (hr : rl_c1 B σ f A G T c) (h1 : A' 51 c = A 51 c) (h2 : A' 52 c = A 52 c) (h3 : cp_ref A' (f.1 27 (c + 1)) = cp_ref A (f.1 27 (c + 1))) : rl_c1 B σ f A' G T c := by
  unfold rl_c1 cc_e at hr ⊢
  rw [h1, h2, h3]
  exact hr
theorem rl_q1.an {i : Nat} (hr : rl_q1 B σ f A T i) (h1 : A' 11 i = A 11 i) (h2 : A' 111 i = A 111 i) (h3 : f.1 55 i = 0 ∨ A' 6 (f.1 54 i).toNatClampNeg = A 6 (f.1 54 i).toNatClampNeg) : rl_q1 B σ f A' T i := by
  unfold rl_q1 cq_e at hr ⊢
  rw [h1, h2]
  rcases h3 with h3 | h3
  · rw [if_pos h3] at hr ⊢
    exact hr
  · rw [h3]
    exact hr
/-- a PEER more: the hand is empty already -/
theorem RelC.newp {X Y E' : Nat} {g : Nat → Int32} (hR : RelC th B b xl σ f A G T) (hn : (f.1 7 0).toInt = (n : Int)) (hn4 : n < 4) (hN : N ≤ 40)
    (h27 : ∀ c, c < 8 → (f.1 27 (c + 1)).toInt ≤ (n : Int) ∧ 0 ≤ (f.1 27 (c + 1)).toInt) (h54 : ∀ i : Nat, (i : Int) < (f.1 49 0).toInt → ∃ u : Nat, (f.1 54 i).toInt = (u : Int) ∧ u < n)
    (hf : ∀ q j, ¬ (q = 8 ∧ 40 * n ≤ j ∧ j < 40 * n + N) → ¬ ((q = 9 ∨ q = 10 ∨ q = 17) ∧ j = n) → ¬ (q = 7 ∧ j = 0) → f'.1 q j = f.1 q j) (hl : f'.2 = f.2) (f7 : (f'.1 7 0).toInt = ((n + 1 : Nat) : Int)) (f9 : (f'.1 9 n).toInt = (N : Int))
    (hG : ¬ f'.1 22 n = 0 → G 2 n = f'.1 22 n) (hX : σ.2.1 ≤ X) (hX2 : X < σ'.2.1) (hXT : T' X = 60 + n) (hY : σ.2.1 ≤ Y) (hY2 : Y < σ'.2.1) (hYT : T' Y = 81)
    (hch : chg (fun a => a = B + 3 ∨ (a = A 70 0 ∧ B + 102 ≤ a)) σ σ' T T')
    (hA : A' = fun q i => if q = 6 ∧ i = n then X else if q = 60 ∧ i = n then Y else if q = 70 ∧ i = 0 then E' else A q i)
    (hal : al_at th B σ' T' (B + 3) E' 70 ((List.range n).map (A 6) ++ [X])) (he : σ'.1 X = some (cp_e B f' A' G n)) (hg : σ'.1 Y = some (.inl (0, N, .inl g))) (hg8 : ∀ j, j < N → g j = f'.1 8 (40 * n + j) ∧ isb (g j)) : RelC th B b xl σ' f' A' G T' := by
  have hB := hR.1.2.2.2.2.1
  have aO : ∀ q i, ¬ (q = 6 ∧ i = n) → ¬ (q = 60 ∧ i = n) → ¬ (q = 70 ∧ i = 0) → A' q i = A q i := fun q i z1 z2 z3 => by rw [hA]; exact (if_neg z1).trans ((if_neg z2).trans (if_neg z3))
  have a6 : A' 6 n = X := by rw [hA]; exact if_pos ⟨rfl, rfl⟩
  have a60 : A' 60 n = Y := by rw [hA]; exact (if_neg (by omega)).trans (if_pos ⟨rfl, rfl⟩)
  have a70 : A' 70 0 = E' := by rw [hA]; exact (if_neg (by omega)).trans ((if_neg (by omega)).trans (if_pos ⟨rfl, rfl⟩))
  obtain ⟨hx, hd', hC, ⟨np, m1, m2, halp, hpe⟩, ⟨nq, q1, q2, q3, hqe⟩, hk, ha, hs⟩ := hR
  have enp : np = n := by omega
  subst enp
  have hE : ∀ a t, dy B σ T a t → t ≠ 70 → ¬ (a = B + 3 ∨ (a = A 70 0 ∧ B + 102 ≤ a)) := by
    intro a t hd ht hw
    have h1 := hd.1
    rcases hw with hw | ⟨hw, -⟩
    · omega
    · rcases halp.2 with ⟨e3, -⟩ | ⟨e3, -⟩
      · have := hx.2.2.2.1 1 (by omega)
        omega
      · have h2 := e3.2.2
        rw [← hw, hd.2.2] at h2
        exact ht h2
  have lo : ∀ a, a < B + 102 → a ≠ B + 3 → ¬ (a = B + 3 ∨ (a = A 70 0 ∧ B + 102 ≤ a)) := fun a z1 z2 z => by omega
  have k0 : ∀ q j, q ≠ 7 → q ≠ 8 → q ≠ 9 → q ≠ 10 → q ≠ 17 → f'.1 q j = f.1 q j := fun q j z1 z2 z3 z4 z5 => hf q j (by omega) (by omega) (by omega)
  refine ⟨hx.mv hch (fun a z => lo a (by omega) (by omega)) ⟨lo _ (by omega) (by omega), lo _ (by omega) (by omega), lo _ (by omega) (by omega), lo _ (by omega) (by omega)⟩ (fun a z => hE a _ z (by omega)) ?_ (fun q j z1 z2 => k0 q j (by omega) (by omega) (by omega) (by omega) (by omega)) (aO 0 0 (by omega) (by omega) (by omega)), hd'.mv hch hB ⟨lo _ (by omega) (by omega), lo _ (by omega) (by omega), lo _ (by omega) (by omega)⟩ (fun a z => hE a _ z (by omega)) (fun q j hq => k0 q j (by omega) (by omega) (by omega) (by omega) (by omega)) (aO 4 0 (by omega) (by omega) (by omega)), fun c hc => ?_, ⟨np + 1, f7, by omega, ?_, fun p hp => ?_⟩, ⟨nq, by rw [k0 49 0 (by omega) (by omega) (by omega) (by omega) (by omega)]; exact q1, q2, ?_, fun i hi => ?_⟩, hk.mv hch hB (lo _ (by omega) (by omega)) (fun a t z zt => hE a t z (by omega)) (fun q j z1 z2 => k0 q j (by omega) (by omega) (by omega) (by omega) (by omega)) (fun q i hq => aO q i (by omega) (by omega) (by omega)), ha.mv hch hB (lo _ (by omega) (by omega)) (fun a t z zt => hE a t z (by omega)) (k0 35 0 (by omega) (by omega) (by omega) (by omega) (by omega)) (fun q j _ _ => by rw [hl]) (fun q i hq => aO q i (by omega) (by omega) (by omega)), hs.mv hch hB (lo _ (by omega) (by omega)) (fun a t z zt => hE a t z (by omega)) (fun q j z1 z2 => k0 q j (by omega) (by omega) (by omega) (by omega) (by omega)) (fun q j _ => by rw [hl]) (by omega) (by rw [k0 35 0 (by omega) (by omega) (by omega) (by omega) (by omega)]; exact Int.le_refl _) (fun q i hq => aO q i (by omega) (by omega) (by omega)) (fun i _ => aO 10 i (by omega) (by omega) (by omega)) (fun i hi => aO 6 i (by omega) (by omega) (by omega))⟩
  · rw [hch.1 B (by omega) (lo _ (by omega) (by omega)), aO 0 0 (by omega) (by omega) (by omega), hx.2.2.2.2.2.1]
    unfold cx_e
    rw [k0 4 0 (by omega) (by omega) (by omega) (by omega) (by omega), k0 1 0 (by omega) (by omega) (by omega) (by omega) (by omega), k0 34 0 (by omega) (by omega) (by omega) (by omega) (by omega)]
  · have h1 := (hC c hc).mv (f' := f') (A' := A) (G' := G) hc hch hB ⟨lo _ (by omega) (by omega), lo _ (by omega) (by omega), lo _ (by omega) (by omega)⟩ (fun a t z zt => hE a t z (by omega)) (fun q hq => k0 q _ (by simp only [List.mem_cons, List.not_mem_nil, or_false] at hq; omega) (by simp only [List.mem_cons, List.not_mem_nil, or_false] at hq; omega) (by simp only [List.mem_cons, List.not_mem_nil, or_false] at hq; omega) (by simp only [List.mem_cons, List.not_mem_nil, or_false] at hq; omega) (by simp only [List.mem_cons, List.not_mem_nil, or_false] at hq; omega)) (fun j _ => k0 29 _ (by omega) (by omega) (by omega) (by omega) (by omega)) (fun j _ => k0 31 _ (by omega) (by omega) (by omega) (by omega) (by omega)) ⟨rfl, rfl, fun _ => rfl⟩ rfl
    refine h1.an (aO 51 c (by omega) (by omega) (by omega)) (aO 52 c (by omega) (by omega) (by omega)) ?_
    rw [k0 27 _ (by omega) (by omega) (by omega) (by omega) (by omega)]
    unfold cp_ref
    by_cases z0 : f.1 27 (c + 1) = 0
    · rw [if_pos z0, if_pos z0]
    · rw [if_neg z0, if_neg z0]
      obtain ⟨t1, t2⟩ := h27 c hc
      have tn : (f.1 27 (c + 1)).toInt = ((f.1 27 (c + 1)).toInt.toNat : Int) := by omega
      have t0 : (f.1 27 (c + 1)).toInt ≠ 0 := fun z => z0 (Int32.toInt_inj.mp (by rw [z]; decide))
      rw [i32_nat tn, aO 6 _ (by omega) (by omega) (by omega)]
  · have e : (List.range (np + 1)).map (A' 6) = (List.range np).map (A 6) ++ [X] := by
      rw [List.range_succ, List.map_append]
      congr 1
      · refine List.map_congr_left (fun i hi => aO 6 i ?_ (by omega) (by omega))
        have := List.mem_range.mp hi
        omega
      · show [A' 6 np] = [X]
        rw [a6]
    rw [e, a70]
    exact hal
  · by_cases e : p = np
    · subst e
      refine ⟨by rw [a6]; exact ⟨by omega, hX2, hXT⟩, by rw [a6]; exact he, ⟨N, f9, hN, ?_⟩, hG⟩
      rw [a60]
      exact ⟨⟨by omega, hY2, hYT⟩, g, hg, hg8⟩
    · exact (hpe p (by omega)).mv (by omega) hch (fun a t z zt => hE a t z (by omega)) (fun k z1 z2 => hf k p (by omega) (by omega) (by omega)) (fun j hj => hf 8 _ (by omega) (by omega) (by omega)) ⟨aO 6 p (by omega) (by omega) (by omega), aO 60 p (by omega) (by omega) (by omega)⟩ rfl
  · have := hch.al (by omega) (lo _ (by omega) (by omega)) (fun a z => hE a 71 z (by omega)) q3
    rw [aO 70 1 (by omega) (by omega) (by omega), show (List.range nq).map (A' 11) = (List.range nq).map (A 11) from List.map_congr_left (fun i _ => aO 11 i (by omega) (by omega) (by omega))]
    exact this
  · have h1 := (hqe i hi).mv (f' := f') (A' := A) hch (fun a t z zt => hE a t z (by omega)) (fun q j hq => k0 q j (by simp only [List.mem_cons, List.not_mem_nil, or_false] at hq; omega) (by simp only [List.mem_cons, List.not_mem_nil, or_false] at hq; omega) (by simp only [List.mem_cons, List.not_mem_nil, or_false] at hq; omega) (by simp only [List.mem_cons, List.not_mem_nil, or_false] at hq; omega) (by simp only [List.mem_cons, List.not_mem_nil, or_false] at hq; omega)) (fun q hq => k0 q i (by simp only [List.mem_cons, List.not_mem_nil, or_false] at hq; omega) (by simp only [List.mem_cons, List.not_mem_nil, or_false] at hq; omega) (by simp only [List.mem_cons, List.not_mem_nil, or_false] at hq; omega) (by simp only [List.mem_cons, List.not_mem_nil, or_false] at hq; omega) (by simp only [List.mem_cons, List.not_mem_nil, or_false] at hq; omega)) (by rw [hl]) ⟨rfl, rfl, fun _ => rfl⟩
    obtain ⟨u, u1, u2⟩ := h54 i (by omega)
    refine h1.an (aO 11 i (by omega) (by omega) (by omega)) (aO 111 i (by omega) (by omega) (by omega)) (Or.inr ?_)
    rw [k0 54 i (by omega) (by omega) (by omega) (by omega) (by omega), i32_nat u1, aO 6 u (by omega) (by omega) (by omega)]
theorem pe0_o {q j : Nat} (h8 : ¬ (q = 8 ∧ 40 * n ≤ j ∧ j < 40 * n + N)) (h9 : ¬ ((q = 9 ∨ q = 10 ∨ q = 17) ∧ j = n)) (h4 : ¬ (q = 4 ∧ j = 0)) (h7 : ¬ (q = 7 ∧ j = 0)) : (R_pe0 f n N st).1 q j = f.1 q j := by
  unfold R_pe0
  rw [rf_ui_ne h7, rf_ui_ne h4, rf_ui_ne (by omega), rf_ui_ne (by omega), rf_ui_ne (by omega), R_cy_o h8]
theorem pe0_v : (R_pe0 f n N st).1 7 0 = f.1 7 0 + 1 ∧ (R_pe0 f n N st).1 4 0 = 0 ∧ (R_pe0 f n N st).1 9 n = f.1 4 0 ∧ (R_pe0 f n N st).1 10 n = st ∧ (R_pe0 f n N st).1 17 n = f.1 1 0 + 30 ∧ ∀ j, j < N → (R_pe0 f n N st).1 8 (40 * n + j) = vp_nar .byte (f.1 3 j) := by
  unfold R_pe0
  refine ⟨rf_ui_eq, by rw [rf_ui_ne (by omega), rf_ui_eq], by rw [rf_ui_ne (by omega), rf_ui_ne (by omega), rf_ui_ne (by omega), rf_ui_ne (by omega), rf_ui_eq], by rw [rf_ui_ne (by omega), rf_ui_ne (by omega), rf_ui_ne (by omega), rf_ui_eq], by rw [rf_ui_ne (by omega), rf_ui_ne (by omega), rf_ui_eq], fun j hj => ?_⟩
  rw [rf_ui_ne (by omega), rf_ui_ne (by omega), rf_ui_ne (by omega), rf_ui_ne (by omega), rf_ui_ne (by omega), R_cy_v (by omega) (by omega), Nat.zero_add, show 40 * n + j - 40 * n = j by omega]
end JxPeer3
