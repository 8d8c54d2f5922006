/-! THE PAIR ask: an ASK more; the reference -/
def R_ask0 (f : jx_F) (s a : Nat) : jx_F := rf_ui (R_cy (R_cy (R_cy f 41 (41 * s) 50 (41 * a) 41) 42 (41 * s) 51 (41 * a) 41) 43 (41 * s) 52 (41 * a) 41) 49 0 (f.1 49 0 + 1)
noncomputable def R_askp (f : jx_F) (n s : Nat) : Nat := @ite _ (R_us f ((f.1 47 s).toNatClampNeg - 1)) (Classical.propDecidable _) ((f.1 47 s).toNatClampNeg - 1) (R_lu f n 0)
noncomputable def R_askF (f : jx_F) (n a : Nat) (v : Int32) : Int32 × jx_F := if 0 ≤ v ∧ v < f.1 40 0 then (if R_askp f n v.toNatClampNeg = 4 then (-3, f) else if a = 64 then (-4, f) else (Int32.ofNat a, R_sendAsk (R_ask0 f v.toNatClampNeg a) a (R_askp f n v.toNatClampNeg))) else (-1, f)
section JxAsk2
variable {th : Nat → Nat} {B b m d s n a i : Nat} {xl : List Int32} {σ σ' σ0 : jx_S} {f f' : jx_F} {A A' : Nat → Nat → Nat} {G : Nat → Nat → Int32} {T T' : Nat → Nat}
theorem ask0_o {q j : Nat} (h : ¬ ((q = 50 ∨ q = 51 ∨ q = 52) ∧ 41 * a ≤ j ∧ j < 41 * a + 41)) (h2 : ¬ (q = 49 ∧ j = 0)) : (R_ask0 f s a).1 q j = f.1 q j := by
  unfold R_ask0
  rw [rf_ui_ne h2, R_cy_o (by omega), R_cy_o (by omega), R_cy_o (by omega)]
theorem ask0_v : (R_ask0 f s a).1 49 0 = f.1 49 0 + 1 ∧ ∀ j, j < 41 → (R_ask0 f s a).1 50 (41 * a + j) = vp_nar .byte (f.1 41 (41 * s + j)) ∧ (R_ask0 f s a).1 51 (41 * a + j) = vp_nar .byte (f.1 42 (41 * s + j)) ∧ (R_ask0 f s a).1 52 (41 * a + j) = vp_nar .byte (f.1 43 (41 * s + j)) := by
  unfold R_ask0
  refine ⟨rf_ui_eq, fun j hj => ⟨?_, ?_, ?_⟩⟩
  · rw [rf_ui_ne (by omega), R_cy_o (by omega), R_cy_o (by omega), R_cy_v (by omega) (by omega), show 41 * a + j - 41 * a = j by omega]
  · rw [rf_ui_ne (by omega), R_cy_o (by omega), R_cy_v (by omega) (by omega), show 41 * a + j - 41 * a = j by omega, R_cy_o (by omega)]
  · rw [rf_ui_ne (by omega), R_cy_v (by omega) (by omega), show 41 * a + j - 41 * a = j by omega, R_cy_o (by omega), R_cy_o (by omega)]
/-- the octets of an ASK hang on its own rows alone -/
theorem askT_row {N n1 n2 n3 : Nat} (h5 : ∀ j, f'.1 5 j = f.1 5 j) (h6 : f'.1 6 0 = f.1 6 0) (hr : ∀ q j, q = 50 ∨ q = 51 ∨ q = 52 → j < 41 → f'.1 q (41 * i + j) = f.1 q (41 * i + j)) (l1 : n1 ≤ 40) (l2 : n2 ≤ 40) (l3 : n3 ≤ 40) : R_askT f' i N n1 n2 n3 = R_askT f i N n1 n2 n3 := by
  have g : ∀ q j, q = 50 ∨ q = 51 ∨ q = 52 → j < 40 → f'.1 q (41 * i + 1 + j) = f.1 q (41 * i + 1 + j) := fun q j hq hj => by
    have := hr q (j + 1) hq (by omega)
    rwa [show 41 * i + (j + 1) = 41 * i + 1 + j by omega] at this
  have g0 : ∀ q, q = 50 ∨ q = 51 ∨ q = 52 → f'.1 q (41 * i) = f.1 q (41 * i) := fun q hq => hr q 0 hq (by omega)
  unfold R_askT
  rw [tx_same (f := f) (f' := f') (g0 50 (by omega)) (fun j hj => g 50 j (by omega) (by omega)) rfl, R_me_eq h5 h6, tx_same (f := f) (f' := f') (g0 52 (by omega)) (fun j hj => g 52 j (by omega) (by omega)) rfl, tx_same (f := f) (f' := f') (g0 51 (by omega)) (fun j hj => g 51 j (by omega) (by omega)) rfl]
theorem rl_q1.fr (hr : rl_q1 B σ f A T i) (h5 : ∀ j, f'.1 5 j = f.1 5 j) (h6 : f'.1 6 0 = f.1 6 0) (hrw : ∀ q j, q = 50 ∨ q = 51 ∨ q = 52 → j < 41 → f'.1 q (41 * i + j) = f.1 q (41 * i + j)) (hq : ∀ k, k ∈ [54, 55, 56, 57] → f'.1 k i = f.1 k i) (hl : f'.2 53 i = f.2 53 i) : rl_q1 B σ f' A T i := by
  obtain ⟨r1, r2, r3, r4, n, w, r5, r6, r7, r8, r9, r10⟩ := hr
  have g0 : ∀ q, q = 50 ∨ q = 51 ∨ q = 52 → f'.1 q (41 * i) = f.1 q (41 * i) := fun q hq => hrw q 0 hq (by omega)
  have gn : ∀ q, q = 50 ∨ q = 51 ∨ q = 52 → R_qn f' q i = R_qn f q i := fun q hq => by unfold R_qn; rw [g0 q hq]
  have ln : ∀ q, q = 50 ∨ q = 51 ∨ q = 52 → R_qn f q i ≤ 40 := fun q hq => by
    obtain ⟨y, y1, y2⟩ := r4 q hq
    unfold R_qn
    rw [i32_nat y1]
    exact y2
  have ehs : R_hs f' = R_hs f := by unfold R_hs; rw [h6]
  have eT : R_askT f' i (R_hs f') (R_qn f' 50 i) (R_qn f' 52 i) (R_qn f' 51 i) = R_askT f i (R_hs f) (R_qn f 50 i) (R_qn f 52 i) (R_qn f 51 i) := by
    rw [ehs, gn 50 (by omega), gn 51 (by omega), gn 52 (by omega)]
    exact askT_row h5 h6 hrw (ln 50 (by omega)) (ln 52 (by omega)) (ln 51 (by omega))
  refine ⟨r1, r2, ?_, fun q hq => ?_, n, w, r5, ?_, r7, ?_, r9, ?_⟩
  · rw [r3]
    unfold cq_e
    rw [hq 54 (by decide), hq 55 (by decide), hq 56 (by decide), hq 57 (by decide), hl]
  · rw [g0 q hq]
    exact r4 q hq
  · rw [eT]; exact r6
  · rw [hq 55 (by decide)]; exact r8
  · rw [eT]; exact r10
/-- things are made, the message that came and the one that is made change -/
theorem RelC.gm (hR : RelC th B b xl σ f A G T) (hch : chg (fun q => q = B + 9 ∨ q = B + 11 ∨ q = B + 12) σ σ' T T') (h9 : ∃ (o : Nat) (l w z c e : Int32), σ'.1 (B + 9) = some (.inr (3, [.ref o, .int l, .int w, .int z, .int c, .int e]))) (hD : (∃ c : Int32, σ'.1 (B + 11) = some (.inr (4, [.ref (B + 12), .int c, .ref (A 4 0)]))) ∧ ∃ w : Nat → Int32, σ'.1 (B + 12) = some (.inl (1, 64, .inl w))) : RelC th B b xl σ' f A G T' := by
  have hB := hR.1.2.2.2.2.1
  have lo : ∀ q, q ≠ B + 9 → q ≠ B + 11 → q ≠ B + 12 → ¬ (q = B + 9 ∨ q = B + 11 ∨ q = B + 12) := fun a z1 z2 z3 z => by omega
  have hE : ∀ q t, dy B σ T q t → ¬ (q = B + 9 ∨ q = B + 11 ∨ q = B + 12) := fun q t hd z => by have := hd.1; omega
  obtain ⟨hx, hd', hC, hP, hQ, hk, ha', hs⟩ := hR
  refine ⟨?_, ?_, fun c hc => (hC c hc).mv hc hch hB ⟨lo _ (by omega) (by omega) (by omega), lo _ (by omega) (by omega) (by omega), lo _ (by omega) (by omega) (by omega)⟩ (fun a t z _ => hE a t z) (fun _ _ => rfl) (fun _ _ => rfl) (fun _ _ => rfl) ⟨rfl, rfl, fun _ => rfl⟩ rfl, hP.mv hch hB (lo _ (by omega) (by omega) (by omega)) (fun a t z _ => hE a t z) (fun _ _ _ _ => rfl) (fun _ _ _ => rfl) (fun _ => rfl), hQ.mv hch hB (lo _ (by omega) (by omega) (by omega)) (fun a t z _ => hE a t z) (fun _ _ _ => rfl) (fun _ => rfl) (fun _ _ _ => rfl), hk.mv hch hB (lo _ (by omega) (by omega) (by omega)) (fun a t z _ => hE a t z) (fun _ _ _ _ => rfl) (fun _ _ _ => rfl), ha'.mv hch hB (lo _ (by omega) (by omega) (by omega)) (fun a t z _ => hE a t z) rfl (fun _ _ _ _ => rfl) (fun _ _ _ => rfl), hs.mv hch hB (lo _ (by omega) (by omega) (by omega)) (fun a t z _ => hE a t z) (fun _ _ _ _ => rfl) (fun _ _ _ => rfl) (Int.le_refl _) (Int.le_refl _) (fun _ _ _ => rfl) (fun _ _ => rfl) (fun _ _ => rfl)⟩
  · obtain ⟨x1, x2, x3, x4, x6, x7, ⟨n, x8, x9, y, x10, x11⟩, ⟨n2, z8, z9, y2, z10, z11⟩, ⟨g, c1, c2⟩, x12, -⟩ := hx
    have hlow : ∀ a, a < B → σ'.1 a = σ.1 a := fun a ha => hch.1 a (by omega) (lo _ (by omega) (by omega) (by omega))
    have hn := hch.2.1
    refine ⟨by rw [hlow b x2]; exact x1, x2, ⟨?_, ?_, fun z z1 z2 => ?_⟩, x4, by omega, by rw [hch.1 B (by omega) (lo _ (by omega) (by omega) (by omega))]; exact x7, ⟨n, x8, x9, y, by rw [hch.1 _ (by omega) (lo _ (by omega) (by omega) (by omega))]; exact x10, x11⟩, ⟨n2, z8, z9, y2, ?_, z11⟩, ⟨g, by rw [hch.1 _ (by omega) (lo _ (by omega) (by omega) (by omega))]; exact c1, c2⟩, by rw [hch.1 _ (by omega) (lo _ (by omega) (by omega) (by omega))]; exact x12, h9⟩
    · rw [hlow _ (x4 0 (by omega))]; exact x3.1
    · rw [hlow _ (x4 1 (by omega))]; exact x3.2.1
    · rw [hlow _ (x4 z z2)]; exact x3.2.2 z z1 z2
    · rcases z10 with ⟨z1, z2⟩ | ⟨z1, z2⟩
      · exact Or.inl ⟨z1, by rw [z1] at z2 ⊢; rw [hlow _ (x4 0 (by omega))]; exact z2⟩
      · exact Or.inr ⟨hch.mv z1, by rw [hch.eqv z1 (hE _ _ z1)]; exact z2⟩
  · obtain ⟨-, -, d3, n, o, d4, d5⟩ := hd'
    refine ⟨hD.1, hD.2, ?_, n, o, ?_, d5⟩
    · rcases d3 with d3 | d3
      · exact Or.inl d3
      · exact Or.inr (hch.mv d3)
    · rcases d3 with d3 | d3
      · rw [hch.1 _ (by omega) (lo _ (by omega) (by omega) (by omega))]; exact d4
      · rw [hch.eqv d3 (hE _ _ d3)]; exact d4
/-- an ASK more -/
theorem RelC.newq {X Y E' : Nat} (hR : RelC th B b xl σ f A G T) (ha : (f.1 49 0).toInt = (a : Int)) (ha64 : a < 64)
    (hf : ∀ q j, ¬ ((q = 50 ∨ q = 51 ∨ q = 52) ∧ 41 * a ≤ j ∧ j < 41 * a + 41) → ¬ (q = 49 ∧ j = 0) → f'.1 q j = f.1 q j) (hl : f'.2 = f.2) (f49 : (f'.1 49 0).toInt = ((a + 1 : Nat) : Int))
    (hch : chg (fun q => q = B + 4 ∨ (q = A 70 1 ∧ B + 102 ≤ q)) σ σ' T T')
    (hA : A' = fun q i => if q = 11 ∧ i = a then X else if q = 111 ∧ i = a then Y else if q = 70 ∧ i = 1 then E' else A q i)
    (hal : al_at th B σ' T' (B + 4) E' 71 ((List.range a).map (A 11) ++ [X])) (hq1 : rl_q1 B σ' f' A' T' a) : RelC th B b xl σ' f' A' G T' := by
  have hB := hR.1.2.2.2.2.1
  have aO : ∀ q i, ¬ (q = 11 ∧ i = a) → ¬ (q = 111 ∧ i = a) → ¬ (q = 70 ∧ i = 1) → A' q i = A q i := fun q i z1 z2 z3 => by rw [hA]; exact (if_neg z1).trans ((if_neg z2).trans (if_neg z3))
  have a11 : A' 11 a = X := by rw [hA]; exact if_pos ⟨rfl, rfl⟩
  have a70 : A' 70 1 = E' := by rw [hA]; exact (if_neg (by omega)).trans ((if_neg (by omega)).trans (if_pos ⟨rfl, rfl⟩))
  obtain ⟨hx, hd', hC, hP, ⟨nq, m1, m2, halp, hqe⟩, hk, ha', hs⟩ := hR
  have enq : nq = a := by omega
  rw [enq] at halp hqe
  have hE : ∀ q t, dy B σ T q t → t ≠ 71 → ¬ (q = B + 4 ∨ (q = A 70 1 ∧ B + 102 ≤ q)) := by
    intro q t hd ht hw
    have h1 := hd.1
    rcases hw with hw | ⟨hw, -⟩
    · omega
    · rcases halp.2 with ⟨e3, -⟩ | ⟨e3, -⟩
      · have := hx.2.2.2.1 1 (by omega)
        omega
      · have h2 := e3.2.2
        rw [← hw, hd.2.2] at h2
        exact ht h2
  have lo : ∀ q, q < B + 102 → q ≠ B + 4 → ¬ (q = B + 4 ∨ (q = A 70 1 ∧ B + 102 ≤ q)) := fun a z1 z2 z => by omega
  have k0 : ∀ q j, q ≠ 49 → q ≠ 50 → q ≠ 51 → q ≠ 52 → f'.1 q j = f.1 q j := fun q j z1 z2 z3 z4 => hf q j (by omega) (by omega)
  refine ⟨hx.mv hch (fun a z => lo a (by omega) (by omega)) ⟨lo _ (by omega) (by omega), lo _ (by omega) (by omega), lo _ (by omega) (by omega), lo _ (by omega) (by omega)⟩ (fun a z => hE a _ z (by omega)) ?_ (fun q j z1 z2 => k0 q j (by omega) (by omega) (by omega) (by omega)) (aO 0 0 (by omega) (by omega) (by omega)), hd'.mv hch hB ⟨lo _ (by omega) (by omega), lo _ (by omega) (by omega), lo _ (by omega) (by omega)⟩ (fun a z => hE a _ z (by omega)) (fun q j hq => k0 q j (by omega) (by omega) (by omega) (by omega)) (aO 4 0 (by omega) (by omega) (by omega)), fun c hc => (hC c hc).mv hc hch hB ⟨lo _ (by omega) (by omega), lo _ (by omega) (by omega), lo _ (by omega) (by omega)⟩ (fun a t z zt => hE a t z (by omega)) (fun q hq => k0 q _ (by simp only [List.mem_cons, List.not_mem_nil, or_false] at hq; omega) (by simp only [List.mem_cons, List.not_mem_nil, or_false] at hq; omega) (by simp only [List.mem_cons, List.not_mem_nil, or_false] at hq; omega) (by simp only [List.mem_cons, List.not_mem_nil, or_false] at hq; omega)) (fun j _ => k0 29 _ (by omega) (by omega) (by omega) (by omega)) (fun j _ => k0 31 _ (by omega) (by omega) (by omega) (by omega)) ⟨aO 51 c (by omega) (by omega) (by omega), aO 52 c (by omega) (by omega) (by omega), fun i => aO 6 i (by omega) (by omega) (by omega)⟩ rfl, hP.mv hch hB (lo _ (by omega) (by omega)) (fun a t z zt => hE a t z (by omega)) (fun q j z1 z2 => k0 q j (by omega) (by omega) (by omega) (by omega)) (fun q i hq => aO q i (by omega) (by omega) (by omega)) (fun _ => rfl), ⟨a + 1, f49, by omega, ?_, fun i hi => ?_⟩, hk.mv hch hB (lo _ (by omega) (by omega)) (fun a t z zt => hE a t z (by omega)) (fun q j z1 z2 => k0 q j (by omega) (by omega) (by omega) (by omega)) (fun q i hq => aO q i (by omega) (by omega) (by omega)), ha'.mv hch hB (lo _ (by omega) (by omega)) (fun a t z zt => hE a t z (by omega)) (k0 35 0 (by omega) (by omega) (by omega) (by omega)) (fun q j _ _ => by rw [hl]) (fun q i hq => aO q i (by omega) (by omega) (by omega)), hs.mv hch hB (lo _ (by omega) (by omega)) (fun a t z zt => hE a t z (by omega)) (fun q j z1 z2 => k0 q j (by omega) (by omega) (by omega) (by omega)) (fun q j _ => by rw [hl]) (by rw [k0 7 0 (by omega) (by omega) (by omega) (by omega)]; exact Int.le_refl _) (by rw [k0 35 0 (by omega) (by omega) (by omega) (by omega)]; exact Int.le_refl _) (fun q i hq => aO q i (by omega) (by omega) (by omega)) (fun i _ => aO 10 i (by omega) (by omega) (by omega)) (fun i hi => aO 6 i (by omega) (by omega) (by omega))⟩
  · rw [hch.1 B (by omega) (lo _ (by omega) (by omega)), aO 0 0 (by omega) (by omega) (by omega), hx.2.2.2.2.2.1]
    unfold cx_e
    rw [k0 4 0 (by omega) (by omega) (by omega) (by omega), k0 1 0 (by omega) (by omega) (by omega) (by omega), k0 34 0 (by omega) (by omega) (by omega) (by omega)]
  · have e : (List.range (a + 1)).map (A' 11) = (List.range a).map (A 11) ++ [X] := by
      rw [List.range_succ, List.map_append]
      congr 1
      · refine List.map_congr_left (fun i hi => aO 11 i ?_ (by omega) (by omega))
        have := List.mem_range.mp hi
        omega
      · show [A' 11 a] = [X]
        rw [a11]
    rw [e, a70]
    exact hal
  · by_cases e : i = a
    · rw [e]; exact hq1
    · have h1 := (hqe i (by omega)).mv (f' := f) (A' := A) hch (fun a t z zt => hE a t z (by omega)) (fun _ _ _ => rfl) (fun _ _ => rfl) rfl ⟨rfl, rfl, fun _ => rfl⟩
      have h2 : rl_q1 B σ' f A' T' i := by
        unfold rl_q1 cq_e at h1 ⊢
        rw [aO 11 i (by omega) (by omega) (by omega), aO 111 i (by omega) (by omega) (by omega), aO 6 _ (by omega) (by omega) (by omega)]
        exact h1
      exact h2.fr (fun j => k0 5 j (by omega) (by omega) (by omega) (by omega)) (k0 6 0 (by omega) (by omega) (by omega) (by omega)) (fun q j hq hj => hf q _ (by omega) (by omega)) (fun q hq => k0 q i (by simp only [List.mem_cons, List.not_mem_nil, or_false] at hq; omega) (by simp only [List.mem_cons, List.not_mem_nil, or_false] at hq; omega) (by simp only [List.mem_cons, List.not_mem_nil, or_false] at hq; omega) (by simp only [List.mem_cons, List.not_mem_nil, or_false] at hq; omega)) (by rw [hl])
theorem i32_range {v x : Int32} {n : Nat} (hn : x.toInt = (n : Int)) (h : 0 ≤ v ∧ v < x) : ∃ s : Nat, s < n ∧ v.toInt = (s : Int) := by
  have h1 := Int32.le_iff_toInt_le.mp h.1
  have h2 := Int32.lt_iff_toInt_lt.mp h.2
  rw [show (0 : Int32).toInt = 0 by decide] at h1
  exact ⟨v.toInt.toNat, by omega, by omega⟩
theorem r_ask {v : Int32} {mn : Nat} (hg : R_gok (rf_ui f 0 0 0) n a) (h40 : (f.1 40 0).toInt = (mn : Int)) (h16 : mn ≤ 16) (h47 : ∀ s, s < mn → ∃ p : Nat, (f.1 47 s).toInt = ((p + 1 : Nat) : Int) ∧ p < n) (hqo : ∀ s, s < mn → a < 64 → R_qok (R_ask0 (rf_ui f 0 0 0) s a) a) : rfc th σ0 m (d + 8) 278 [.ref 0, .int v] f (fun r f' => r = some (.int (R_askF (rf_ui f 0 0 0) n a v).1) ∧ f' = (R_askF (rf_ui f 0 0 0) n a v).2) := by
  obtain ⟨g, hgd⟩ : ∃ g, g = rf_ui f 0 0 0 := ⟨_, rfl⟩
  rw [← hgd] at hg hqo ⊢
  have h40' : (g.1 40 0).toInt = (mn : Int) := by rw [hgd, rf_ui_ne (by omega)]; exact h40
  have e47 : ∀ s, g.1 47 s = f.1 47 s := fun s => by rw [hgd, rf_ui_ne (by omega)]
  obtain ⟨go, g7, gn4, g49, ga, gq, gc⟩ := id hg
  refine rf_go dt_278 60 [(69, [0, 1, 2])] dt_278_k (by decide +kernel) rfl ?_
  intro C J hC hJ
  conv => whnf
  rw [show rf_ui f 0 0 0 = g from hgd.symm]
  refine ⟨fun (h0 : v < 0) => ?_, fun (h0 : ¬ v < 0) => ?_⟩
  · conv => whnf
    unfold R_askF
    rw [if_neg (fun z => absurd h0 (Int32.not_lt.mpr z.1))]
    exact ⟨rfl, rfl⟩
  conv => whnf
  refine ⟨fun (h1 : v < g.1 40 0) => ?_, fun (h1 : ¬ v < g.1 40 0) => ?_⟩
  rotate_left
  · conv => whnf
    unfold R_askF
    rw [if_neg (fun z => h1 z.2)]
    exact ⟨rfl, rfl⟩
  obtain ⟨s, hs, hv⟩ := i32_range h40' ⟨Int32.not_lt.mp h0, h1⟩
  have hvn := i32_nat hv
  obtain ⟨p, hp, hpn⟩ := h47 s hs
  have hp' : (g.1 47 s - 1).toInt = (p : Int) := by rw [e47, i32_sub (c := 1) hp (by decide) (by omega) (by omega)]; omega
  have eF : R_askF g n a v = (if R_askp g n s = 4 then (-3, g) else if a = 64 then (-4, g) else (Int32.ofNat a, R_sendAsk (R_ask0 g s a) a (R_askp g n s))) := by
    unfold R_askF
    rw [if_pos ⟨Int32.not_lt.mp h0, h1⟩, hvn]
  have ep : (g.1 47 s).toNatClampNeg - 1 = p := by rw [e47, i32_nat hp]; omega
  rw [eF]
  have rest : ∀ (q : Nat) (qv : Int32), R_askp g n s = q → q < n → qv.toInt = (q : Int) → a < 64 → jx_fj th (rf_g m) (rf σ0 m) (d + 7) 278 69 [(0, .ref 0), (1, .int v), (2, .int qv)] [] g (fun r f' => r = some (.int (if R_askp g n s = 4 then (-3, g) else if a = 64 then (-4, g) else (Int32.ofNat a, R_sendAsk (R_ask0 g s a) a (R_askp g n s))).1) ∧ f' = (if R_askp g n s = 4 then (-3, g) else if a = 64 then (-4, g) else (Int32.ofNat a, R_sendAsk (R_ask0 g s a) a (R_askp g n s))).2) := by
    intro q qv eq hq hqv ha64
    rw [eq, if_neg (by omega), if_neg (by omega)]
    have m1 : (41 * v).toInt = ((41 * s : Nat) : Int) := by rw [i32_mul (a := 41) (by decide) hv (by omega) (by omega)]; omega
    have m2 : ∀ x : Int32, x.toInt = (a : Int) → (41 * x).toInt = ((41 * a : Nat) : Int) := fun x hx => by rw [i32_mul (a := 41) (by decide) hx (by omega) (by omega)]; omega
    refine rf_at dt_278 80 [] dt_278_k (by decide +kernel) ?_
    intro C J hC hJ
    conv => whnf
    refine hC _ _ _ _ (((r_copyRow41_50 (d := d) m1 (m2 _ g49) (by omega) (by omega)).up (by omega)).mp ?_)
    rintro r f1 ⟨rfl, hf1⟩
    have o1 : ∀ q j, q ≠ 50 → f1.1 q j = g.1 q j := fun q j z => by rw [hf1]; exact R_cy_o (by omega)
    conv => whnf
    refine hC _ _ _ _ (((r_copyRow42_51 (d := d) m1 (m2 _ (by rw [o1 49 0 (by omega)]; exact g49)) (by omega) (by omega)).up (by omega)).mp ?_)
    rintro r f2 ⟨rfl, hf2⟩
    have o2 : ∀ q j, q ≠ 51 → f2.1 q j = f1.1 q j := fun q j z => by rw [hf2]; exact R_cy_o (by omega)
    conv => whnf
    refine hC _ _ _ _ (((r_copyRow43_52 (d := d) m1 (m2 _ (by rw [o2 49 0 (by omega), o1 49 0 (by omega)]; exact g49)) (by omega) (by omega)).up (by omega)).mp ?_)
    rintro r f3 ⟨rfl, hf3⟩
    have o3 : ∀ q j, q ≠ 52 → f3.1 q j = f2.1 q j := fun q j z => by rw [hf3]; exact R_cy_o (by omega)
    have e49 : f3.1 49 0 = g.1 49 0 := by rw [o3 49 0 (by omega), o2 49 0 (by omega), o1 49 0 (by omega)]
    conv => whnf
    obtain ⟨F, hF⟩ : ∃ F, F = R_ask0 g s a := ⟨_, rfl⟩
    have eF0 : rf_ui f3 49 0 (f3.1 49 0 + 1) = F := by
      rw [e49, hF, hf3, hf2, hf1]
      rfl
    rw [eF0]
    have F49 : F.1 49 0 = g.1 49 0 + 1 := by rw [hF]; exact ask0_v.1
    have oF : ∀ q j, q ≠ 49 → q ≠ 50 → q ≠ 51 → q ≠ 52 → F.1 q j = g.1 q j := fun q j z1 z2 z3 z4 => by rw [hF]; exact ask0_o (by omega) (by omega)
    have F49' : (F.1 49 0 - 1).toInt = (a : Int) := by
      have t1 : (F.1 49 0).toInt = ((a + 1 : Nat) : Int) := by rw [F49, i32_add (c := 1) g49 (by decide) (by omega) (by omega)]; omega
      rw [i32_sub (c := 1) t1 (by decide) (by omega) (by omega)]
      omega
    obtain ⟨cN, cN1, cN2⟩ := hg.cn (q := q) (by omega)
    have hcF : (R_conn F q).toInt = (cN : Int) := by rw [R_conn_eq (oF 11 q (by omega) (by omega) (by omega) (by omega)) (oF 13 q (by omega) (by omega) (by omega) (by omega)) (oF 14 q (by omega) (by omega) (by omega) (by omega))]; exact cN1
    refine hC _ _ _ _ (((r_sendAsk (d := d) F49' ha64 hqv (by omega) (go.of (oF 6 0 (by omega) (by omega) (by omega) (by omega)) (fun c => oF 33 c (by omega) (by omega) (by omega) (by omega)) (fun c => oF 32 c (by omega) (by omega) (by omega) (by omega))) (by rw [hF]; exact hqo s hs ha64) hcF cN2).up (by omega)).mp ?_)
    rintro r f5 ⟨rfl, hf5⟩
    have e5 : f5.1 49 0 = F.1 49 0 := by rw [hf5]; exact R_sendAsk_o rfl
    conv => whnf
    refine ⟨?_, by rw [hf5, hF]⟩
    show some (Value.int (f5.1 49 0 - 1)) = some (Value.int (Int32.ofNat a))
    rw [e5, i32_eq F49' (by omega)]
  conv => whnf
  refine ⟨jx_in_nat hv (show s < 16 by omega), ?_⟩
  conv => whnf
  rw [hvn]
  refine hC _ _ _ _ (((r_isUsable (d := d) hp' (by omega)).up (by omega)).mp ?_)
  rintro r f1 ⟨hcs, hf1⟩
  rw [hf1]
  rcases hcs with ⟨rfl, hu⟩ | ⟨rfl, hu⟩
  · have eq : R_askp g n s = p := by unfold R_askp; rw [ep, if_pos hu]
    conv => whnf
    refine jx_no (show ¬ (1 : Int32) = 0 by decide) ?_
    conv => whnf
    refine ⟨jx_in_nat hv (show s < 16 by omega), ?_⟩
    conv => whnf
    rw [hvn]
    refine jx_yes (show (0 : Int32) ≤ g.1 47 s - 1 by rw [Int32.le_iff_toInt_le, hp', show (0 : Int32).toInt = 0 by decide]; omega) ?_
    conv => whnf
    by_cases e64 : a = 64
    · refine jx_no (show ¬ ¬ g.1 49 0 = 64 from fun z => z (Int32.toInt_inj.mp (by rw [g49, e64]; decide))) ?_
      conv => whnf
      rw [eq, if_neg (by omega), if_pos e64]
      exact ⟨rfl, rfl⟩
    · refine jx_yes (show ¬ g.1 49 0 = 64 from fun z => e64 (by rw [z, show (64 : Int32).toInt = 64 by decide] at g49; omega)) ?_
      conv => whnf
      exact hJ _ _ _ _ (by rw [eF]; exact rest p _ eq hpn hp' (by omega))
  · have eq : R_askp g n s = R_lu g n 0 := by unfold R_askp; rw [ep, if_neg hu]
    conv => whnf
    refine jx_yes (show (0 : Int32) = 0 from rfl) ?_
    conv => whnf
    refine hC _ _ _ _ (((r_leastUsable (d := d) g7 gn4).up (by omega)).mp ?_)
    rintro r f2 ⟨hcs, hf2⟩
    rw [hf2]
    rcases hcs with ⟨z1, z2, z3, rfl⟩ | ⟨z1, rfl⟩
    · have hq : (Int32.ofNat (R_lu g n 0)).toInt = ((R_lu g n 0 : Nat) : Int) := i32_ofNat (by omega)
      conv => whnf
      refine jx_yes (show (0 : Int32) ≤ Int32.ofNat (R_lu g n 0) by rw [Int32.le_iff_toInt_le, hq, show (0 : Int32).toInt = 0 by decide]; omega) ?_
      conv => whnf
      by_cases e64 : a = 64
      · refine jx_no (show ¬ ¬ g.1 49 0 = 64 from fun z => z (Int32.toInt_inj.mp (by rw [g49, e64]; decide))) ?_
        conv => whnf
        rw [eq, if_neg z1, if_pos e64]
        exact ⟨rfl, rfl⟩
      · refine jx_yes (show ¬ g.1 49 0 = 64 from fun z => e64 (by rw [z, show (64 : Int32).toInt = 64 by decide] at g49; omega)) ?_
        conv => whnf
        exact hJ _ _ _ _ (by rw [eF]; exact rest (R_lu g n 0) _ eq z2 hq (by omega))
    · conv => whnf
      refine jx_no (show ¬ (0 : Int32) ≤ -1 by decide) ?_
      conv => whnf
      rw [eq, if_pos z1]
      exact ⟨rfl, rfl⟩
end JxAsk2
