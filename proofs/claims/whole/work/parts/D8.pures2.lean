/-! WHAT HOLDS OF THE REFERENCE'S STATE: messages, ASKS that are given over -/
section JxPures2
variable {f f' : jx_F} {n a p c c0 i k : Nat} {G G' : Nat → Nat → Int32}
theorem PJ_p.of (h : PJ_p f p) (h1 : f'.1 22 p = f.1 22 p) (h2 : f'.1 15 p = f.1 15 p) (h3 : f'.1 19 p = f.1 19 p) : PJ_p f' p := by
  unfold PJ_p at h ⊢
  rw [h1, h2, h3]
  exact h
theorem PJ_i.of (h : PJ_i f c) (h1 : f'.1 30 c = f.1 30 c) (h2 : ∀ j, f'.1 29 j = f.1 29 j) : PJ_i f' c := by
  unfold PJ_i R_len at h ⊢
  rw [h1, h2, h2, h2]
  exact h
theorem PS.of (hS : PS f n a) (ho : R_ok f') (hk : ∀ q j, q ∈ [7, 10, 11, 13, 14, 15, 16, 26, 27, 28, 29, 30, 49, 50, 51, 52, 54, 55, 58] → f'.1 q j = f.1 q j) (hl : ∀ j, f'.2 53 j = f.2 53 j) (hJ : ∀ p, p < 4 → PJ_p f' p) (h34 : (f.1 34 0).toInt ≤ (f'.1 34 0).toInt) : PS f' n a := by
  obtain ⟨sg, sc, sp, sq, s5, s6, s7⟩ := hS
  exact ⟨sg.of ho (fun q j hq => hk q j (by simp only [List.mem_cons, List.not_mem_nil, or_false] at hq ⊢; omega)), fun c c1 c2 => (sc c c1 c2).of (fun q hq => hk q c (by simp only [List.mem_cons, List.not_mem_nil, or_false]; omega)) (fun j _ _ => ⟨fun _ => hk 13 j (by decide), fun _ => hk 14 j (by decide)⟩), fun p hp => (sp p hp).of (fun q hq => hk q p (by simp only [List.mem_cons, List.not_mem_nil, or_false] at hq ⊢; omega)) (fun c _ _ _ q hq => hk q c (by simp only [List.mem_cons, List.not_mem_nil, or_false]; omega)), fun i hi => (sq i hi).of ⟨hk 54 i (by decide), hk 55 i (by decide), hk 58 i (by decide), hl i⟩ (fun u _ _ _ => ⟨hk 11 u (by decide), hk 13 u (by decide), hk 14 u (by decide)⟩), hJ, fun c c1 c2 => (s6 c c1 c2).of (hk 30 c (by decide)) (fun j => hk 29 j (by decide)), fun i hi => by rw [hk 55 i (by decide)]; exact Int.le_trans (s7 i hi) h34⟩
/-- an ASK while ASKS of p are given over: p's own may hang on p -/
def PQw (f : jx_F) (n p i : Nat) : Prop := ∃ u t : Nat, ((f.1 54 i).toInt = (u : Int) ∧ u < n) ∧ ((f.1 55 i).toInt = (t : Int) ∧ 1 ≤ t) ∧ (0 ≤ (f.2 53 i).toInt ∧ (f.2 53 i).toInt < 4294967296) ∧ (f.2 53 i = 0 → (u = p ∧ ¬ f.1 15 p = 2) ∨ ((f.1 11 u = 5 ∨ f.1 11 u = 6) ∧ f.1 58 i = R_conn f u))
theorem PQw.of (h : PQw f n p i) (h1 : f'.1 54 i = f.1 54 i ∧ f'.1 55 i = f.1 55 i ∧ f'.1 58 i = f.1 58 i ∧ f'.2 53 i = f.2 53 i) (h2 : ∀ u, f'.1 11 u = f.1 11 u ∧ f'.1 13 u = f.1 13 u ∧ f'.1 14 u = f.1 14 u ∧ f'.1 15 u = f.1 15 u) : PQw f' n p i := by
  obtain ⟨u, t, t1, t2, t3, t4⟩ := h
  refine ⟨u, t, by rw [h1.1]; exact t1, by rw [h1.2.1]; exact t2, by rw [h1.2.2.2]; exact t3, fun e => ?_⟩
  rw [h1.2.2.2] at e
  rw [(h2 p).2.2.2, (h2 u).1, h1.2.2.1, R_conn_eq (f := f) (h2 u).1 (h2 u).2.1 (h2 u).2.2.1]
  exact t4 e
theorem R_sendAsk_v {q : Nat} : (R_sendAsk f i q).1 54 i = Int32.ofNat q ∧ (R_sendAsk f i q).1 55 i = f.1 55 i + 1 ∧ (R_sendAsk f i q).1 58 i = R_conn f q ∧ (R_sendAsk f i q).1 34 0 = f.1 34 0 + 1 := by
  unfold R_sendAsk R_inc
  refine ⟨?_, ?_, ?_, ?_⟩
  · rw [rf_ui_ne (by omega), R_msg_o (by omega) (by omega) (by omega) (by omega) (by omega)]
    simp [R_askP, rf_ui]
  · rw [rf_ui_eq, R_msg_o (by omega) (by omega) (by omega) (by omega) (by omega)]
    simp [R_askP, rf_ui]
  · rw [rf_ui_ne (by omega), R_msg_o (by omega) (by omega) (by omega) (by omega) (by omega)]
    simp [R_askP, rf_ui]
  · rw [rf_ui_ne (by omega), R_msg_o (by omega) (by omega) (by omega) (by omega) (by omega)]
    simp [R_askP, rf_ui]
/-- ASKS before k are settled -/
def GW (f : jx_F) (n a p k : Nat) : Prop := (∀ i, i < a → i < k → PI_q1 f n i) ∧ (∀ i, i < a → k ≤ i → PQw f n p i) ∧ (R_lu f n 0 ≠ 4 → R_open (f.1 11 (R_lu f n 0))) ∧ (∀ i, i < 64 → (f.1 55 i).toInt ≤ (f.1 34 0).toInt) ∧ ∃ h : Nat, (f.1 34 0).toInt = (h : Int) ∧ h + (a - k) < 2147483648
theorem GW.step (hp : p < n) (hn4 : n ≤ 4) (hk : k < a) (ha : a ≤ 64) (h : GW f n a p k) : GW (R_gv1 f n p k) n a p (k + 1) ∧ ((f.1 34 0).toInt ≤ ((R_gv1 f n p k).1 34 0).toInt ∧ ((R_gv1 f n p k).1 34 0).toInt ≤ (f.1 34 0).toInt + 1) := by
  obtain ⟨h1, h2, h3, h4, x, h5, h6⟩ := h
  have same : ∀ u, (R_gv1 f n p k).1 11 u = f.1 11 u ∧ (R_gv1 f n p k).1 13 u = f.1 13 u ∧ (R_gv1 f n p k).1 14 u = f.1 14 u ∧ (R_gv1 f n p k).1 15 u = f.1 15 u := fun u => ⟨R_gv1_k rfl, R_gv1_k rfl, R_gv1_k rfl, R_gv1_k rfl⟩
  have hlu : R_lu (R_gv1 f n p k) n 0 = R_lu f n 0 := R_lu_eq (fun u => (same u).1) (fun u => (same u).2.2.2) n 0
  have oth : ∀ i, i ≠ k → (R_gv1 f n p k).1 54 i = f.1 54 i ∧ (R_gv1 f n p k).1 55 i = f.1 55 i ∧ (R_gv1 f n p k).1 58 i = f.1 58 i ∧ (R_gv1 f n p k).2 53 i = f.2 53 i := fun i hi => ⟨R_gv1_i hi (by omega), R_gv1_i hi (by omega), R_gv1_i hi (by omega), R_gv1_l (fun z => hi z.2)⟩
  have hA : ∀ i, i < a → i < k → PI_q1 (R_gv1 f n p k) n i := fun i i1 i2 => (h1 i i1 i2).of (oth i (by omega)) (fun u _ _ _ => ⟨(same u).1, (same u).2.1, (same u).2.2.1⟩)
  have hB : ∀ i, i < a → k + 1 ≤ i → PQw (R_gv1 f n p k) n p i := fun i i1 i2 => (h2 i i1 (by omega)).of (oth i (by omega)) same
  obtain ⟨u, t, t1, t2, t3, t4⟩ := h2 k hk (Nat.le_refl _)
  have hlu3 : R_lu (R_gv1 f n p k) n 0 ≠ 4 → R_open ((R_gv1 f n p k).1 11 (R_lu (R_gv1 f n p k) n 0)) := by rw [hlu, (same _).1]; exact h3
  have ep : f.1 54 k = Int32.ofNat p ↔ u = p := by
    rw [i32_eq (x := f.1 54 k) (n := u) t1.1 (by omega)]
    exact ⟨fun e => ofN_inj (by omega) (by omega) e, fun e => by rw [e]⟩
  have key : PI_q1 (R_gv1 f n p k) n k ∧ (∀ i, i < 64 → ((R_gv1 f n p k).1 55 i).toInt ≤ ((R_gv1 f n p k).1 34 0).toInt) ∧ ((R_gv1 f n p k).1 34 0 = f.1 34 0 ∨ (R_gv1 f n p k).1 34 0 = f.1 34 0 + 1) := by
    have stay : ∀ g : jx_F, g = f → PI_q1 f n k → PI_q1 g n k ∧ (∀ i, i < 64 → (g.1 55 i).toInt ≤ (g.1 34 0).toInt) ∧ (g.1 34 0 = f.1 34 0 ∨ g.1 34 0 = f.1 34 0 + 1) := fun g e hq => by subst e; exact ⟨hq, h4, Or.inl rfl⟩
    by_cases hc : ¬ f.1 54 k = Int32.ofNat p ∨ ¬ f.2 53 k = 0
    · refine stay _ (by unfold R_gv1; rw [if_pos hc]) ⟨u, t, t1, t2, t3, fun e => ?_⟩
      rcases t4 e with z | z
      · exact hc.elim (fun w => absurd (ep.mpr z.1) w) (fun w => absurd e w)
      · exact z
    · have c1 : f.1 54 k = Int32.ofNat p := Decidable.not_not.mp (fun z => hc (Or.inl z))
      have c2 : f.2 53 k = 0 := Decidable.not_not.mp (fun z => hc (Or.inr z))
      by_cases hl : R_lu f n 0 = 4
      · by_cases h15 : f.1 15 p = 2
        · refine stay _ (by unfold R_gv1; rw [if_neg hc, if_neg (fun z => z hl), if_pos h15]) ⟨u, t, t1, t2, t3, fun e => ?_⟩
          rcases t4 e with z | z
          · exact absurd h15 z.2
          · exact z
        · have e : R_gv1 f n p k = rf_ul f 53 k 3002 := by unfold R_gv1; rw [if_neg hc, if_neg (fun z => z hl), if_neg h15]
          rw [e]
          have e53 : (rf_ul f 53 k 3002).2 53 k = 3002 := rf_ul_eq
          refine ⟨⟨u, t, t1, t2, by rw [e53]; decide, fun z => ?_⟩, h4, Or.inl rfl⟩
          rw [e53] at z
          exact absurd z (by decide)
      · have e : R_gv1 f n p k = R_sendAsk f k (R_lu f n 0) := by unfold R_gv1; rw [if_neg hc, if_pos hl]
        obtain ⟨l1, l2, -⟩ := R_lu_us n 0 hl
        obtain ⟨v1, v2, v3, v4⟩ := R_sendAsk_v (f := f) (i := k) (q := R_lu f n 0)
        have e34 : (f.1 34 0 + 1).toInt = ((x + 1 : Nat) : Int) := by rw [i32_add (c := 1) h5 (by decide) (by omega) (by omega)]; omega
        have e55 : (f.1 55 k + 1).toInt = ((t + 1 : Nat) : Int) := by
          have := h4 k (by omega)
          rw [i32_add (c := 1) t2.1 (by decide) (by omega) (by omega)]; omega
        rw [← e] at v1 v2 v3 v4
        refine ⟨⟨R_lu f n 0, t + 1, ⟨by rw [v1, i32_ofNat (by omega)], by omega⟩, ⟨by rw [v2]; exact e55, by omega⟩, ?_, fun _ => ⟨?_, ?_⟩⟩, fun i hi => ?_, Or.inr v4⟩
        · rw [e, R_sendAsk_l]; exact t3
        · rw [(same _).1]; exact h3 hl
        · rw [v3, R_conn_eq (f := f) (same _).1 (same _).2.1 (same _).2.2.1]
        · rw [v4, e34]
          by_cases hik : i = k
          · rw [hik, v2, e55]
            have := h4 k (by omega)
            omega
          · rw [(oth i hik).2.1]
            have := h4 i hi
            omega
  obtain ⟨k1, k2, k3⟩ := key
  have e34 : (f.1 34 0 + 1).toInt = ((x + 1 : Nat) : Int) := by rw [i32_add (c := 1) h5 (by decide) (by omega) (by omega)]; omega
  refine ⟨⟨fun i i1 i2 => ?_, hB, hlu3, k2, ?_⟩, ?_⟩
  · by_cases e : i = k
    · rw [e]; exact k1
    · exact hA i i1 (by omega)
  · rcases k3 with e | e
    · exact ⟨x, by rw [e]; exact h5, by omega⟩
    · exact ⟨x + 1, by rw [e]; exact e34, by omega⟩
  · rcases k3 with e | e
    · rw [e]; omega
    · rw [e, e34]; omega
theorem GW.all (hp : p < n) (hn4 : n ≤ 4) (ha : a ≤ 64) : ∀ (r k : Nat) (f : jx_F), k + r = a → GW f n a p k → (∀ i, i < a → PI_q1 (R_gvl n p r k f) n i) ∧ (∀ i, i < 64 → ((R_gvl n p r k f).1 55 i).toInt ≤ ((R_gvl n p r k f).1 34 0).toInt) ∧ (f.1 34 0).toInt ≤ ((R_gvl n p r k f).1 34 0).toInt ∧ ((R_gvl n p r k f).1 34 0).toInt ≤ (f.1 34 0).toInt + (r : Int)
  | 0, k, f, hk, h => ⟨fun i hi => h.1 i hi (by omega), h.2.2.2.1, Int.le_refl _, by show (f.1 34 0).toInt ≤ _; omega⟩
  | r + 1, k, f, hk, h => by
    obtain ⟨g, g1, g2⟩ := h.step hp hn4 (by omega) ha
    obtain ⟨q1, q2, q3, q4⟩ := GW.all hp hn4 ha r (k + 1) (R_gv1 f n p k) (by omega) g
    refine ⟨q1, q2, ?_, ?_⟩
    · exact Int.le_trans g1 q3
    · show ((R_gvl n p r (k + 1) (R_gv1 f n p k)).1 34 0).toInt ≤ _
      omega
theorem R_gvl_o {u j : Nat} (hu : R_askK u = false) : ∀ (r k : Nat) (f : jx_F), (R_gvl n p r k f).1 u j = f.1 u j
  | 0, _, _ => rfl
  | r + 1, k, f => (R_gvl_o hu r (k + 1) (R_gv1 f n p k)).trans (R_gv1_k hu)
theorem R_gvl_i {u j : Nat} (hu : 54 ≤ u ∧ u ≤ 58) : ∀ (r k : Nat) (f : jx_F), k + r ≤ j → (R_gvl n p r k f).1 u j = f.1 u j
  | 0, _, _, _ => rfl
  | r + 1, k, f, h => (R_gvl_i hu r (k + 1) (R_gv1 f n p k) (by omega)).trans (R_gv1_i (by omega) hu)
theorem R_gvl_l {u j : Nat} : ∀ (r k : Nat) (f : jx_F), ¬ (u = 53 ∧ j < k + r) → (R_gvl n p r k f).2 u j = f.2 u j
  | 0, _, _, _ => rfl
  | r + 1, k, f, h => (R_gvl_l r (k + 1) (R_gv1 f n p k) (by omega)).trans (R_gv1_l (by omega))
theorem R_gvl_gok : ∀ (r k : Nat) (f : jx_F), k + r ≤ a → R_gok f n a → R_gok (R_gvl n p r k f) n a
  | 0, _, _, _, h => h
  | r + 1, k, f, hk, h => R_gvl_gok r (k + 1) (R_gv1 f n p k) (by omega) (R_gv1_gok h (by omega))
end JxPures2
