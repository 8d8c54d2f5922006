/-! WHAT HOLDS OF THE REFERENCE'S STATE: a connection is dropped -/
section JxDrop
variable {f g f' : jx_F} {n a p c c0 i k : Nat} {s : Int32}
/-- a PEER that was not open has changed, and its connections -/
theorem PS.nopen (hS : PS f n a) (hp : p < n) (hno : ¬ R_open (f.1 11 p)) (hgo : R_gok g n a) (hP : ∀ u, u < n → u ≠ p → ∀ q, q ∈ [10, 11, 13, 14, 15, 16] → g.1 q u = f.1 q u) (hk : ∀ q j, q = 54 ∨ q = 55 ∨ q = 58 → g.1 q j = f.1 q j) (hl : ∀ j, g.2 53 j = f.2 53 j)
    (hCo : ∀ c, 1 ≤ c → c ≤ 8 → ¬ f.1 27 c = Int32.ofNat (p + 1) → c ≠ c0 → ∀ q, q = 26 ∨ q = 27 ∨ q = 28 ∨ q = 30 → g.1 q c = f.1 q c) (h0 : c0 = 0 ∨ f.1 27 c0 = 0 ∨ f.1 27 c0 = Int32.ofNat (p + 1)) (hC : ∀ c, 1 ≤ c → c ≤ 8 → f.1 27 c = Int32.ofNat (p + 1) ∨ c = c0 → PI_c1 g n c) (hPp : PI_p1 g p)
    (hJp : ∀ q, q < 4 → PJ_p g q) (hJi : ∀ c, 1 ≤ c → c ≤ 8 → PJ_i g c) (h34 : (f.1 34 0).toInt ≤ (g.1 34 0).toInt) : PS g n a := by
  obtain ⟨r1, r2⟩ := hS.upd (f' := g) (c0 := c0) hp hP hCo h0 hC hPp
  refine ⟨hgo, r1, r2, hS.asks hno (fun u hu hne => ⟨hP u hu hne 11 (by decide), hP u hu hne 13 (by decide), hP u hu hne 14 (by decide)⟩) hk hl, hJp, hJi, fun i hi => ?_⟩
  rw [hk 55 i (by omega)]
  exact Int.le_trans (hS.2.2.2.2.2.2 i hi) h34
theorem R_msg_ge {bs : List Int32} {cv : Int32} : (R_msg f bs cv).1 34 0 = f.1 34 0 := R_msg_o (by omega) (by omega) (by omega) (by omega) (by omega)
theorem R_sendWatch_o {q j : Nat} (h : q ∉ [2, 31, 32, 34, 65, 66]) (hp : ¬ ((q = 16 ∨ q = 17 ∨ q = 21) ∧ j = p)) : (R_sendWatch f p).1 q j = f.1 q j := by
  simp only [List.mem_cons, List.not_mem_nil, or_false] at h
  unfold R_sendWatch R_sendWatch0
  rw [rf_ui_ne (by omega), rf_ui_ne (by omega), R_msg_o (by omega) (by omega) (by omega) (by omega) (by omega), rf_ui_ne (by omega), rf_ui_ne (by omega)]
theorem R_sendWatch_v : (R_sendWatch f p).1 34 0 = f.1 34 0 + 1 ∧ (R_sendWatch f p).1 16 p = 1 := by
  unfold R_sendWatch R_sendWatch0
  refine ⟨?_, ?_⟩
  · rw [rf_ui_ne (by omega), rf_ui_ne (by omega), R_msg_o (by omega) (by omega) (by omega) (by omega) (by omega), rf_ui_ne (by omega), rf_ui_eq]
  · rw [rf_ui_ne (by omega), rf_ui_eq]
theorem R_sendWatch_l : (R_sendWatch f p).2 = f.2 := by
  unfold R_sendWatch R_sendWatch0
  show (R_msg _ _ _).2 = _
  rw [R_msg_l]
  rfl
theorem R_sendWatch_ok (hg : R_gok f n a) (hp4 : p < 4) : R_ok (R_sendWatch f p) := by
  obtain ⟨cN, hc, hc8⟩ := hg.cn (q := p) hp4
  obtain ⟨N, hN, hN4⟩ := hg.1.1
  have l1 := R_ml_le (N := R_hs f) (s := 20)
  have l3 : R_hs f = N := i32_nat hN
  have h1 : R_ok (R_sendWatch0 f p) := by
    unfold R_sendWatch0
    refine R_msg_ok (hg.1.of ?_ (fun _ => ?_) (fun _ => ?_)) ?_ hc hc8
    · rw [rf_ui_ne (by omega), rf_ui_ne (by omega)]
    · rw [rf_ui_ne (by omega), rf_ui_ne (by omega)]
    · rw [rf_ui_ne (by omega), rf_ui_ne (by omega)]
    · rw [List.length_append, List.length_append, R_me_len]
      show 20 + (_ + 12) ≤ 700
      omega
  unfold R_sendWatch
  exact h1.of (by rw [rf_ui_ne (by omega), rf_ui_ne (by omega)]) (fun _ => by rw [rf_ui_ne (by omega), rf_ui_ne (by omega)]) (fun _ => by rw [rf_ui_ne (by omega), rf_ui_ne (by omega)])
theorem R_bopen_o {q j : Nat} (h : q ∉ [2, 31, 32, 34, 65, 66]) (hp : ¬ ((q = 15 ∨ q = 16 ∨ q = 17 ∨ q = 19 ∨ q = 21) ∧ j = p)) : (R_bopen f p).1 q j = f.1 q j := by
  unfold R_bopen
  split
  · rw [rf_ui_ne (by omega), rf_ui_ne (by omega)]
  · rw [R_sendWatch_o h (by omega), rf_ui_ne (by omega), rf_ui_ne (by omega)]
theorem R_bopen_v : ((R_bopen f p).1 15 p = 1 ∨ ((R_bopen f p).1 15 p = 4 ∧ (R_bopen f p).1 19 p = 0)) ∧ ((R_bopen f p).1 16 p = f.1 16 p ∨ (R_bopen f p).1 16 p = 1) ∧ ((R_bopen f p).1 34 0 = f.1 34 0 ∨ (R_bopen f p).1 34 0 = f.1 34 0 + 1) := by
  unfold R_bopen
  split
  · refine ⟨Or.inl ?_, Or.inl ?_, Or.inl ?_⟩
    · rw [rf_ui_ne (by omega), rf_ui_eq]
    · rw [rf_ui_ne (by omega), rf_ui_ne (by omega)]
    · rw [rf_ui_ne (by omega), rf_ui_ne (by omega)]
  · refine ⟨Or.inr ⟨?_, ?_⟩, Or.inr R_sendWatch_v.2, Or.inr ?_⟩
    · rw [R_sendWatch_o (by decide) (by omega), rf_ui_ne (by omega), rf_ui_eq]
    · rw [R_sendWatch_o (by decide) (by omega), rf_ui_eq]
    · rw [R_sendWatch_v.1, rf_ui_ne (by omega), rf_ui_ne (by omega)]
theorem R_bopen_l : (R_bopen f p).2 = f.2 := by
  unfold R_bopen
  split
  · rfl
  · rw [R_sendWatch_l]; rfl
theorem R_bopen_gok (hg : R_gok f n a) (hp4 : p < 4) : R_gok (R_bopen f p) n a := by
  refine hg.of ?_ (fun q j hq => R_bopen_o (by simp only [List.mem_cons, List.not_mem_nil, or_false] at hq ⊢; omega) (by simp only [List.mem_cons, List.not_mem_nil, or_false] at hq; omega))
  unfold R_bopen
  split
  · exact hg.1.of (by rw [rf_ui_ne (by omega), rf_ui_ne (by omega)]) (fun _ => by rw [rf_ui_ne (by omega), rf_ui_ne (by omega)]) (fun _ => by rw [rf_ui_ne (by omega), rf_ui_ne (by omega)])
  · exact R_sendWatch_ok ((hg.u (by decide)).u (by decide)) hp4
/-- the state alone of a PEER that was not open -/
theorem enter_o {q j : Nat} (h : ¬ ((q = 11 ∨ q = 12) ∧ j = p)) : (R_enter f p s).1 q j = f.1 q j := by
  unfold R_enter
  rw [rf_ui_ne (by omega), rf_ui_ne (by omega)]
theorem enter_v : (R_enter f p s).1 11 p = s := by
  unfold R_enter
  rw [rf_ui_ne (by omega), rf_ui_eq]
/-- a connection of nobody's ends -/
theorem PS.shut0 (hS : PS f n a) (c1 : 1 ≤ c) (c2 : c ≤ 8) (h27 : f.1 27 c = 0) : PS (R_shut0 f c) n a := by
  have o : ∀ q j, ¬ ((q = 26 ∨ q = 27 ∨ q = 28 ∨ q = 30) ∧ j = c) → (R_shut0 f c).1 q j = f.1 q j := fun q j h => R_shut0_o h
  obtain ⟨v26, v27, v28, v30⟩ := R_shut0_v (f := f) (c := c)
  have z0 : (0 : Int32).toInt = ((0 : Nat) : Int) := by decide
  obtain ⟨sg, sc, sp, sq, s5, s6, s7⟩ := hS
  refine ⟨sg.of (sg.1.of (o 6 0 (by omega)) (fun _ => o 33 _ (by omega)) (fun _ => o 32 _ (by omega))) (fun q j hq => o q j (by simp only [List.mem_cons, List.not_mem_nil, or_false] at hq; omega)), fun c' c1' c2' => ?_, fun p hp => ?_, fun i hi => (sq i hi).of ⟨o 54 i (by omega), o 55 i (by omega), o 58 i (by omega), rfl⟩ (fun u _ _ _ => ⟨o 11 u (by omega), o 13 u (by omega), o 14 u (by omega)⟩), fun p hp => (s5 p hp).of (o 22 p (by omega)) (o 15 p (by omega)) (o 19 p (by omega)), fun c' c1' c2' => ?_, fun i hi => by rw [o 55 i (by omega), o 34 0 (by omega)]; exact s7 i hi⟩
  · by_cases e : c' = c
    · subst e
      exact ⟨0, 0, 0, ⟨by rw [v26]; exact z0, by omega⟩, ⟨by rw [v27]; exact z0, by omega⟩, ⟨by rw [v28]; exact z0, by omega⟩, fun _ => ⟨rfl, rfl, v30⟩, ⟨fun _ => rfl, fun _ => rfl⟩, fun z => by omega, fun z => by omega, fun z => by omega⟩
    · exact (sc c' c1' c2').of (fun q hq => o q c' (by omega)) (fun j _ _ => ⟨fun _ => o 13 j (by omega), fun _ => o 14 j (by omega)⟩)
  · refine (sp p hp).of (fun q hq => o q p (by simp only [List.mem_cons, List.not_mem_nil, or_false] at hq; omega)) (fun c' c1' c2' ec q hq => o q c' (fun z => ?_))
    rw [z.2, h27, ofN_0] at ec
    have := ofN_inj (by omega) (by have := sg.2.2.1; omega) ec
    omega
  · by_cases e : c' = c
    · subst e
      exact Or.inl (by rw [v30]; decide)
    · exact (s6 c' c1' c2').of (o 30 c' (by omega)) (fun j => o 29 j (by omega))
end JxDrop
