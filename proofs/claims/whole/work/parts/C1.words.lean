/-! WORDS OF FOUR OCTETS: a message as the class makes it, as the reference makes it -/
def ow (v : Int32) : List Int8 := [(v >>> 24).toInt8, (v >>> 16).toInt8, (v >>> 8).toInt8, (v >>> 0).toInt8]
def om (bs : List Int32) : List Int8 := bs.map Int32.toInt8
/-- n words of w show these octets, but for the first four -/
def dq (w : Nat → Int32) (n : Nat) (os : List Int8) : Prop := os.length = 4 * n ∧ ∀ j x, 4 ≤ j → os[j]? = some x → cn_pk w j = x
theorem cn_pk_0 (w : Nat → Int32) (n : Nat) : cn_pk w (4 * n) = (w n >>> 24).toInt8 := by
  unfold cn_pk
  rw [show 4 * n / 4 = n by omega, show 4 * n % 4 = 0 by omega]
  rfl
theorem cn_pk_1 (w : Nat → Int32) (n : Nat) : cn_pk w (4 * n + 1) = (w n >>> 16).toInt8 := by
  unfold cn_pk
  rw [show (4 * n + 1) / 4 = n by omega, show (4 * n + 1) % 4 = 1 by omega]
  rfl
theorem cn_pk_2 (w : Nat → Int32) (n : Nat) : cn_pk w (4 * n + 2) = (w n >>> 8).toInt8 := by
  unfold cn_pk
  rw [show (4 * n + 2) / 4 = n by omega, show (4 * n + 2) % 4 = 2 by omega]
  rfl
theorem cn_pk_3 (w : Nat → Int32) (n : Nat) : cn_pk w (4 * n + 3) = (w n >>> 0).toInt8 := by
  unfold cn_pk
  rw [show (4 * n + 3) / 4 = n by omega, show (4 * n + 3) % 4 = 3 by omega]
  rfl
theorem cn_pk_eq {w w' : Nat → Int32} {j : Nat} (h : w' (j / 4) = w (j / 4)) : cn_pk w' j = cn_pk w j := by
  unfold cn_pk
  rw [h]
theorem om_app (a c : List Int32) : om (a ++ c) = om a ++ om c := List.map_append
theorem dq.of {w w' : Nat → Int32} {n : Nat} {os : List Int8} (h : dq w n os) (hw : ∀ i, 1 ≤ i → i < n → w' i = w i) : dq w' n os := by
  refine ⟨h.1, fun j x hj hx => ?_⟩
  have hl := (List.getElem?_eq_some_iff.mp hx).1
  rw [cn_pk_eq (w := w) (hw _ (by omega) (by have := h.1; omega))]
  exact h.2 j x hj hx
theorem ow_get {w : Nat → Int32} {n j : Nat} {x : Int8} (h : (ow (w n))[j]? = some x) : cn_pk w (4 * n + j) = x := by
  unfold ow at h
  match j, h with
  | 0, h => rw [Nat.add_zero, cn_pk_0]; simpa using h
  | 1, h => rw [cn_pk_1]; simpa using h
  | 2, h => rw [cn_pk_2]; simpa using h
  | 3, h => rw [cn_pk_3]; simpa using h
  | j + 4, h => simp at h
theorem dq.app {w : Nat → Int32} {n k : Nat} {os cs : List Int8} (h : dq w n os) (hc : cs.length = 4 * k) (hcs : ∀ j x, cs[j]? = some x → cn_pk w (4 * n + j) = x) : dq w (n + k) (os ++ cs) := by
  refine ⟨by rw [List.length_append, h.1, hc]; omega, fun j x hj hx => ?_⟩
  by_cases hl : j < 4 * n
  · rw [List.getElem?_append_left (by rw [h.1]; exact hl)] at hx
    exact h.2 j x hj hx
  · rw [List.getElem?_append_right (by rw [h.1]; omega), h.1] at hx
    have := hcs _ x hx
    rwa [show 4 * n + (j - 4 * n) = j by omega] at this
theorem dq.w {w : Nat → Int32} {n : Nat} {os : List Int8} (h : dq w n os) : dq w (n + 1) (os ++ ow (w n)) := h.app (k := 1) rfl (fun _ _ hx => ow_get hx)
/-- the octets of a message as it goes out: its LENGTH is in it -/
def R_fo (bs : List Int32) (j : Nat) : Int32 := if j = 1 then 0 else if j = 2 then (Int32.ofNat bs.length >>> 8).toInt8.toInt32 else if j = 3 then (Int32.ofNat bs.length).toInt8.toInt32 else (bs.getD j 0).toInt8.toInt32
section JxWords
variable {f : jx_F} {c : Int32} {cN a z : Nat} {bs : List Int32}
theorem R_b_65 {y : Int32} {s q : Nat} (hs : (f.1 66 0).toInt = (s : Int)) : (R_b f y).1 65 q = if q = s then y.toInt8.toInt32 else f.1 65 q := by
  unfold R_b
  rw [rf_ui_ne (by simp), i32_nat hs]
  split
  · rename_i e; rw [e]; exact rf_ui_eq
  · rename_i e; exact rf_ui_ne (fun h => e h.2)
theorem R_bs_65 : ∀ (bs : List Int32) (f : jx_F) (s : Nat), (f.1 66 0).toInt = (s : Int) → s + bs.length ≤ 700 → (∀ i x, bs[i]? = some x → (R_bs f bs).1 65 (s + i) = x.toInt8.toInt32) ∧ ∀ q, q < s → (R_bs f bs).1 65 q = f.1 65 q
  | [], f, s, _, _ => ⟨fun i x hx => by simp at hx, fun q _ => rfl⟩
  | y :: bs, f, s, hs, hl => by
    rw [List.length_cons] at hl
    have hs1 : ((R_b f y).1 66 0).toInt = ((s + 1 : Nat) : Int) := by
      rw [R_b_size, i32_add (c := 1) hs (by decide) (by omega) (by omega)]
      omega
    obtain ⟨h1, h2⟩ := R_bs_65 bs (R_b f y) (s + 1) hs1 (by omega)
    refine ⟨fun i x hx => ?_, fun q hq => ?_⟩
    · show (R_bs (R_b f y) bs).1 65 (s + i) = _
      match i, hx with
      | 0, hx =>
        rw [Nat.add_zero, h2 s (by omega), R_b_65 hs, if_pos rfl]
        simp at hx
        rw [hx]
      | i + 1, hx =>
        have := h1 i x (by simpa using hx)
        rwa [show s + 1 + i = s + (i + 1) by omega] at this
    · show (R_bs (R_b f y) bs).1 65 q = _
      rw [h2 q (by omega), R_b_65 hs, if_neg (by omega)]
/-- what the copying does to the row that waits -/
theorem R_cp_31 (hc : c.toInt = (cN : Int)) (hc8 : cN ≤ 8) (ha2 : a < 2000) : ∀ (r j z : Nat) (k : Int32) (f : jx_F), k.toInt = (j : Int) → j + r ≤ 700 → (f.1 33 cN).toInt = (a : Int) → (f.1 32 cN).toInt = (z : Int) → z + r ≤ 2000 →
    (∀ i, i < r → (R_cp c r k f).1 31 (2000 * cN + (a + z + i) % 2000) = vp_nar .byte (f.1 65 (j + i))) ∧ ∀ q, (∀ i, i < r → q ≠ 2000 * cN + (a + z + i) % 2000) → (R_cp c r k f).1 31 q = f.1 31 q
  | 0, _, _, _, _, _, _, _, _, _ => ⟨fun i hi => by omega, fun _ _ => rfl⟩
  | r + 1, j, z, k, f, hk, hj, ha, hz, hl => by
    have hcn := i32_nat hc
    have hix := R_ix_i (f := f) hc hc8 ha hz ha2 (by omega)
    have hixn := i32_nat hix
    have hkn := i32_nat hk
    have hk1 : (k + 1).toInt = ((j + 1 : Nat) : Int) := by rw [i32_add (c := 1) hk (by decide) (by omega) (by omega)]; omega
    have h33 : ((R_c1 c f k).1 33 cN).toInt = (a : Int) := by rw [R_c1_o (by decide) (by decide)]; exact ha
    have h32 : ((R_c1 c f k).1 32 cN).toInt = ((z + 1 : Nat) : Int) := by
      unfold R_c1
      rw [hcn, rf_ui_eq, i32_add (c := 1) hz (by decide) (by omega) (by omega)]
      omega
    obtain ⟨h1, h2⟩ := R_cp_31 hc hc8 ha2 r (j + 1) (z + 1) (k + 1) (R_c1 c f k) hk1 (by omega) h33 h32 (by omega)
    have h31 : ∀ q, (R_c1 c f k).1 31 q = if q = 2000 * cN + (a + z) % 2000 then vp_nar .byte (f.1 65 j) else f.1 31 q := by
      intro q
      unfold R_c1
      rw [rf_ui_ne (by simp), hixn, hkn]
      split
      · rename_i e; rw [e]; exact rf_ui_eq
      · rename_i e; exact rf_ui_ne (fun h => e h.2)
    have h65 : ∀ q, (R_c1 c f k).1 65 q = f.1 65 q := fun q => R_c1_o (by decide) (by decide)
    refine ⟨fun i hi => ?_, fun q hq => ?_⟩
    · show (R_cp c r (k + 1) (R_c1 c f k)).1 31 _ = _
      match i, hi with
      | 0, _ =>
        rw [Nat.add_zero, Nat.add_zero, h2 _ (fun i hi e => by omega), h31, if_pos rfl]
      | i + 1, hi =>
        have := h1 i (by omega)
        rw [h65, show j + 1 + i = j + (i + 1) by omega, show a + (z + 1) + i = a + z + (i + 1) by omega] at this
        exact this
    · show (R_cp c r (k + 1) (R_c1 c f k)).1 31 q = _
      rw [h2 q (fun i hi e => hq (i + 1) (by omega) (by omega)), h31, if_neg (fun e => hq 0 (by omega) (by rw [Nat.add_zero]; exact e))]
/-- a message goes out: what that changes -/
theorem R_msg_sp (hc : c.toInt = (cN : Int)) (hc8 : cN ≤ 8) (hl : bs.length ≤ 700) (ha : (f.1 33 cN).toInt = (a : Int)) (ha2 : a < 2000) (hz : (f.1 32 cN).toInt = (z : Int)) (hz2 : z ≤ 2000) :
    (z + bs.length ≤ 2000 ∧ (R_msg f bs c).1 2 0 = f.1 2 0 ∧ ((R_msg f bs c).1 32 cN).toInt = ((z + bs.length : Nat) : Int) ∧ (∀ q, q ≠ cN → (R_msg f bs c).1 32 q = f.1 32 q) ∧ (∀ i, i < bs.length → (R_msg f bs c).1 31 (2000 * cN + (a + z + i) % 2000) = R_fo bs i) ∧ ∀ q, (∀ i, i < bs.length → q ≠ 2000 * cN + (a + z + i) % 2000) → (R_msg f bs c).1 31 q = f.1 31 q) ∨
    (¬ z + bs.length ≤ 2000 ∧ (R_msg f bs c).1 2 0 = f.1 2 0 + 1 ∧ (∀ q, (R_msg f bs c).1 32 q = f.1 32 q) ∧ ∀ q, (R_msg f bs c).1 31 q = f.1 31 q) := by
  obtain ⟨g, hg⟩ : ∃ g, g = R_bs (rf_ui f 66 0 0) bs := ⟨_, rfl⟩
  have hs0 : ((rf_ui f 66 0 0).1 66 0).toInt = ((0 : Nat) : Int) := by rw [rf_ui_eq]; decide
  have hn : (g.1 66 0).toInt = (bs.length : Int) := by
    have := R_bs_size bs _ 0 hs0 (by omega)
    rw [← hg] at this
    rw [this]
    omega
  have hnn := i32_nat hn
  have hne : g.1 66 0 = Int32.ofNat bs.length := i32_eq (x := g.1 66 0) (n := bs.length) hn (by omega)
  have og : ∀ k j, k ≠ 65 → k ≠ 66 → g.1 k j = f.1 k j := fun k j e1 e2 => by rw [hg, R_bs_o e1 e2, rf_ui_ne (fun e => e2 e.1)]
  have hcn := i32_nat hc
  have e65 : ∀ i x, bs[i]? = some x → g.1 65 i = x.toInt8.toInt32 := by
    intro i x hx
    have := (R_bs_65 bs _ 0 hs0 (by omega)).1 i x hx
    rw [← hg, Nat.zero_add] at this
    exact this
  have e3 : ∀ i, i < bs.length → vp_nar .byte ((R_go3 g).1 65 i) = R_fo bs i := by
    intro i hi
    unfold R_go3 R_fo
    by_cases h3 : i = 3
    · subst h3
      rw [rf_ui_eq, nar_b, if_neg (by omega), if_neg (by omega), if_pos rfl, hne]
    · rw [rf_ui_ne (by omega)]
      by_cases h2 : i = 2
      · subst h2
        rw [rf_ui_eq, nar_b, if_neg (by omega), if_pos rfl, hne]
      · rw [rf_ui_ne (by omega)]
        by_cases h1 : i = 1
        · subst h1
          rw [rf_ui_eq, nar_0, if_pos rfl]
        · rw [rf_ui_ne (by omega), if_neg h1, if_neg h2, if_neg h3, e65 i _ (List.getElem?_eq_getElem hi), nar_b, List.getD_eq_getElem?_getD, List.getElem?_eq_getElem hi]
          rfl
  have g33 : ((R_go3 g).1 33 cN).toInt = (a : Int) := by rw [R_go3_o (by decide), og 33 cN (by decide) (by decide)]; exact ha
  have g32 : ((R_go3 g).1 32 cN).toInt = (z : Int) := by rw [R_go3_o (by decide), og 32 cN (by decide) (by decide)]; exact hz
  have g66 : ((R_go3 g).1 66 0).toInt = (bs.length : Int) := by rw [R_go3_o (by decide)]; exact hn
  have hsum : ((R_go3 g).1 32 cN + (R_go3 g).1 66 0).toInt = ((z + bs.length : Nat) : Int) := by rw [i32_add g32 g66 (by omega) (by omega)]; omega
  have e2000 : (2000 : Int32).toInt = 2000 := by decide
  unfold R_msg
  rw [← hg]
  unfold R_go
  rw [hcn, hnn]
  by_cases h : z + bs.length ≤ 2000
  · rw [if_pos (by rw [Int32.le_iff_toInt_le, hsum, e2000]; omega)]
    obtain ⟨h1, h2⟩ := R_cp_31 hc hc8 ha2 bs.length 0 z 0 (R_go3 g) (by decide) (by omega) g33 g32 h
    refine Or.inl ⟨h, ?_, ?_, fun q hq => ?_, fun i hi => ?_, fun q hq => ?_⟩
    · rw [R_cp_o (by decide) (by decide), R_go3_o (by decide), og 2 0 (by decide) (by decide)]
    · exact R_cp_s hcn bs.length z 0 _ g32 h
    · rw [R_cp_n hcn hq, R_go3_o (by decide), og 32 q (by decide) (by decide)]
    · rw [h1 i hi, Nat.zero_add, e3 i hi]
    · rw [h2 q hq, R_go3_o (by decide), og 31 q (by decide) (by decide)]
  · rw [if_neg (by rw [Int32.le_iff_toInt_le, hsum, e2000]; omega)]
    refine Or.inr ⟨h, ?_, fun q => ?_, fun q => ?_⟩
    · rw [rf_ui_eq, R_go3_o (by decide), og 2 0 (by decide) (by decide)]
    · rw [rf_ui_ne (by simp), R_go3_o (by decide), og 32 q (by decide) (by decide)]
    · rw [rf_ui_ne (by simp), R_go3_o (by decide), og 31 q (by decide) (by decide)]
end JxWords
