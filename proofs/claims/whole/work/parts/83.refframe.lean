/-! THE REFERENCE: what sending leaves as it is -/
section JxRefframe
variable {f : jx_F} {c : Int32} {cN k j : Nat}
theorem R_c1_o {i : Int32} (h1 : k ≠ 31) (h2 : k ≠ 32) : (R_c1 c f i).1 k j = f.1 k j := by
  unfold R_c1
  rw [rf_ui_ne (fun e => h2 e.1), rf_ui_ne (fun e => h1 e.1)]
theorem R_cp_o (h1 : k ≠ 31) (h2 : k ≠ 32) : ∀ (r : Nat) (i : Int32) (f : jx_F), (R_cp c r i f).1 k j = f.1 k j
  | 0, _, _ => rfl
  | r + 1, i, f => (R_cp_o h1 h2 r (i + 1) (R_c1 c f i)).trans (R_c1_o h1 h2)
theorem R_cp_l : ∀ (r : Nat) (i : Int32) (f : jx_F), (R_cp c r i f).2 = f.2
  | 0, _, _ => rfl
  | r + 1, i, f => R_cp_l r (i + 1) (R_c1 c f i)
theorem R_cp_n (hc : c.toNatClampNeg = cN) (hj : j ≠ cN) : ∀ (r : Nat) (i : Int32) (f : jx_F), (R_cp c r i f).1 32 j = f.1 32 j
  | 0, _, _ => rfl
  | r + 1, i, f => (R_cp_n hc hj r (i + 1) (R_c1 c f i)).trans (by
    unfold R_c1
    rw [rf_ui_ne (fun e => hj (by rw [← hc]; exact e.2)), rf_ui_ne (by simp)])
theorem R_cp_s (hc : c.toNatClampNeg = cN) : ∀ (r z : Nat) (i : Int32) (f : jx_F), (f.1 32 cN).toInt = (z : Int) → z + r ≤ 2000 → ((R_cp c r i f).1 32 cN).toInt = ((z + r : Nat) : Int)
  | 0, _, _, _, h, _ => h
  | r + 1, z, i, f, h, hl => by
    have e : ((R_c1 c f i).1 32 cN).toInt = ((z + 1 : Nat) : Int) := by
      unfold R_c1
      rw [hc, rf_ui_eq, i32_add (c := 1) h (by decide) (by omega) (by omega)]
      omega
    have := R_cp_s hc r (z + 1) (i + 1) (R_c1 c f i) e (by omega)
    rw [show R_cp c (r + 1) i f = R_cp c r (i + 1) (R_c1 c f i) from rfl, this]
    omega
theorem R_go_o (h1 : k ≠ 65) (h2 : k ≠ 2) (h3 : k ≠ 31) (h4 : k ≠ 32) : (R_go f c).1 k j = f.1 k j := by
  unfold R_go
  split
  · rw [R_cp_o h3 h4, R_go3_o h1]
  · rw [rf_ui_ne (fun e => h2 e.1), R_go3_o h1]
theorem R_go_l : (R_go f c).2 = f.2 := by
  unfold R_go
  split
  · rw [R_cp_l]; rfl
  · rfl
theorem R_go_ok {n : Nat} (ho : R_ok f) (hn : (f.1 66 0).toInt = (n : Int)) (hn7 : n ≤ 700) (hc : c.toInt = (cN : Int)) (hc8 : cN ≤ 8) : R_ok (R_go f c) := by
  have hcn := i32_nat hc
  refine ⟨?_, fun b hb => ⟨?_, ?_⟩⟩
  · rw [R_go_o (by decide) (by decide) (by decide) (by decide)]; exact ho.1
  · rw [R_go_o (by decide) (by decide) (by decide) (by decide)]; exact (ho.2 b hb).1
  · obtain ⟨z, hz, hz2⟩ := (ho.2 b hb).2
    unfold R_go
    split
    · rename_i h
      by_cases e : b = cN
      · subst e
        have hz' : ((R_go3 f).1 32 b).toInt = (z : Int) := by rw [R_go3_o (by decide)]; exact hz
        have hn' : ((R_go3 f).1 66 0).toInt = (n : Int) := by rw [R_go3_o (by decide)]; exact hn
        rw [hcn, Int32.le_iff_toInt_le, i32_add hz' hn' (by omega) (by omega)] at h
        have e2 : (2000 : Int32).toInt = 2000 := by decide
        rw [e2] at h
        refine ⟨z + n, ?_, by omega⟩
        rw [i32_nat hn]
        exact R_cp_s hcn n z 0 (R_go3 f) hz' (by omega)
      · refine ⟨z, ?_, hz2⟩
        rw [R_cp_n hcn e, R_go3_o (by decide)]
        exact hz
    · refine ⟨z, ?_, hz2⟩
      rw [rf_ui_ne (by simp), R_go3_o (by decide)]
      exact hz
theorem R_msg_o {bs : List Int32} (h1 : k ≠ 65) (h2 : k ≠ 2) (h3 : k ≠ 31) (h4 : k ≠ 32) (h5 : k ≠ 66) : (R_msg f bs c).1 k j = f.1 k j := by
  unfold R_msg
  rw [R_go_o h1 h2 h3 h4, R_bs_o h1 h5, rf_ui_ne (fun e => h5 e.1)]
theorem R_msg_l {bs : List Int32} : (R_msg f bs c).2 = f.2 := by
  unfold R_msg
  rw [R_go_l, R_bs_l]
  rfl
theorem R_msg_ok {bs : List Int32} (ho : R_ok f) (hl : bs.length ≤ 700) (hc : c.toInt = (cN : Int)) (hc8 : cN ≤ 8) : R_ok (R_msg f bs c) := by
  unfold R_msg
  have hs0 : ((rf_ui f 66 0 0).1 66 0).toInt = ((0 : Nat) : Int) := by rw [rf_ui_eq]; decide
  refine R_go_ok (n := 0 + bs.length) (ho.of ?_ (fun q => ?_) (fun q => ?_)) (R_bs_size bs _ 0 hs0 (by omega)) (by omega) hc hc8
  · rw [R_bs_o (by decide) (by decide), rf_ui_ne (by simp)]
  · rw [R_bs_o (by decide) (by decide), rf_ui_ne (by simp)]
  · rw [R_bs_o (by decide) (by decide), rf_ui_ne (by simp)]
theorem R_askP_o {i p : Nat} (h1 : k ≠ 34) (h2 : k ≠ 56) (h3 : k ≠ 57) (h4 : k ≠ 54) (h5 : k ≠ 58) : (R_askP f i p).1 k j = f.1 k j := by
  unfold R_askP
  rw [rf_ui_ne (fun e => h5 e.1), rf_ui_ne (fun e => h4 e.1), rf_ui_ne (fun e => h3 e.1), rf_ui_ne (fun e => h2 e.1), rf_ui_ne (fun e => h1 e.1)]
/-- the fields that the sending of an ASK may change -/
def R_askK (k : Nat) : Bool := k == 34 || k == 56 || k == 57 || k == 54 || k == 58 || k == 55 || k == 65 || k == 66 || k == 2 || k == 31 || k == 32
theorem R_sendAsk_o {i p : Nat} (h : R_askK k = false) : (R_sendAsk f i p).1 k j = f.1 k j := by
  simp only [R_askK, Bool.or_eq_false_iff, beq_eq_false_iff_ne] at h
  unfold R_sendAsk R_inc
  rw [rf_ui_ne (fun e => by omega), R_msg_o (by omega) (by omega) (by omega) (by omega) (by omega), R_askP_o (by omega) (by omega) (by omega) (by omega) (by omega)]
theorem R_sendAsk_l {i p : Nat} : (R_sendAsk f i p).2 = f.2 := by
  unfold R_sendAsk R_inc
  show (R_msg _ _ _).2 = _
  rw [R_msg_l]
  rfl
theorem R_askT_len {g : jx_F} {i N n1 n2 n3 : Nat} (hN : N ≤ 40) (h1 : n1 ≤ 40) (h2 : n2 ≤ 40) (h3 : n3 ≤ 40) : (R_askT g i N n1 n2 n3).length ≤ 260 := by
  have l1 := R_tl_le (s := 20) (N := n1)
  have l2 := R_ml_le (N := N) (s := 20 + R_tl 20 n1)
  have l3 := R_tl_le (s := 20 + R_tl 20 n1 + R_ml N (20 + R_tl 20 n1)) (N := n2)
  have l4 := R_tl_le (s := 20 + R_tl 20 n1 + R_ml N (20 + R_tl 20 n1) + R_tl (20 + R_tl 20 n1 + R_ml N (20 + R_tl 20 n1)) n2) (N := n3)
  unfold R_askT
  rw [List.length_append, R_tx_len, List.length_append, R_me_len, List.length_append, R_tx_len, List.length_append, R_tx_len, List.length_append]
  have e1 : (R_nm 258 4).length = 12 := rfl
  have e2 : (R_nm 285 0).length = 12 := rfl
  omega
theorem R_sendAsk_ok {i p : Nat} (ho : R_ok f) (hq : R_qok f i) (hc : (R_conn f p).toInt = (cN : Int)) (hc8 : cN ≤ 8) : R_ok (R_sendAsk f i p) := by
  obtain ⟨N, hN, hN4⟩ := ho.1
  obtain ⟨n1, h1, h14⟩ := hq 50 (Or.inl rfl)
  obtain ⟨n3, h3, h34⟩ := hq 51 (Or.inr (Or.inl rfl))
  obtain ⟨n2, h2, h24⟩ := hq 52 (Or.inr (Or.inr rfl))
  unfold R_sendAsk R_inc
  have hP : R_ok (R_askP f i p) := ho.of (R_askP_o (by decide) (by decide) (by decide) (by decide) (by decide)) (fun _ => R_askP_o (by decide) (by decide) (by decide) (by decide) (by decide)) (fun _ => R_askP_o (by decide) (by decide) (by decide) (by decide) (by decide))
  have hT := R_askT_len (g := f) (i := i) hN4 h14 h24 h34
  have hM := R_msg_ok (bs := R_askH f i ++ R_askT f i (R_hs f) (R_qn f 50 i) (R_qn f 52 i) (R_qn f 51 i)) hP (by
    rw [show R_hs f = N from i32_nat hN, show R_qn f 50 i = n1 from i32_nat h1, show R_qn f 51 i = n3 from i32_nat h3, show R_qn f 52 i = n2 from i32_nat h2, List.length_append]
    have : (R_askH f i).length = 20 := rfl
    omega) hc hc8
  exact hM.of (rf_ui_ne (by simp)) (fun _ => rf_ui_ne (by simp)) (fun _ => rf_ui_ne (by simp))
end JxRefframe
