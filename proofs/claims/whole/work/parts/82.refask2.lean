/-! THE REFERENCE: an ASK is sent, or sent by another -/
def R_askP (f : jx_F) (i p : Nat) : jx_F := rf_ui (rf_ui (rf_ui (rf_ui (rf_ui f 34 0 (f.1 34 0 + 1)) 56 i (f.1 34 0)) 57 i (if f.1 55 i = 0 then f.1 34 0 else f.1 57 i)) 54 i (Int32.ofNat p)) 58 i (R_conn f p)
/-- the sizes of an ASK's texts -/
def R_qn (f : jx_F) (k i : Nat) : Nat := (f.1 k (41 * i)).toNatClampNeg
def R_askH (f : jx_F) (i : Nat) : List Int32 := R_hd (if f.1 55 i = 0 then 192 else 208) 258 4 (f.1 34 0) (if f.1 55 i = 0 then f.1 34 0 else f.1 57 i)
def R_sendAsk (f : jx_F) (i p : Nat) : jx_F := R_inc (R_msg (R_askP f i p) (R_askH f i ++ R_askT f i (R_hs f) (R_qn f 50 i) (R_qn f 52 i) (R_qn f 51 i)) (R_conn f p)) 55 i
def R_qok (f : jx_F) (i : Nat) : Prop := ∀ k, k = 50 ∨ k = 51 ∨ k = 52 → ∃ n : Nat, (f.1 k (41 * i)).toInt = (n : Int) ∧ n ≤ 40
theorem R_askT_eq {f f' : jx_F} {i N n1 n2 n3 : Nat} (h : ∀ k j, k ∈ [5, 6, 50, 51, 52] → f'.1 k j = f.1 k j) : R_askT f' i N n1 n2 n3 = R_askT f i N n1 n2 n3 := by
  unfold R_askT
  rw [R_tx_eq (f := f) (fun q => h 50 q (by decide)), R_tx_eq (f := f) (fun q => h 51 q (by decide)), R_tx_eq (f := f) (fun q => h 52 q (by decide)), R_me_eq (f := f) (fun q => h 5 q (by decide)) (h 6 0 (by decide)), h 50 _ (by decide), h 51 _ (by decide), h 52 _ (by decide)]
section JxRefask2
variable {th : Nat → Nat} {σ0 : jx_S} {m d : Nat} {f : jx_F} {Q : Option Value → jx_F → Prop}
set_option maxHeartbeats 1000000 in
theorem r_sendAsk_0 {i p : Int32} {iN pN cN : Nat} (ht : f.1 55 iN = 0) (hi : i.toInt = (iN : Int)) (hi6 : iN < 64) (hp : p.toInt = (pN : Int)) (hp4 : pN < 4) (ho : R_ok f) (hq : R_qok f iN) (hc : (R_conn f pN).toInt = (cN : Int)) (hc8 : cN ≤ 8) : rfc th σ0 m (d + 5) 204 [.ref 0, .int i, .int p] f (fun r f' => r = none ∧ f' = R_sendAsk f iN pN) := by
  have hin := i32_nat hi
  have hpn := i32_nat hp
  have hii : jx_in i 64 := jx_in_nat hi hi6
  have hpp : p = Int32.ofNat pN := Int32.toInt_inj.mp (by rw [i32_ofNat (by omega), hp])
  obtain ⟨⟨N, hN, hN4⟩, hok⟩ := ho
  obtain ⟨⟨a, ha, ha2⟩, z, hz, hz2⟩ := hok cN (by omega)
  obtain ⟨n1, h1, h14⟩ := hq 50 (Or.inl rfl)
  obtain ⟨n3, h3, h34⟩ := hq 51 (Or.inr (Or.inl rfl))
  obtain ⟨n2, h2, h24⟩ := hq 52 (Or.inr (Or.inr rfl))
  refine rf_go dt_204 100 [(96, [0, 1])] dt_204_k (by decide +kernel) rfl ?_
  intro C J hC hJ
  conv => whnf
  refine hC _ _ _ _ ((r_nextHop.up (show d + 1 ≤ d + 4 by omega)).mp ?_)
  rintro r f1 ⟨rfl, hf1⟩
  conv => whnf
  refine ⟨hii, ?_⟩
  conv => whnf
  try rw [hin]
  obtain ⟨f2, hf2⟩ : ∃ f2, f2 = rf_ui f1 56 iN (f.1 34 0) := ⟨_, rfl⟩
  rw [← hf2]
  have o2 : ∀ k j, k ≠ 34 → k ≠ 56 → f2.1 k j = f.1 k j := fun k j e1 e2 => by rw [hf2, rf_ui_ne (fun e => e2 e.1), hf1, rf_ui_ne (fun e => e1 e.1)]
  have e56 : f2.1 56 iN = f.1 34 0 := by rw [hf2]; exact rf_ui_eq
  refine ⟨hii, ?_⟩
  conv => whnf
  try rw [hin]
  rw [o2 55 iN (by decide) (by decide)]
  refine jx_no (show ¬ ¬ f.1 55 iN = 0 from fun e => e ht) ?_
  conv => whnf
  refine ⟨hii, ?_⟩
  conv => whnf
  refine ⟨hii, ?_⟩
  conv => whnf
  try rw [hin]
  obtain ⟨f3, hf3⟩ : ∃ f3, f3 = rf_ui f2 57 iN (f2.1 56 iN) := ⟨_, rfl⟩
  rw [← hf3]
  have e57 : f3.1 57 iN = (f.1 34 0) := by rw [hf3, rf_ui_eq]; exact e56
  have o3 : ∀ k j, k ≠ 34 → k ≠ 56 → k ≠ 57 → f3.1 k j = f.1 k j := fun k j e1 e2 e3 => by rw [hf3, rf_ui_ne (fun e => e3 e.1), o2 k j e1 e2]
  refine ⟨hii, ?_⟩
  conv => whnf
  try rw [hin]
  obtain ⟨f4, hf4⟩ : ∃ f4, f4 = rf_ui f3 54 iN p := ⟨_, rfl⟩
  rw [← hf4]
  have o4 : ∀ k j, k ≠ 34 → k ≠ 56 → k ≠ 57 → k ≠ 54 → f4.1 k j = f.1 k j := fun k j e1 e2 e3 e4 => by rw [hf4, rf_ui_ne (fun e => e4 e.1), o3 k j e1 e2 e3]
  refine hC _ _ _ _ (((r_conn hp hp4).up (show d + 1 ≤ d + 4 by omega)).mp ?_)
  rintro r f4' ⟨rfl, hf4'⟩
  rw [hf4', R_conn_eq (f := f) (o4 11 pN (by decide) (by decide) (by decide) (by decide)) (o4 13 pN (by decide) (by decide) (by decide) (by decide)) (o4 14 pN (by decide) (by decide) (by decide) (by decide))]
  conv => whnf
  refine ⟨hii, ?_⟩
  conv => whnf
  try rw [hin]
  obtain ⟨f5, hf5⟩ : ∃ f5, f5 = rf_ui f4 58 iN (R_conn f pN) := ⟨_, rfl⟩
  rw [← hf5]
  have o5 : ∀ k j, k ≠ 34 → k ≠ 56 → k ≠ 57 → k ≠ 54 → k ≠ 58 → f5.1 k j = f.1 k j := fun k j e1 e2 e3 e4 e5 => by rw [hf5, rf_ui_ne (fun e => e5 e.1), o4 k j e1 e2 e3 e4]
  have d5 : ∀ k, k ∈ [5, 6, 50, 51, 52, 55, 32, 33] → ∀ j, f5.1 k j = f.1 k j := by
    intro k hk j
    simp only [List.mem_cons, List.not_mem_nil, or_false] at hk
    rcases hk with rfl | rfl | rfl | rfl | rfl | rfl | rfl | rfl <;> exact o5 _ j (by decide) (by decide) (by decide) (by decide) (by decide)
  have e565 : f5.1 56 iN = f.1 34 0 := by rw [hf5, rf_ui_ne (by simp), hf4, rf_ui_ne (by simp), hf3, rf_ui_ne (by simp)]; exact e56
  have e575 : f5.1 57 iN = (f.1 34 0) := by rw [hf5, rf_ui_ne (by simp), hf4, rf_ui_ne (by simp)]; exact e57
  have e585 : f5.1 58 iN = R_conn f pN := by rw [hf5]; exact rf_ui_eq
  refine ⟨hii, ?_⟩
  conv => whnf
  try rw [hin]
  rw [d5 55 (by decide) iN]
  refine jx_no (show ¬ ¬ f.1 55 iN = 0 from fun e => e ht) ?_
  conv => whnf
  refine ⟨hii, ?_⟩
  conv => whnf
  refine ⟨hii, ?_⟩
  conv => whnf
  try rw [hin]
  rw [e565, e575]
  refine hC _ _ _ _ ((r_head.up (show d + 2 ≤ d + 4 by omega)).mp ?_)
  rintro r g ⟨rfl, hg⟩
  have hs0 : ((rf_ui f5 66 0 0).1 66 0).toInt = ((0 : Nat) : Int) := by rw [rf_ui_eq]; decide
  have hs : (g.1 66 0).toInt = ((20 : Nat) : Int) := by rw [hg]; exact R_sz (bs := R_hd 192 258 4 (f.1 34 0) (f.1 34 0)) hs0 rfl (by omega)
  have dg : ∀ k, k ∈ [5, 6, 50, 51, 52, 55, 32, 33] → ∀ j, g.1 k j = f.1 k j := by
    intro k hk j
    have h65 : k ≠ 65 ∧ k ≠ 66 := by
      simp only [List.mem_cons, List.not_mem_nil, or_false] at hk
      omega
    rw [hg, R_bs_o h65.1 h65.2, rf_ui_ne (fun e => h65.2 e.1), d5 k hk j]
  have g58 : g.1 58 iN = R_conn f pN := by rw [hg, R_bs_o (by decide) (by decide), rf_ui_ne (by simp)]; exact e585
  conv => whnf
  refine hJ _ _ _ _ (r_askB (N := N) (n1 := n1) (n2 := n2) (n3 := n3) (cN := cN) (a := a) (z := z) hi hi6 hs (by rw [dg 6 (by decide)]; exact hN) hN4 (by rw [dg 50 (by decide)]; exact h1) h14 (by rw [dg 52 (by decide)]; exact h2) h24 (by rw [dg 51 (by decide)]; exact h3) h34 (by rw [g58]; exact hc) hc8 (by rw [dg 33 (by decide)]; exact ha) ha2 (by rw [dg 32 (by decide)]; exact hz) hz2 ⟨rfl, ?_⟩)
  rw [g58, R_askT_eq (f := f) (fun k j hk => dg k (by simp only [List.mem_cons, List.not_mem_nil, or_false] at hk ⊢; omega) j)]
  have eP : f5 = R_askP f iN pN := by
    unfold R_askP
    rw [hf5, hf4, hf3, hf2, hf1, hpp, if_pos ht]
    rw [rf_ui_eq]
  unfold R_sendAsk R_msg R_askH
  rw [R_bs_app, if_pos ht, if_pos ht, ← eP, show R_hs f = N from i32_nat hN, show R_qn f 50 iN = n1 from i32_nat h1, show R_qn f 51 iN = n3 from i32_nat h3, show R_qn f 52 iN = n2 from i32_nat h2, hg]
set_option maxHeartbeats 1000000 in
theorem r_sendAsk_1 {i p : Int32} {iN pN cN : Nat} (ht : ¬ f.1 55 iN = 0) (hi : i.toInt = (iN : Int)) (hi6 : iN < 64) (hp : p.toInt = (pN : Int)) (hp4 : pN < 4) (ho : R_ok f) (hq : R_qok f iN) (hc : (R_conn f pN).toInt = (cN : Int)) (hc8 : cN ≤ 8) : rfc th σ0 m (d + 5) 204 [.ref 0, .int i, .int p] f (fun r f' => r = none ∧ f' = R_sendAsk f iN pN) := by
  have hin := i32_nat hi
  have hpn := i32_nat hp
  have hii : jx_in i 64 := jx_in_nat hi hi6
  have hpp : p = Int32.ofNat pN := Int32.toInt_inj.mp (by rw [i32_ofNat (by omega), hp])
  obtain ⟨⟨N, hN, hN4⟩, hok⟩ := ho
  obtain ⟨⟨a, ha, ha2⟩, z, hz, hz2⟩ := hok cN (by omega)
  obtain ⟨n1, h1, h14⟩ := hq 50 (Or.inl rfl)
  obtain ⟨n3, h3, h34⟩ := hq 51 (Or.inr (Or.inl rfl))
  obtain ⟨n2, h2, h24⟩ := hq 52 (Or.inr (Or.inr rfl))
  refine rf_go dt_204 100 [(96, [0, 1])] dt_204_k (by decide +kernel) rfl ?_
  intro C J hC hJ
  conv => whnf
  refine hC _ _ _ _ ((r_nextHop.up (show d + 1 ≤ d + 4 by omega)).mp ?_)
  rintro r f1 ⟨rfl, hf1⟩
  conv => whnf
  refine ⟨hii, ?_⟩
  conv => whnf
  try rw [hin]
  obtain ⟨f2, hf2⟩ : ∃ f2, f2 = rf_ui f1 56 iN (f.1 34 0) := ⟨_, rfl⟩
  rw [← hf2]
  have o2 : ∀ k j, k ≠ 34 → k ≠ 56 → f2.1 k j = f.1 k j := fun k j e1 e2 => by rw [hf2, rf_ui_ne (fun e => e2 e.1), hf1, rf_ui_ne (fun e => e1 e.1)]
  have e56 : f2.1 56 iN = f.1 34 0 := by rw [hf2]; exact rf_ui_eq
  refine ⟨hii, ?_⟩
  conv => whnf
  try rw [hin]
  rw [o2 55 iN (by decide) (by decide)]
  refine jx_yes (show ¬ f.1 55 iN = 0 from ht) ?_
  conv => whnf
  refine ⟨hii, ?_⟩
  conv => whnf
  refine ⟨hii, ?_⟩
  conv => whnf
  try rw [hin]
  obtain ⟨f3, hf3⟩ : ∃ f3, f3 = rf_ui f2 57 iN (f2.1 57 iN) := ⟨_, rfl⟩
  rw [← hf3]
  have e57 : f3.1 57 iN = (f.1 57 iN) := by rw [hf3, rf_ui_eq]; exact o2 57 iN (by decide) (by decide)
  have o3 : ∀ k j, k ≠ 34 → k ≠ 56 → k ≠ 57 → f3.1 k j = f.1 k j := fun k j e1 e2 e3 => by rw [hf3, rf_ui_ne (fun e => e3 e.1), o2 k j e1 e2]
  refine ⟨hii, ?_⟩
  conv => whnf
  try rw [hin]
  obtain ⟨f4, hf4⟩ : ∃ f4, f4 = rf_ui f3 54 iN p := ⟨_, rfl⟩
  rw [← hf4]
  have o4 : ∀ k j, k ≠ 34 → k ≠ 56 → k ≠ 57 → k ≠ 54 → f4.1 k j = f.1 k j := fun k j e1 e2 e3 e4 => by rw [hf4, rf_ui_ne (fun e => e4 e.1), o3 k j e1 e2 e3]
  refine hC _ _ _ _ (((r_conn hp hp4).up (show d + 1 ≤ d + 4 by omega)).mp ?_)
  rintro r f4' ⟨rfl, hf4'⟩
  rw [hf4', R_conn_eq (f := f) (o4 11 pN (by decide) (by decide) (by decide) (by decide)) (o4 13 pN (by decide) (by decide) (by decide) (by decide)) (o4 14 pN (by decide) (by decide) (by decide) (by decide))]
  conv => whnf
  refine ⟨hii, ?_⟩
  conv => whnf
  try rw [hin]
  obtain ⟨f5, hf5⟩ : ∃ f5, f5 = rf_ui f4 58 iN (R_conn f pN) := ⟨_, rfl⟩
  rw [← hf5]
  have o5 : ∀ k j, k ≠ 34 → k ≠ 56 → k ≠ 57 → k ≠ 54 → k ≠ 58 → f5.1 k j = f.1 k j := fun k j e1 e2 e3 e4 e5 => by rw [hf5, rf_ui_ne (fun e => e5 e.1), o4 k j e1 e2 e3 e4]
  have d5 : ∀ k, k ∈ [5, 6, 50, 51, 52, 55, 32, 33] → ∀ j, f5.1 k j = f.1 k j := by
    intro k hk j
    simp only [List.mem_cons, List.not_mem_nil, or_false] at hk
    rcases hk with rfl | rfl | rfl | rfl | rfl | rfl | rfl | rfl <;> exact o5 _ j (by decide) (by decide) (by decide) (by decide) (by decide)
  have e565 : f5.1 56 iN = f.1 34 0 := by rw [hf5, rf_ui_ne (by simp), hf4, rf_ui_ne (by simp), hf3, rf_ui_ne (by simp)]; exact e56
  have e575 : f5.1 57 iN = (f.1 57 iN) := by rw [hf5, rf_ui_ne (by simp), hf4, rf_ui_ne (by simp)]; exact e57
  have e585 : f5.1 58 iN = R_conn f pN := by rw [hf5]; exact rf_ui_eq
  refine ⟨hii, ?_⟩
  conv => whnf
  try rw [hin]
  rw [d5 55 (by decide) iN]
  refine jx_yes (show ¬ f.1 55 iN = 0 from ht) ?_
  conv => whnf
  refine ⟨hii, ?_⟩
  conv => whnf
  refine ⟨hii, ?_⟩
  conv => whnf
  try rw [hin]
  rw [e565, e575]
  refine hC _ _ _ _ ((r_head.up (show d + 2 ≤ d + 4 by omega)).mp ?_)
  rintro r g ⟨rfl, hg⟩
  have hs0 : ((rf_ui f5 66 0 0).1 66 0).toInt = ((0 : Nat) : Int) := by rw [rf_ui_eq]; decide
  have hs : (g.1 66 0).toInt = ((20 : Nat) : Int) := by rw [hg]; exact R_sz (bs := R_hd 208 258 4 (f.1 34 0) (f.1 57 iN)) hs0 rfl (by omega)
  have dg : ∀ k, k ∈ [5, 6, 50, 51, 52, 55, 32, 33] → ∀ j, g.1 k j = f.1 k j := by
    intro k hk j
    have h65 : k ≠ 65 ∧ k ≠ 66 := by
      simp only [List.mem_cons, List.not_mem_nil, or_false] at hk
      omega
    rw [hg, R_bs_o h65.1 h65.2, rf_ui_ne (fun e => h65.2 e.1), d5 k hk j]
  have g58 : g.1 58 iN = R_conn f pN := by rw [hg, R_bs_o (by decide) (by decide), rf_ui_ne (by simp)]; exact e585
  conv => whnf
  refine hJ _ _ _ _ (r_askB (N := N) (n1 := n1) (n2 := n2) (n3 := n3) (cN := cN) (a := a) (z := z) hi hi6 hs (by rw [dg 6 (by decide)]; exact hN) hN4 (by rw [dg 50 (by decide)]; exact h1) h14 (by rw [dg 52 (by decide)]; exact h2) h24 (by rw [dg 51 (by decide)]; exact h3) h34 (by rw [g58]; exact hc) hc8 (by rw [dg 33 (by decide)]; exact ha) ha2 (by rw [dg 32 (by decide)]; exact hz) hz2 ⟨rfl, ?_⟩)
  rw [g58, R_askT_eq (f := f) (fun k j hk => dg k (by simp only [List.mem_cons, List.not_mem_nil, or_false] at hk ⊢; omega) j)]
  have eP : f5 = R_askP f iN pN := by
    unfold R_askP
    rw [hf5, hf4, hf3, hf2, hf1, hpp, if_neg ht]
    rw [rf_ui_ne (by simp), rf_ui_ne (by simp)]
  unfold R_sendAsk R_msg R_askH
  rw [R_bs_app, if_neg ht, if_neg ht, ← eP, show R_hs f = N from i32_nat hN, show R_qn f 50 iN = n1 from i32_nat h1, show R_qn f 51 iN = n3 from i32_nat h3, show R_qn f 52 iN = n2 from i32_nat h2, hg]
theorem r_sendAsk {i p : Int32} {iN pN cN : Nat} (hi : i.toInt = (iN : Int)) (hi6 : iN < 64) (hp : p.toInt = (pN : Int)) (hp4 : pN < 4) (ho : R_ok f) (hq : R_qok f iN) (hc : (R_conn f pN).toInt = (cN : Int)) (hc8 : cN ≤ 8) : rfc th σ0 m (d + 5) 204 [.ref 0, .int i, .int p] f (fun r f' => r = none ∧ f' = R_sendAsk f iN pN) := by
  by_cases ht : f.1 55 iN = 0
  · exact r_sendAsk_0 ht hi hi6 hp hp4 ho hq hc hc8
  · exact r_sendAsk_1 ht hi hi6 hp hp4 ho hq hc hc8
/-- a PEER that can be used -/
def R_us (f : jx_F) (p : Nat) : Prop := (f.1 11 p = 5 ∨ f.1 11 p = 6) ∧ f.1 15 p = 1
theorem r_isUsable {p : Int32} {pN : Nat} (hp : p.toInt = (pN : Int)) (hp4 : pN < 4) : rfc th σ0 m (d + 1) 203 [.ref 0, .int p] f (fun r f' => ((r = some (.int 1) ∧ R_us f pN) ∨ (r = some (.int 0) ∧ ¬ R_us f pN)) ∧ f' = f) := by
  have hpn := i32_nat hp
  have hpi : jx_in p 4 := jx_in_nat hp hp4
  refine rf_go dt_203 40 [] dt_203_k (by decide +kernel) rfl ?_
  intro C J hC hJ
  conv => whnf
  refine ⟨hpi, ?_⟩
  conv => whnf
  rw [hpn]
  refine ⟨fun (h : f.1 11 pN = 5) => ?_, fun (h : ¬ f.1 11 pN = 5) => ?_⟩
  · conv => whnf
    refine ⟨hpi, ?_⟩
    conv => whnf
    rw [hpn]
    refine ⟨fun (h2 : ¬ f.1 15 pN = 1) => ?_, fun (h2 : ¬ ¬ f.1 15 pN = 1) => ?_⟩
    · conv => whnf
      exact ⟨Or.inl rfl, Or.inr ⟨rfl, fun u => h2 u.2⟩, rfl⟩
    · conv => whnf
      exact ⟨Or.inr rfl, Or.inl ⟨rfl, Or.inl h, Decidable.not_not.mp h2⟩, rfl⟩
  · conv => whnf
    refine ⟨hpi, ?_⟩
    conv => whnf
    rw [hpn]
    refine ⟨fun (h3 : ¬ f.1 11 pN = 6) => ?_, fun (h3 : ¬ ¬ f.1 11 pN = 6) => ?_⟩
    · conv => whnf
      exact ⟨Or.inl rfl, Or.inr ⟨rfl, fun u => u.1.elim h h3⟩, rfl⟩
    · conv => whnf
      refine ⟨hpi, ?_⟩
      conv => whnf
      rw [hpn]
      refine ⟨fun (h2 : ¬ f.1 15 pN = 1) => ?_, fun (h2 : ¬ ¬ f.1 15 pN = 1) => ?_⟩
      · conv => whnf
        exact ⟨Or.inl rfl, Or.inr ⟨rfl, fun u => h2 u.2⟩, rfl⟩
      · conv => whnf
        exact ⟨Or.inr rfl, Or.inl ⟨rfl, Or.inr (Decidable.not_not.mp h3), Decidable.not_not.mp h2⟩, rfl⟩
/-- the least PEER that can be used: r are left from k on; 4: none -/
noncomputable def R_lu (f : jx_F) : Nat → Nat → Nat
  | 0, _ => 4
  | r + 1, k => @ite _ (R_us f k) (Classical.propDecidable _) k (R_lu f r (k + 1))
theorem r_lu_l {n : Nat} (hn : (f.1 7 0).toInt = (n : Int)) (hn4 : n ≤ 4) : ∀ (r k : Nat) (i : Int32), i.toInt = (k : Int) → k + r = n → (R_lu f r k ≠ 4 → R_lu f r k < n → R_us f (R_lu f r k) → Q (some (.int (Int32.ofNat (R_lu f r k)))) f) → (R_lu f r k = 4 → Q (some (.int (-1))) f) → jx_fj th (rf_g m) (rf σ0 m) (d + 1) 202 2 [(0, .ref 0), (1, .int i)] [] f Q
  | 0, k, i, hi, hk, h1, h2 => by
    refine rf_at dt_202 40 [] dt_202_k (by decide +kernel) ?_
    intro C J hC hJ
    conv => whnf
    refine jx_yes (show f.1 7 0 ≤ i by rw [Int32.le_iff_toInt_le]; omega) ?_
    conv => whnf
    exact h2 rfl
  | r + 1, k, i, hi, hk, h1, h2 => by
    refine rf_at dt_202 40 [(2, [0, 1])] dt_202_k (by decide +kernel) ?_
    intro C J hC hJ
    conv => whnf
    refine jx_no (show ¬ f.1 7 0 ≤ i by rw [Int32.le_iff_toInt_le]; omega) ?_
    conv => whnf
    refine hC _ _ _ _ ((r_isUsable hi (by omega)).mp ?_)
    rintro r' f' ⟨hcs, hf'⟩
    have hf' := hf'.symm
    subst hf'
    rcases hcs with ⟨rfl, hu⟩ | ⟨rfl, hu⟩
    · have e : R_lu f (r + 1) k = k := if_pos hu
      rw [e] at h1
      conv => whnf
      refine jx_no (show ¬ (1 : Int32) = 0 by decide) ?_
      conv => whnf
      have e2 : Int32.ofNat k = i := Int32.toInt_inj.mp (by rw [i32_ofNat (by omega), hi])
      rw [← e2]
      exact h1 (by omega) (by omega) hu
    · have e : R_lu f (r + 1) k = R_lu f r (k + 1) := if_neg hu
      rw [e] at h1 h2
      conv => whnf
      refine jx_yes (show (0 : Int32) = 0 from rfl) ?_
      conv => whnf
      have hi1 : (i + Int32.ofInt 1).toInt = ((k + 1 : Nat) : Int) := by rw [i32_add (c := 1) hi (by decide) (by omega) (by omega)]; omega
      exact hJ _ _ _ _ (r_lu_l hn hn4 r (k + 1) _ hi1 (by omega) h1 h2)
theorem r_leastUsable {n : Nat} (hn : (f.1 7 0).toInt = (n : Int)) (hn4 : n ≤ 4) : rfc th σ0 m (d + 2) 202 [.ref 0] f (fun r f' => ((R_lu f n 0 ≠ 4 ∧ R_lu f n 0 < n ∧ R_us f (R_lu f n 0) ∧ r = some (.int (Int32.ofNat (R_lu f n 0)))) ∨ (R_lu f n 0 = 4 ∧ r = some (.int (-1)))) ∧ f' = f) := by
  refine rf_go dt_202 20 [(2, [0, 1])] dt_202_k (by decide +kernel) rfl ?_
  intro C J hC hJ
  conv => whnf
  exact hJ _ _ _ _ (r_lu_l hn hn4 n 0 0 (by decide) (by omega) (fun h h' hu => ⟨Or.inl ⟨h, h', hu, rfl⟩, rfl⟩) (fun h => ⟨Or.inr ⟨h, rfl⟩, rfl⟩))
end JxRefask2
