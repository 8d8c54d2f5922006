/-! THE REFERENCE AT ITS BEGINNING, reckoned -/
def cn_m1 : jx_S := jx_mk (cn_K, 10, 0) (.inr (12, tb_df 12)) 92
def cn_rm : Option (Option Value × jx_S) := cn_call cn_th 20 3000 180 [.ref 10] cn_m1
def cn_m : jx_S := (cn_rm.getD (none, cn_m1)).2
def cn_int (σ : jx_S) (a j : Nat) : Int32 := match σ.1 a with
  | some (.inl (_, _, .inl f)) => f j
  | _ => 0
def cn_lng (σ : jx_S) (a j : Nat) : Int64 := match σ.1 a with
  | some (.inl (_, _, .inr (.inl f))) => f j
  | _ => 0
def cn_mo : List Value := [.int 0, .int 0, .int 0, .ref 11, .int 0, .ref 12, .int 6, .int 0, .ref 13, .ref 14, .ref 15, .ref 16, .ref 17, .ref 18, .ref 19, .ref 20, .ref 21, .ref 22, .ref 23, .ref 24, .ref 25, .ref 26, .ref 27, .ref 28, .ref 29, .ref 30, .ref 31, .ref 32, .ref 33, .ref 34, .ref 35, .ref 36, .ref 37, .ref 38, .int 1, .int 0, .ref 39, .ref 40, .ref 41, .ref 42, .int 0, .ref 43, .ref 44, .ref 45, .ref 46, .ref 47, .ref 48, .ref 49, .ref 50, .int 0, .ref 51, .ref 52, .ref 53, .ref 54, .ref 55, .ref 56, .ref 57, .ref 58, .ref 59, .int 0, .ref 60, .ref 61, .ref 62, .ref 63, .ref 64, .ref 65, .int 0, .int 0, .int 0, .int 0, .int 0, .int 0, .int 0, .int 0, .int 0, .int 0, .ref 66, .ref 67, .ref 68, .ref 69, .int 0, .int 0, .int 0, .int 0, .int 0, .ref 70, .ref 71, .ref 72, .int 0, .int 0, .long 0, .int 0]
theorem cn_rm_ok : cn_rm.map (fun q => (q.1, q.2.2)) = some (none, 73, 46997) := by decide +kernel
theorem cn_mo_ok : cn_o cn_m 10 = some (12, cn_mo) := by decide +kernel
theorem cn_ma_ok : ∀ i, i < 62 → cn_a cn_m (11 + i) = some (rf_t.getD (rf_i.getD i 0) 99, rf_n.getD (rf_i.getD i 0) 0, if rf_t.getD (rf_i.getD i 0) 99 = 2 then 1 else 0) := by decide +kernel
/-- its state -/
def rf_0 : jx_F := (fun k j => if rf_t.getD k 99 < 4 then cn_int cn_m (10 + rf_r.getD k 0) j else if k = 34 then 1 else if k = 6 then 6 else 0, fun k j => if rf_t.getD k 99 < 4 then cn_lng cn_m (10 + rf_r.getD k 0) j else 0)
theorem cn_mo_v : cn_mo = (List.range 92).map (rf_v 10 rf_0) := by decide +kernel
/-- what is nought at the beginning -/
theorem rf_0_z : (∀ k, k < 4 → ∀ q, q ∈ [9, 10, 11, 12, 13, 14, 15, 16, 17, 18, 19, 20, 21, 22, 23, 24, 25] → rf_0.1 q k = 0) ∧ (∀ k, k < 9 → ∀ q, q ∈ [26, 27, 28, 30, 32, 33] → rf_0.1 q k = 0) := by decide +kernel
