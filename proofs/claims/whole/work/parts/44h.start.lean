/-! THE TWO OBJECTS AT THEIR BEGINNING, reckoned -/
def cn_th (z : Nat) : Nat := if z = 100 then 8 else if z < 8 then z else 9
def cn_K (a : Nat) : Option jx_E := match a with
  | 0 => some jx_cb
  | 1 => some jx_co
  | 2 => some (jx_ci (kl 2))
  | 3 => some (jx_ci (kl 3))
  | 4 => some (jx_ci (kl 4))
  | 5 => some (jx_ci (kl 5))
  | 6 => some (jx_ci (kl 6))
  | 7 => some (jx_ci (kl 7))
  | _ => none
def cn_1 : jx_S := jx_mk (cn_K, 10, 0) (.inr (0, tb_df 0)) 13
def cn_r1 : Option (Option Value × jx_S) := cn_call cn_th 20 3000 0 [.ref 10] cn_1
def cn_2 : jx_S := (cn_r1.getD (none, cn_1)).2
def cn_o (σ : jx_S) (a : Nat) : Option (Nat × List Value) := match σ.1 a with
  | some (.inr o) => some o
  | _ => none
def cn_a (σ : jx_S) (a : Nat) : Option (Nat × Nat × Nat) := match σ.1 a with
  | some (.inl (t, n, .inl _)) => some (t, n, 0)
  | some (.inl (t, n, .inr (.inl _))) => some (t, n, 1)
  | some (.inl (t, n, .inr (.inr (.inr (.inr _))))) => some (t, n, 4)
  | _ => none
def cn_ob : List (Nat × Nat × List Value) := [(10, 0, [.ref 11, .int 0, .ref 0, .int 0, .int 0, .int 0, .ref 12, .ref 13, .ref 14, .ref 15, .ref 16, .ref 19, .ref 21]), (13, 1, [.ref 1, .int 0, .int 0]), (14, 1, [.ref 1, .int 0, .int 0]), (15, 1, [.ref 1, .int 0, .int 0]), (17, 1, [.ref 1, .int 0, .int 0]), (18, 1, [.ref 1, .int 0, .int 0]), (16, 2, [.ref 17, .ref 18]), (19, 3, [.ref 20, .int 0, .int 0, .int 0, .int 0, .int 0]), (21, 4, [.ref 22, .int 7, .ref 48]), (24, 5, [.int 1, .int 0, .null, .int 0, .int 0, .int 0, .int 0, .int 0, .ref 25, .ref 26]), (27, 5, [.int 2, .int 0, .null, .int 0, .int 0, .int 0, .int 0, .int 0, .ref 28, .ref 29]), (30, 5, [.int 3, .int 0, .null, .int 0, .int 0, .int 0, .int 0, .int 0, .ref 31, .ref 32]), (33, 5, [.int 4, .int 0, .null, .int 0, .int 0, .int 0, .int 0, .int 0, .ref 34, .ref 35]), (36, 5, [.int 5, .int 0, .null, .int 0, .int 0, .int 0, .int 0, .int 0, .ref 37, .ref 38]), (39, 5, [.int 6, .int 0, .null, .int 0, .int 0, .int 0, .int 0, .int 0, .ref 40, .ref 41]), (42, 5, [.int 7, .int 0, .null, .int 0, .int 0, .int 0, .int 0, .int 0, .ref 43, .ref 44]), (45, 5, [.int 8, .int 0, .null, .int 0, .int 0, .int 0, .int 0, .int 0, .ref 46, .ref 47])]
def cn_rb : List (Nat × Nat × Nat × Nat) := [(11, 0, 40, 0), (12, 5, 8, 4), (20, 0, 0, 0), (22, 1, 64, 0), (23, 1, 0, 0), (48, 1, 7, 0), (25, 0, 0, 0), (26, 0, 0, 0), (28, 0, 0, 0), (29, 0, 0, 0), (31, 0, 0, 0), (32, 0, 0, 0), (34, 0, 0, 0), (35, 0, 0, 0), (37, 0, 0, 0), (38, 0, 0, 0), (40, 0, 0, 0), (41, 0, 0, 0), (43, 0, 0, 0), (44, 0, 0, 0), (46, 0, 0, 0), (47, 0, 0, 0)]
theorem cn_r1_ok : cn_r1.map (fun q => (q.1, q.2.2)) = some (none, 49, 238) := by decide +kernel
theorem cn_ob_ok : cn_ob.all (fun q => decide (cn_o cn_2 q.1 = some q.2)) = true := by decide +kernel
theorem cn_rb_ok : cn_rb.all (fun q => decide (cn_a cn_2 q.1 = some q.2)) = true := by decide +kernel
