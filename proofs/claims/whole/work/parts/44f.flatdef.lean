/-! THE REFERENCE'S STATE, FLAT: one object, its arrays behind it; a number for each field and place -/
abbrev jx_F : Type := (Nat → Nat → Int32) × (Nat → Nat → Int64)
/-- of each field: 0 octets, 1 ints, 2 longs, 3 booleans in a row; 10 an int, 11 a long, 12 a boolean -/
def rf_t : List Nat := [10, 10, 10, 0, 10, 0, 10, 10, 0, 1, 3, 1, 1, 1, 1, 1, 3, 1, 1, 1, 1, 1, 1, 1, 1, 1, 1, 1, 1, 0, 1, 0, 1, 1, 10, 10, 2, 2, 2, 2, 10, 0, 0, 0, 1, 2, 2, 1, 1, 10, 0, 0, 0, 2, 1, 1, 1, 1, 1, 10, 0, 1, 0, 1, 1, 0, 10, 10, 10, 10, 10, 10, 10, 10, 10, 10, 1, 1, 1, 1, 12, 10, 10, 10, 10, 1, 1, 1, 10, 12, 11, 10]
def rf_n : List Nat := [0, 0, 0, 40, 0, 40, 0, 0, 160, 4, 4, 4, 4, 4, 4, 4, 4, 4, 4, 4, 4, 4, 4, 4, 4, 4, 9, 9, 9, 5400, 9, 18000, 9, 9, 0, 0, 16, 16, 16, 16, 0, 656, 656, 656, 16, 16, 16, 16, 16, 0, 2624, 2624, 2624, 64, 64, 64, 64, 64, 64, 0, 10560, 33, 1353, 33, 33, 700, 0, 0, 0, 0, 0, 0, 0, 0, 0, 0, 12, 12, 12, 12, 0, 0, 0, 0, 0, 5, 5, 5, 0, 0, 0, 0]
def rf_r : List Nat := [0, 0, 0, 1, 0, 2, 0, 0, 3, 4, 5, 6, 7, 8, 9, 10, 11, 12, 13, 14, 15, 16, 17, 18, 19, 20, 21, 22, 23, 24, 25, 26, 27, 28, 0, 0, 29, 30, 31, 32, 0, 33, 34, 35, 36, 37, 38, 39, 40, 0, 41, 42, 43, 44, 45, 46, 47, 48, 49, 0, 50, 51, 52, 53, 54, 55, 0, 0, 0, 0, 0, 0, 0, 0, 0, 0, 56, 57, 58, 59, 0, 0, 0, 0, 0, 60, 61, 62, 0, 0, 0, 0]
def rf_i : List Nat := [3, 5, 8, 9, 10, 11, 12, 13, 14, 15, 16, 17, 18, 19, 20, 21, 22, 23, 24, 25, 26, 27, 28, 29, 30, 31, 32, 33, 36, 37, 38, 39, 41, 42, 43, 44, 45, 46, 47, 48, 50, 51, 52, 53, 54, 55, 56, 57, 58, 60, 61, 62, 63, 64, 65, 76, 77, 78, 79, 85, 86, 87]
def rf_ui (f : jx_F) (k j : Nat) (x : Int32) : jx_F := (fun a b => if a = k ∧ b = j then x else f.1 a b, f.2)
def rf_ul (f : jx_F) (k j : Nat) (x : Int64) : jx_F := (f.1, fun a b => if a = k ∧ b = j then x else f.2 a b)
def rf_v (m : Nat) (f : jx_F) (k : Nat) : Value := match rf_t.getD k 99 with
  | 10 => .int (f.1 k 0)
  | 12 => .int (f.1 k 0)
  | 11 => .long (f.2 k 0)
  | _ => .ref (m + rf_r.getD k 0)
def rf_e (f : jx_F) (k : Nat) : jx_E := match rf_t.getD k 99 with
  | 2 => .inl (2, rf_n.getD k 0, .inr (.inl (f.2 k)))
  | t => .inl (t, rf_n.getD k 0, .inl (f.1 k))
def rf (σ0 : jx_S) (m : Nat) (f : jx_F) : jx_S := (fun a => if a = m then some (.inr (12, (List.range 92).map (rf_v m f))) else if m < a ∧ a < m + 63 then some (rf_e f (rf_i.getD (a - m - 1) 0)) else σ0.1 a, σ0.2)
def rf_g (m a : Nat) : Nat := match a with
  | 0 => m
  | k + 1 => m + rf_r.getD k 0
def jx_in (j : Int32) (n : Nat) : Prop := ¬ (j < 0 ∨ n ≤ j.toNatClampNeg)
