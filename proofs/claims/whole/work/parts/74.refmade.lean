/-! THE REFERENCE: heads, attributes, texts -/
theorem i32_mul {i q : Int32} {a c : Int} (hi : i.toInt = a) (hq : q.toInt = c) (h1 : -2147483648 ≤ a * c) (h2 : a * c < 2147483648) : (i * q).toInt = a * c := by
  rw [Int32.toInt_mul, hi, hq]
  unfold Int.bmod
  have e : ((2 ^ 32 : Nat) : Int) = 4294967296 := by decide
  rw [e]
  simp only
  split <;> omega
theorem i32_divn {i q : Int32} {a c : Nat} (hi : i.toInt = (a : Int)) (hq : q.toInt = (c : Int)) (h : a < 2147483648) : (i / q).toInt = ((a / c : Nat) : Int) := by
  have h3 : a / c ≤ a := Nat.div_le_self a c
  rw [Int32.toInt_div, hi, hq, ← Int.ofNat_tdiv]
  generalize a / c = q at h3 ⊢
  unfold Int.bmod
  have e : ((2 ^ 32 : Nat) : Int) = 4294967296 := by decide
  rw [e]
  simp only
  split <;> omega
theorem i32_rem {i q : Int32} {a c : Nat} (hi : i.toInt = (a : Int)) (hq : q.toInt = (c : Int)) (h : a < 2147483648) : (i - i / q * q).toInt = ((a % c : Nat) : Int) := by
  have h1 := i32_divn hi hq h
  have h2 : a / c * c ≤ a := Nat.div_mul_le_self a c
  have h3 : (i / q * q).toInt = ((a / c * c : Nat) : Int) := by
    rw [i32_mul h1 hq (by rw [← Int.natCast_mul]; omega) (by rw [← Int.natCast_mul]; omega), Int.natCast_mul]
  rw [i32_sub hi h3 (by omega) (by omega)]
  have h4 : a % c = a - a / c * c := Nat.mod_eq_sub_div_mul
  omega
theorem i32_z {i : Int32} {a : Nat} (hi : i.toInt = (a : Int)) : i = 0 ↔ a = 0 := by
  constructor
  · intro h
    rw [h] at hi
    have : (0 : Int32).toInt = 0 := by decide
    omega
  · intro h
    refine Int32.toInt_inj.mp ?_
    rw [hi, h]
    decide
def R_at (c n : Int32) : List Int32 := R_p4 c ++ (R_p1 64 ++ R_p3 (8 + n))
def R_nm (c v : Int32) : List Int32 := R_at c 4 ++ R_p4 v
def R_pd (s : Nat) : List Int32 := List.replicate ((4 - s % 4) % 4) ((0 : Int32) >>> 0)
def R_hd (fl c a h e : Int32) : List Int32 := R_p1 1 ++ (R_p3 0 ++ (R_p1 fl ++ (R_p3 c ++ (R_p4 a ++ (R_p4 h ++ R_p4 e)))))
section JxRefmade
variable {th : Nat → Nat} {σ0 : jx_S} {m d s : Nat} {f : jx_F} {v : Int32}
theorem R_sz {bs : List Int32} {t : Nat} (hs : (f.1 66 0).toInt = (s : Int)) (ht : s + bs.length = t) (hl : t ≤ 700) : ((R_bs f bs).1 66 0).toInt = (t : Int) := by
  rw [R_bs_size bs f s hs (by omega), ht]
theorem r_attribute {c n : Int32} (hs : (f.1 66 0).toInt = (s : Int)) (hl : s + 8 ≤ 700) : rfc th σ0 m (d + 2) 196 [.ref 0, .int c, .int n] f (fun r f' => r = none ∧ f' = R_bs f (R_at c n)) := by
  refine rf_go dt_196 60 [] dt_196_k (by decide +kernel) rfl ?_
  intro C J hC hJ
  conv => whnf
  refine hC _ _ _ _ (((r_put4 hs (by omega)).up (show d + 1 ≤ d + 1 by omega)).mp ?_)
  rintro r f1 ⟨rfl, hf1⟩
  have hs1 : (f1.1 66 0).toInt = ((s + 4 : Nat) : Int) := by rw [hf1]; exact R_sz (bs := R_p4 c) hs (by first | rfl | simp) (by omega)
  conv => whnf
  refine hC _ _ _ _ (((r_put1 hs1 (by omega)).up (show d + 1 ≤ d + 1 by omega)).mp ?_)
  rintro r f2 ⟨rfl, hf2⟩
  have hs2 : (f2.1 66 0).toInt = ((s + 4 + 1 : Nat) : Int) := by rw [hf2]; exact R_sz (bs := R_p1 64) hs1 (by first | rfl | simp) (by omega)
  conv => whnf
  refine hC _ _ _ _ (((r_put3 hs2 (by omega)).up (show d + 1 ≤ d + 1 by omega)).mp ?_)
  rintro r f3 ⟨rfl, hf3⟩
  conv => whnf
  refine ⟨rfl, ?_⟩
  rw [hf3, hf2, hf1]
  simp only [R_at, R_bs_app]
theorem r_putNumber {c v : Int32} (hs : (f.1 66 0).toInt = (s : Int)) (hl : s + 12 ≤ 700) : rfc th σ0 m (d + 3) 198 [.ref 0, .int c, .int v] f (fun r f' => r = none ∧ f' = R_bs f (R_nm c v)) := by
  refine rf_go dt_198 60 [] dt_198_k (by decide +kernel) rfl ?_
  intro C J hC hJ
  conv => whnf
  refine hC _ _ _ _ (((r_attribute hs (by omega)).up (show d + 2 ≤ d + 2 by omega)).mp ?_)
  rintro r f1 ⟨rfl, hf1⟩
  have hs1 : (f1.1 66 0).toInt = ((s + 8 : Nat) : Int) := by rw [hf1]; exact R_sz (bs := R_at c 4) hs (by first | rfl | simp) (by omega)
  conv => whnf
  refine hC _ _ _ _ (((r_put4 hs1 (by omega)).up (show d + 1 ≤ d + 2 by omega)).mp ?_)
  rintro r f2 ⟨rfl, hf2⟩
  conv => whnf
  refine ⟨rfl, ?_⟩
  rw [hf2, hf1]
  simp only [R_nm, R_bs_app]
end JxRefmade
