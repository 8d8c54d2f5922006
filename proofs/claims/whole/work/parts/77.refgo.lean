/-! THE REFERENCE: what is made goes out on a connection -/
def R_go3 (f : jx_F) : jx_F := rf_ui (rf_ui (rf_ui f 65 1 0) 65 2 (f.1 66 0 >>> 8).toInt8.toInt32) 65 3 (f.1 66 0).toInt8.toInt32
/-- the place in out, as the reference reckons it -/
def R_ix (f : jx_F) (c : Int32) : Int32 := 2000 * c + ((f.1 33 c.toNatClampNeg + f.1 32 c.toNatClampNeg) - (f.1 33 c.toNatClampNeg + f.1 32 c.toNatClampNeg) / 2000 * 2000)
def R_c1 (c : Int32) (f : jx_F) (k : Int32) : jx_F := rf_ui (rf_ui f 31 (R_ix f c).toNatClampNeg (vp_nar .byte (f.1 65 k.toNatClampNeg))) 32 c.toNatClampNeg (f.1 32 c.toNatClampNeg + 1)
def R_cp (c : Int32) : Nat → Int32 → jx_F → jx_F
  | 0, _, f => f
  | r + 1, k, f => R_cp c r (k + 1) (R_c1 c f k)
def R_go (f : jx_F) (c : Int32) : jx_F := if (R_go3 f).1 32 c.toNatClampNeg + (R_go3 f).1 66 0 ≤ 2000 then R_cp c (f.1 66 0).toNatClampNeg 0 (R_go3 f) else rf_ui (R_go3 f) 2 0 ((R_go3 f).1 2 0 + 1)
theorem i32_nat {i : Int32} {n : Nat} (h : i.toInt = (n : Int)) : i.toNatClampNeg = n := by
  show i.toInt.toNat = n
  omega
theorem nar_0 : vp_nar .byte 0 = 0 := by decide
theorem R_go3_o {f : jx_F} {k j : Nat} (h : k ≠ 65) : (R_go3 f).1 k j = f.1 k j := by
  unfold R_go3
  rw [rf_ui_ne (fun e => h e.1), rf_ui_ne (fun e => h e.1), rf_ui_ne (fun e => h e.1)]
section JxRefgo
variable {th : Nat → Nat} {σ0 : jx_S} {m d : Nat} {f : jx_F} {Q : Option Value → jx_F → Prop} {c : Int32} {cN : Nat}
theorem R_ix_i {a z : Nat} (hc : c.toInt = (cN : Int)) (hc8 : cN ≤ 8) (ha : (f.1 33 cN).toInt = (a : Int)) (hz : (f.1 32 cN).toInt = (z : Int)) (ha2 : a < 2000) (hz2 : z < 2000) : (R_ix f c).toInt = ((2000 * cN + (a + z) % 2000 : Nat) : Int) := by
  unfold R_ix
  rw [i32_nat hc]
  have h1 : (f.1 33 cN + f.1 32 cN).toInt = ((a + z : Nat) : Int) := by rw [i32_add ha hz (by omega) (by omega)]; omega
  have h2 := i32_rem (q := 2000) (c := 2000) h1 (by decide) (by omega)
  have h3 : (2000 * c).toInt = ((2000 * cN : Nat) : Int) := by rw [i32_mul (a := 2000) (by decide) hc (by omega) (by omega)]; omega
  have h4 : (a + z) % 2000 < 2000 := Nat.mod_lt _ (by omega)
  rw [i32_add h3 h2 (by omega) (by omega)]
  omega
theorem r_go_l (hc : c.toInt = (cN : Int)) (hc8 : cN ≤ 8) {a n : Nat} (ha2 : a < 2000) (hn7 : n ≤ 700) : ∀ (r j z : Nat) (k : Int32) (f : jx_F), k.toInt = (j : Int) → j + r = n → (f.1 66 0).toInt = (n : Int) → (f.1 33 cN).toInt = (a : Int) → (f.1 32 cN).toInt = (z : Int) → z + r ≤ 2000 → Q none (R_cp c r k f) → jx_fj th (rf_g m) (rf σ0 m) d 200 62 [(0, .ref 0), (1, .int c), (2, .int k)] [] f Q
  | 0, j, z, k, f, hk, hj, hn, ha, hz, hl, h => by
    refine rf_at dt_200 60 [] dt_200_k (by decide +kernel) ?_
    intro C J hC hJ
    conv => whnf
    refine jx_yes (show f.1 66 0 ≤ k by rw [Int32.le_iff_toInt_le]; omega) ?_
    conv => whnf
    exact h
  | r + 1, j, z, k, f, hk, hj, hn, ha, hz, hl, h => by
    have hcn := i32_nat hc
    have hix := R_ix_i (f := f) hc hc8 ha hz ha2 (by omega)
    have hm : (a + z) % 2000 < 2000 := Nat.mod_lt _ (by omega)
    refine rf_at dt_200 60 [(62, [0, 1, 2])] dt_200_k (by decide +kernel) ?_
    intro C J hC hJ
    conv => whnf
    refine jx_no (show ¬ f.1 66 0 ≤ k by rw [Int32.le_iff_toInt_le]; omega) ?_
    conv => whnf
    refine ⟨jx_in_nat hc (show cN < 9 by omega), ?_⟩
    conv => whnf
    refine ⟨jx_in_nat hc (show cN < 9 by omega), ?_⟩
    conv => whnf
    refine ⟨jx_in_nat hk (show j < 700 by omega), ?_⟩
    conv => whnf
    refine ⟨jx_in_nat hix (show 2000 * cN + (a + z) % 2000 < 18000 by omega), ?_⟩
    conv => whnf
    refine ⟨jx_in_nat hc (show cN < 9 by omega), ?_⟩
    conv => whnf
    refine ⟨jx_in_nat hc (show cN < 9 by omega), ?_⟩
    conv => whnf
    have hz' : ((R_c1 c f k).1 32 cN).toInt = ((z + 1 : Nat) : Int) := by
      unfold R_c1
      rw [hcn, rf_ui_eq, i32_add (c := 1) hz (by decide) (by omega) (by omega)]
      omega
    refine hJ _ _ _ _ (r_go_l hc hc8 ha2 hn7 r (j + 1) (z + 1) (k + Int32.ofInt 1) (R_c1 c f k) ?_ (by omega) ?_ ?_ hz' (by omega) h)
    · rw [i32_add (c := 1) hk (by decide) (by omega) (by omega)]; omega
    · unfold R_c1; rw [rf_ui_ne (by simp), rf_ui_ne (by simp)]; exact hn
    · unfold R_c1; rw [rf_ui_ne (by simp), rf_ui_ne (by simp)]; exact ha
theorem r_go {a z n : Nat} (hc : c.toInt = (cN : Int)) (hc8 : cN ≤ 8) (hn : (f.1 66 0).toInt = (n : Int)) (hn7 : n ≤ 700) (ha : (f.1 33 cN).toInt = (a : Int)) (ha2 : a < 2000) (hz : (f.1 32 cN).toInt = (z : Int)) (hz2 : z ≤ 2000) : rfc th σ0 m (d + 1) 200 [.ref 0, .int c] f (fun r f' => r = none ∧ f' = R_go f c) := by
  have hcn := i32_nat hc
  refine rf_go dt_200 60 [(62, [0, 1, 2])] dt_200_k (by decide +kernel) rfl ?_
  intro C J hC hJ
  conv => whnf
  refine ⟨jx_in_nat (k := 1) (by decide) (by decide), ?_⟩
  conv => whnf
  refine ⟨jx_in_nat (k := 2) (by decide) (by decide), ?_⟩
  conv => whnf
  refine ⟨jx_in_nat (k := 3) (by decide) (by decide), ?_⟩
  conv => whnf
  refine ⟨jx_in_nat hc (show cN < 9 by omega), ?_⟩
  conv => whnf
  simp only [nar_b, nar_0]
  have e6 : (R_go3 f).1 66 0 = f.1 66 0 := R_go3_o (by decide)
  refine ⟨fun (h : (R_go3 f).1 32 c.toNatClampNeg + (R_go3 f).1 66 0 ≤ 2000) => ?_, fun (h : ¬ (R_go3 f).1 32 c.toNatClampNeg + (R_go3 f).1 66 0 ≤ 2000) => ?_⟩
  · conv => whnf
    have hz' : ((R_go3 f).1 32 cN).toInt = (z : Int) := by rw [R_go3_o (by decide)]; exact hz
    have hsum : z + n ≤ 2000 := by
      rw [hcn, e6, Int32.le_iff_toInt_le, i32_add hz' hn (by omega) (by omega)] at h
      have : (2000 : Int32).toInt = 2000 := by decide
      omega
    refine hJ _ _ _ _ (r_go_l (n := n) hc hc8 ha2 hn7 n 0 z 0 (R_go3 f) (by decide) (by omega) (by rw [e6]; exact hn) (by rw [R_go3_o (by decide)]; exact ha) hz' hsum ⟨rfl, ?_⟩)
    unfold R_go
    rw [if_pos h, i32_nat hn]
  · conv => whnf
    refine ⟨rfl, ?_⟩
    unfold R_go
    rw [if_neg h]
    rfl
end JxRefgo
