/-! THE REFERENCE: what a CREDIT tells of its SESSION -/
def R_fre (f : jx_F) (i : Nat) : Int64 := f.2 37 i - f.2 38 i
def R_un (f : jx_F) (k : Nat) (v : Int64) : Int64 := if f.1 k 0 = 0 then v else w8 (oct f (f.1 67 0).toNatClampNeg) (f.1 k 0).toNatClampNeg
def R_cnt (f : jx_F) : Int64 := (R_n4 f 6).toInt64 &&& 4294967295
def R_hSk (f : jx_F) (k : Nat) : Nat := (f.1 67 0 + f.1 77 k).toNatClampNeg
def R_of0 (f : jx_F) (s : Nat) (pv : Int32) : jx_F := rf_ui (rf_ui (rf_ul f 46 s (R_cnt f)) 47 s (pv + 1)) 48 s (f.1 1 0 + 600)
def R_of (f : jx_F) (s : Nat) (pv : Int32) : jx_F := R_cpT (R_cpT (R_of0 f s pv) 1 (R_hSk f 1) 42 (41 * s) (f.1 78 1).toNatClampNeg) 2 (R_hSk f 2) 43 (41 * s) (f.1 78 2).toNatClampNeg
/-- a text of the message can be copied -/
def R_tok (f : jx_F) (k : Nat) : Prop := ∃ S N : Nat, (f.1 67 0 + f.1 77 k).toInt = (S : Int) ∧ (f.1 78 k).toInt = (N : Int) ∧ N ≤ 40 ∧ S + N ≤ 5400
section JxRefof
variable {th : Nat → Nat} {σ0 : jx_S} {m d n s i : Nat} {f : jx_F} {iv sv pv : Int32} {v : Int64} {Q : Option Value → jx_F → Prop}
theorem r_free (hi : iv.toInt = (i : Int)) (hi16 : i < 16) : rfc th σ0 m (d + 1) 253 [.ref 0, .int iv] f (fun r f' => r = some (.long (R_fre f i)) ∧ f' = f) := by
  refine rf_go dt_253 20 [] dt_253_k (by decide +kernel) rfl ?_
  intro C J hC hJ
  conv => whnf
  refine ⟨jx_in_nat hi hi16, ?_⟩
  conv => whnf
  refine ⟨jx_in_nat hi hi16, ?_⟩
  conv => whnf
  rw [i32_nat hi]
  exact ⟨rfl, rfl⟩
theorem r_theirCount (h : R_nok f 6) : rfc th σ0 m (d + 3) 256 [.ref 0] f (fun r f' => r = some (.long (R_cnt f)) ∧ f' = f) := by
  refine rf_go dt_256 20 [] dt_256_k (by decide +kernel) rfl ?_
  intro C J hC hJ
  conv => whnf
  refine ⟨jx_in_nat (k := 6) (by decide) (by decide), ?_⟩
  conv => whnf
  refine hC _ _ _ _ ((r_n4 (d := d) h).mp ?_)
  rintro r f1 ⟨rfl, hf1⟩
  conv => whnf
  exact ⟨rfl, hf1⟩
theorem r_of (hc : R_nok f 6) (hs : sv.toInt = (s : Int)) (hs16 : s < 16) (h1 : R_tok f 1) (h2 : R_tok f 2) : rfc th σ0 m (d + 4) 255 [.ref 0, .int sv, .int pv] f (fun r f' => r = none ∧ f' = R_of f s pv) := by
  have k41 : (41 * sv).toInt = ((41 * s : Nat) : Int) := by rw [i32_mul (a := 41) (by decide) hs (by omega) (by omega)]; omega
  obtain ⟨S1, N1, a1, a2, a3, a4⟩ := h1
  obtain ⟨S2, N2, b1, b2, b3, b4⟩ := h2
  refine rf_go dt_255 60 [] dt_255_k (by decide +kernel) rfl ?_
  intro C J hC hJ
  conv => whnf
  refine hC _ _ _ _ ((r_theirCount (d := d) hc).mp ?_)
  rintro r f1 ⟨rfl, hf1⟩
  rw [hf1]
  conv => whnf
  refine ⟨jx_in_nat hs hs16, ?_⟩
  conv => whnf
  refine ⟨jx_in_nat hs hs16, ?_⟩
  conv => whnf
  refine ⟨jx_in_nat hs hs16, ?_⟩
  conv => whnf
  rw [i32_nat hs]
  have e0 : rf_ui (rf_ui (rf_ul f 46 s (R_cnt f)) 47 s ((fun x y : Int32 => x + y) pv 1)) 48 s ((fun x y : Int32 => x + y) ((rf_ui (rf_ul f 46 s (R_cnt f)) 47 s ((fun x y : Int32 => x + y) pv 1)).1 1 0) 600) = R_of0 f s pv := by
    unfold R_of0
    rw [rf_ui_ne (show ¬ (1 = 47 ∧ 0 = s) by omega)]
    rfl
  rw [e0]
  obtain ⟨g, hg⟩ : ∃ g, g = R_of0 f s pv := ⟨_, rfl⟩
  have og : ∀ u j, u ≠ 47 → u ≠ 48 → g.1 u j = f.1 u j := fun u j h1 h2 => by
    rw [hg]
    unfold R_of0
    rw [rf_ui_ne (by omega), rf_ui_ne (by omega)]
    rfl
  rw [← hg]
  refine hC _ _ _ _ (((r_copyText42 (d := d) (k := 1) (S := S1) (a := 41 * s) (N := N1) (by decide) (by decide) (by rw [og 67 0 (by omega) (by omega), og 77 1 (by omega) (by omega)]; exact a1) a4 k41 (by omega) (by rw [og 78 1 (by omega) (by omega)]; exact a2)).up (by omega)).mp ?_)
  rintro r g1 ⟨rfl, hg1⟩
  have og1 : ∀ u j, u ≠ 47 → u ≠ 48 → u ≠ 42 → g1.1 u j = f.1 u j := fun u j h1 h2 h3 => by
    rw [hg1]
    unfold R_cpT
    rw [R_cy_o (by omega), rf_ui_ne (by omega), og u j h1 h2]
  conv => whnf
  refine hC _ _ _ _ (((r_copyText43 (d := d) (k := 2) (S := S2) (a := 41 * s) (N := N2) (by decide) (by decide) (by rw [og1 67 0 (by omega) (by omega) (by omega), og1 77 2 (by omega) (by omega) (by omega)]; exact b1) b4 k41 (by omega) (by rw [og1 78 2 (by omega) (by omega) (by omega)]; exact b2)).up (by omega)).mp ?_)
  rintro r g2 ⟨rfl, hg2⟩
  conv => whnf
  refine ⟨rfl, ?_⟩
  unfold R_of R_hSk
  rw [hg2, hg1, hg, i32_nat a1, i32_nat a2, i32_nat b1, i32_nat b2]
end JxRefof
