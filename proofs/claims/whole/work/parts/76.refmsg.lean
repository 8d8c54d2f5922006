/-! THE REFERENCE: heads, what every message bears, sending -/
def R_tl (s N : Nat) : Nat := 8 + N + (4 - (s + 8 + N) % 4) % 4
def R_me (f : jx_F) (N s : Nat) : List Int32 := R_tx f 264 (f.1 6 0) 5 0 N s ++ (R_at 296 4 ++ R_p4 1752132965)
def R_ad (s : Nat) : List Int32 := R_at 257 6 ++ (R_p2 1 ++ (R_p4 2130706433 ++ (R_pd (s + 8 + 2 + 4) ++ (R_nm 266 0 ++ (R_at 269 4 ++ (R_p4 1885693298 ++ R_nm 258 4))))))
section JxRefmsg
variable {th : Nat → Nat} {σ0 : jx_S} {m d s : Nat} {f : jx_F} {v : Int32} {Q : Option Value → jx_F → Prop}
theorem R_tx_len {c n : Int32} {k F N : Nat} : (R_tx f c n k F N s).length = R_tl s N := by
  unfold R_tx R_tl
  rw [List.length_append, List.length_append, R_ro_len, R_pd_len]
  show 8 + _ = _
  omega
theorem R_tl_le {N : Nat} : R_tl s N ≤ N + 11 := by
  unfold R_tl
  omega
theorem r_head {fl c a h e : Int32} : rfc th σ0 m (d + 2) 192 [.ref 0, .int fl, .int c, .int a, .int h, .int e] f (fun r f' => r = none ∧ f' = R_bs (rf_ui f 66 0 0) (R_hd fl c a h e)) := by
  refine rf_go dt_192 60 [] dt_192_k (by decide +kernel) rfl ?_
  intro C J hC hJ
  conv => whnf
  have hs0 : ((rf_ui f 66 0 0).1 66 0).toInt = ((0 : Nat) : Int) := by rw [rf_ui_eq]; decide
  refine hC _ _ _ _ ((r_put1 hs0 (by omega)).mp ?_)
  rintro r f1 ⟨rfl, hf1⟩
  have hs1 : (f1.1 66 0).toInt = ((1 : Nat) : Int) := by rw [hf1]; exact R_sz (bs := R_p1 1) hs0 rfl (by omega)
  conv => whnf
  refine hC _ _ _ _ ((r_put3 hs1 (by omega)).mp ?_)
  rintro r f2 ⟨rfl, hf2⟩
  have hs2 : (f2.1 66 0).toInt = ((4 : Nat) : Int) := by rw [hf2]; exact R_sz (bs := R_p3 0) hs1 rfl (by omega)
  conv => whnf
  refine hC _ _ _ _ ((r_put1 hs2 (by omega)).mp ?_)
  rintro r f3 ⟨rfl, hf3⟩
  have hs3 : (f3.1 66 0).toInt = ((5 : Nat) : Int) := by rw [hf3]; exact R_sz (bs := R_p1 fl) hs2 rfl (by omega)
  conv => whnf
  refine hC _ _ _ _ ((r_put3 hs3 (by omega)).mp ?_)
  rintro r f4 ⟨rfl, hf4⟩
  have hs4 : (f4.1 66 0).toInt = ((8 : Nat) : Int) := by rw [hf4]; exact R_sz (bs := R_p3 c) hs3 rfl (by omega)
  conv => whnf
  refine hC _ _ _ _ ((r_put4 hs4 (by omega)).mp ?_)
  rintro r f5 ⟨rfl, hf5⟩
  have hs5 : (f5.1 66 0).toInt = ((12 : Nat) : Int) := by rw [hf5]; exact R_sz (bs := R_p4 a) hs4 rfl (by omega)
  conv => whnf
  refine hC _ _ _ _ ((r_put4 hs5 (by omega)).mp ?_)
  rintro r f6 ⟨rfl, hf6⟩
  have hs6 : (f6.1 66 0).toInt = ((16 : Nat) : Int) := by rw [hf6]; exact R_sz (bs := R_p4 h) hs5 rfl (by omega)
  conv => whnf
  refine hC _ _ _ _ ((r_put4 hs6 (by omega)).mp ?_)
  rintro r f7 ⟨rfl, hf7⟩
  conv => whnf
  refine ⟨rfl, ?_⟩
  rw [hf7, hf6, hf5, hf4, hf3, hf2, hf1]
  simp only [R_hd, R_bs_app]
theorem r_me {N : Nat} (hN : (f.1 6 0).toInt = (N : Int)) (hN4 : N ≤ 40) (hs : (f.1 66 0).toInt = (s : Int)) (hl : s + (N + 23) ≤ 700) : rfc th σ0 m (d + 4) 194 [.ref 0] f (fun r f' => r = none ∧ f' = R_bs f (R_me f N s)) := by
  have hle := R_tl_le (s := s) (N := N)
  refine rf_go dt_194 40 [] dt_194_k (by decide +kernel) rfl ?_
  intro C J hC hJ
  conv => whnf
  refine hC _ _ _ _ ((r_text5 (F := 0) (by decide) hN (by omega) hs (by omega)).mp ?_)
  rintro r f1 ⟨rfl, hf1⟩
  have hs1 : (f1.1 66 0).toInt = ((s + R_tl s N : Nat) : Int) := by rw [hf1]; exact R_sz hs (by rw [R_tx_len]) (by omega)
  conv => whnf
  refine hC _ _ _ _ (((r_attribute hs1 (by omega)).up (show d + 2 ≤ d + 3 by omega)).mp ?_)
  rintro r f2 ⟨rfl, hf2⟩
  have hs2 : (f2.1 66 0).toInt = ((s + R_tl s N + 8 : Nat) : Int) := by rw [hf2]; exact R_sz (bs := R_at 296 4) hs1 rfl (by omega)
  conv => whnf
  refine hC _ _ _ _ (((r_put4 hs2 (by omega)).up (show d + 1 ≤ d + 3 by omega)).mp ?_)
  rintro r f3 ⟨rfl, hf3⟩
  conv => whnf
  refine ⟨rfl, ?_⟩
  rw [hf3, hf2, hf1]
  simp only [R_me, R_bs_app]
theorem r_address (hs : (f.1 66 0).toInt = (s : Int)) (hl : s + 60 ≤ 700) : rfc th σ0 m (d + 4) 212 [.ref 0] f (fun r f' => r = none ∧ f' = R_bs f (R_ad s)) := by
  refine rf_go dt_212 80 [] dt_212_k (by decide +kernel) rfl ?_
  intro C J hC hJ
  conv => whnf
  refine hC _ _ _ _ (((r_attribute hs (by omega)).up (show d + 2 ≤ d + 3 by omega)).mp ?_)
  rintro r f1 ⟨rfl, hf1⟩
  have hs1 : (f1.1 66 0).toInt = ((s + 8 : Nat) : Int) := by rw [hf1]; exact R_sz (bs := R_at 257 6) hs (by first | rfl | (rw [R_pd_len])) (by omega)
  conv => whnf
  refine hC _ _ _ _ (((r_put2 hs1 (by omega)).up (show d + 1 ≤ d + 3 by omega)).mp ?_)
  rintro r f2 ⟨rfl, hf2⟩
  have hs2 : (f2.1 66 0).toInt = ((s + 8 + 2 : Nat) : Int) := by rw [hf2]; exact R_sz (bs := R_p2 1) hs1 (by first | rfl | (rw [R_pd_len])) (by omega)
  conv => whnf
  refine hC _ _ _ _ (((r_put4 hs2 (by omega)).up (show d + 1 ≤ d + 3 by omega)).mp ?_)
  rintro r f3 ⟨rfl, hf3⟩
  have hs3 : (f3.1 66 0).toInt = ((s + 8 + 2 + 4 : Nat) : Int) := by rw [hf3]; exact R_sz (bs := R_p4 2130706433) hs2 (by first | rfl | (rw [R_pd_len])) (by omega)
  conv => whnf
  refine hC _ _ _ _ (((r_pad hs3 (by omega)).up (show d + 2 ≤ d + 3 by omega)).mp ?_)
  rintro r f4 ⟨rfl, hf4⟩
  have hs4 : (f4.1 66 0).toInt = ((s + 8 + 2 + 4 + (4 - (s + 8 + 2 + 4) % 4) % 4 : Nat) : Int) := by rw [hf4]; exact R_sz (bs := R_pd (s + 8 + 2 + 4)) hs3 (by first | rfl | (rw [R_pd_len])) (by omega)
  conv => whnf
  refine hC _ _ _ _ (((r_putNumber hs4 (by omega)).up (show d + 3 ≤ d + 3 by omega)).mp ?_)
  rintro r f5 ⟨rfl, hf5⟩
  have hs5 : (f5.1 66 0).toInt = ((s + 8 + 2 + 4 + (4 - (s + 8 + 2 + 4) % 4) % 4 + 12 : Nat) : Int) := by rw [hf5]; exact R_sz (bs := R_nm 266 0) hs4 (by first | rfl | (rw [R_pd_len])) (by omega)
  conv => whnf
  refine hC _ _ _ _ (((r_attribute hs5 (by omega)).up (show d + 2 ≤ d + 3 by omega)).mp ?_)
  rintro r f6 ⟨rfl, hf6⟩
  have hs6 : (f6.1 66 0).toInt = ((s + 8 + 2 + 4 + (4 - (s + 8 + 2 + 4) % 4) % 4 + 12 + 8 : Nat) : Int) := by rw [hf6]; exact R_sz (bs := R_at 269 4) hs5 (by first | rfl | (rw [R_pd_len])) (by omega)
  conv => whnf
  refine hC _ _ _ _ (((r_put4 hs6 (by omega)).up (show d + 1 ≤ d + 3 by omega)).mp ?_)
  rintro r f7 ⟨rfl, hf7⟩
  have hs7 : (f7.1 66 0).toInt = ((s + 8 + 2 + 4 + (4 - (s + 8 + 2 + 4) % 4) % 4 + 12 + 8 + 4 : Nat) : Int) := by rw [hf7]; exact R_sz (bs := R_p4 1885693298) hs6 (by first | rfl | (rw [R_pd_len])) (by omega)
  conv => whnf
  refine hC _ _ _ _ (((r_putNumber hs7 (by omega)).up (show d + 3 ≤ d + 3 by omega)).mp ?_)
  rintro r f8 ⟨rfl, hf8⟩
  conv => whnf
  refine ⟨rfl, ?_⟩
  rw [hf8, hf7, hf6, hf5, hf4, hf3, hf2, hf1]
  simp only [R_ad, R_bs_app]
theorem r_nextHop : rfc th σ0 m (d + 1) 191 [.ref 0] f (fun r f' => r = some (.int (f.1 34 0)) ∧ f' = rf_ui f 34 0 (f.1 34 0 + 1)) := by
  refine rf_go dt_191 40 [] dt_191_k (by decide +kernel) rfl ?_
  intro C J hC hJ
  conv => whnf
  refine ⟨?_, rfl⟩
  have e : (rf_ui f 34 0 (f.1 34 0 + 1)).1 34 0 - 1 = f.1 34 0 := by
    rw [rf_ui_eq]
    exact Int32.add_sub_cancel _ _
  exact congrArg (fun x => some (Value.int x)) e
end JxRefmsg
