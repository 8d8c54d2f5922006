/-! THE REFERENCE: an ASK is sent -/
/-- the octets of an ASK behind its head -/
def R_askT (g : jx_F) (i N n1 n2 n3 : Nat) : List Int32 :=
  R_tx g 263 (g.1 50 (41 * i)) 50 (41 * i + 1) n1 20 ++ (R_me g N (20 + R_tl 20 n1) ++ (R_tx g 283 (g.1 52 (41 * i)) 52 (41 * i + 1) n2 (20 + R_tl 20 n1 + R_ml N (20 + R_tl 20 n1)) ++ (R_tx g 293 (g.1 51 (41 * i)) 51 (41 * i + 1) n3 (20 + R_tl 20 n1 + R_ml N (20 + R_tl 20 n1) + R_tl (20 + R_tl 20 n1 + R_ml N (20 + R_tl 20 n1)) n2) ++ (R_nm 258 4 ++ R_nm 285 0))))
def R_inc (f : jx_F) (k j : Nat) : jx_F := rf_ui f k j (f.1 k j + 1)
theorem R_tx_eq {f f' : jx_F} {c n : Int32} {k F N s : Nat} (h : ∀ q, f'.1 k q = f.1 k q) : R_tx f' c n k F N s = R_tx f c n k F N s := by
  unfold R_tx
  rw [R_ro_eq h]
section JxRefask
variable {th : Nat → Nat} {σ0 : jx_S} {m d : Nat} {f : jx_F} {Q : Option Value → jx_F → Prop}
set_option maxHeartbeats 1000000 in
theorem r_askB {i : Int32} {iN N n1 n2 n3 cN a z : Nat} {g : jx_F} (hi : i.toInt = (iN : Int)) (hi6 : iN < 64) (hs : (g.1 66 0).toInt = ((20 : Nat) : Int)) (hN : (g.1 6 0).toInt = (N : Int)) (hN4 : N ≤ 40)
    (h1 : (g.1 50 (41 * iN)).toInt = (n1 : Int)) (h14 : n1 ≤ 40) (h2 : (g.1 52 (41 * iN)).toInt = (n2 : Int)) (h24 : n2 ≤ 40) (h3 : (g.1 51 (41 * iN)).toInt = (n3 : Int)) (h34 : n3 ≤ 40)
    (hc : (g.1 58 iN).toInt = (cN : Int)) (hc8 : cN ≤ 8) (ha : (g.1 33 cN).toInt = (a : Int)) (ha2 : a < 2000) (hz : (g.1 32 cN).toInt = (z : Int)) (hz2 : z ≤ 2000)
    (hq : Q none (R_inc (R_go (R_bs g (R_askT g iN N n1 n2 n3)) (g.1 58 iN)) 55 iN)) : jx_fj th (rf_g m) (rf σ0 m) (d + 4) 204 96 [(0, .ref 0), (1, .int i)] [] g Q := by
  have hin := i32_nat hi
  have hii : jx_in i 64 := jx_in_nat hi hi6
  have hx : (41 * i).toInt = ((41 * iN : Nat) : Int) := by rw [i32_mul (a := 41) (by decide) hi (by omega) (by omega)]; omega
  have hxn := i32_nat hx
  have hx1 : (41 * i + 1).toInt = ((41 * iN + 1 : Nat) : Int) := by rw [i32_add (c := 1) hx (by decide) (by omega) (by omega)]; omega
  have hxi : jx_in (41 * i) 2624 := jx_in_nat hx (by omega)
  have l1 := R_tl_le (s := 20) (N := n1)
  have l2 := R_ml_le (N := N) (s := 20 + R_tl 20 n1)
  have l3 := R_tl_le (s := 20 + R_tl 20 n1 + R_ml N (20 + R_tl 20 n1)) (N := n2)
  have l4 := R_tl_le (s := 20 + R_tl 20 n1 + R_ml N (20 + R_tl 20 n1) + R_tl (20 + R_tl 20 n1 + R_ml N (20 + R_tl 20 n1)) n2) (N := n3)
  refine rf_at dt_204 100 [] dt_204_k (by decide +kernel) ?_
  intro C J hC hJ
  conv => whnf
  refine ⟨hxi, ?_⟩
  conv => whnf
  rw [hxn]
  refine hC _ _ _ _ (((r_text50 hx1 h1 (by omega) hs (by omega)).up (show d + 3 ≤ d + 4 by omega)).mp ?_)
  rintro r g1 ⟨rfl, hg1⟩
  have t1 : (g1.1 66 0).toInt = ((20 + R_tl 20 n1 : Nat) : Int) := by rw [hg1]; exact R_sz hs (by rw [R_tx_len]) (by omega)
  have o1 : ∀ k j, k ≠ 65 → k ≠ 66 → g1.1 k j = g.1 k j := fun k j e1 e2 => by rw [hg1]; exact R_bs_o e1 e2 _ _
  conv => whnf
  refine hC _ _ _ _ ((r_me (N := N) (by rw [o1 6 0 (by decide) (by decide)]; exact hN) hN4 t1 (by omega)).mp ?_)
  rintro r g2 ⟨rfl, hg2⟩
  rw [R_me_eq (f := g) (fun q => o1 5 q (by decide) (by decide)) (o1 6 0 (by decide) (by decide))] at hg2
  have t2 : (g2.1 66 0).toInt = ((20 + R_tl 20 n1 + R_ml N (20 + R_tl 20 n1) : Nat) : Int) := by rw [hg2]; exact R_sz t1 (by rw [R_me_len]) (by omega)
  have o2 : ∀ k j, k ≠ 65 → k ≠ 66 → g2.1 k j = g.1 k j := fun k j e1 e2 => by rw [hg2, R_bs_o e1 e2, o1 k j e1 e2]
  conv => whnf
  refine ⟨hxi, ?_⟩
  conv => whnf
  rw [hxn, o2 52 (41 * iN) (by decide) (by decide)]
  refine hC _ _ _ _ (((r_text52 hx1 h2 (by omega) t2 (by omega)).up (show d + 3 ≤ d + 4 by omega)).mp ?_)
  rintro r g3 ⟨rfl, hg3⟩
  rw [R_tx_eq (f := g) (fun q => o2 52 q (by decide) (by decide))] at hg3
  have t3 : (g3.1 66 0).toInt = ((20 + R_tl 20 n1 + R_ml N (20 + R_tl 20 n1) + R_tl (20 + R_tl 20 n1 + R_ml N (20 + R_tl 20 n1)) n2 : Nat) : Int) := by rw [hg3]; exact R_sz t2 (by rw [R_tx_len]) (by omega)
  have o3 : ∀ k j, k ≠ 65 → k ≠ 66 → g3.1 k j = g.1 k j := fun k j e1 e2 => by rw [hg3, R_bs_o e1 e2, o2 k j e1 e2]
  conv => whnf
  refine ⟨hxi, ?_⟩
  conv => whnf
  rw [hxn, o3 51 (41 * iN) (by decide) (by decide)]
  refine hC _ _ _ _ (((r_text51 hx1 h3 (by omega) t3 (by omega)).up (show d + 3 ≤ d + 4 by omega)).mp ?_)
  rintro r g4 ⟨rfl, hg4⟩
  rw [R_tx_eq (f := g) (fun q => o3 51 q (by decide) (by decide))] at hg4
  obtain ⟨t, ht⟩ : ∃ t, t = 20 + R_tl 20 n1 + R_ml N (20 + R_tl 20 n1) + R_tl (20 + R_tl 20 n1 + R_ml N (20 + R_tl 20 n1)) n2 + R_tl (20 + R_tl 20 n1 + R_ml N (20 + R_tl 20 n1) + R_tl (20 + R_tl 20 n1 + R_ml N (20 + R_tl 20 n1)) n2) n3 := ⟨_, rfl⟩
  have t4 : (g4.1 66 0).toInt = (t : Int) := by rw [hg4]; exact R_sz t3 (by rw [R_tx_len, ht]) (by omega)
  have o4 : ∀ k j, k ≠ 65 → k ≠ 66 → g4.1 k j = g.1 k j := fun k j e1 e2 => by rw [hg4, R_bs_o e1 e2, o3 k j e1 e2]
  conv => whnf
  refine hC _ _ _ _ (((r_putNumber t4 (by omega)).up (show d + 3 ≤ d + 4 by omega)).mp ?_)
  rintro r g5 ⟨rfl, hg5⟩
  have t5 : (g5.1 66 0).toInt = ((t + 12 : Nat) : Int) := by rw [hg5]; exact R_sz (bs := R_nm 258 4) t4 rfl (by omega)
  have o5 : ∀ k j, k ≠ 65 → k ≠ 66 → g5.1 k j = g.1 k j := fun k j e1 e2 => by rw [hg5, R_bs_o e1 e2, o4 k j e1 e2]
  conv => whnf
  refine hC _ _ _ _ (((r_putNumber t5 (by omega)).up (show d + 3 ≤ d + 4 by omega)).mp ?_)
  rintro r g6 ⟨rfl, hg6⟩
  have t6 : (g6.1 66 0).toInt = ((t + 12 + 12 : Nat) : Int) := by rw [hg6]; exact R_sz (bs := R_nm 285 0) t5 rfl (by omega)
  have o6 : ∀ k j, k ≠ 65 → k ≠ 66 → g6.1 k j = g.1 k j := fun k j e1 e2 => by rw [hg6, R_bs_o e1 e2, o5 k j e1 e2]
  conv => whnf
  refine ⟨hii, ?_⟩
  conv => whnf
  rw [hin, o6 58 iN (by decide) (by decide)]
  refine hC _ _ _ _ (((r_go hc hc8 t6 (by omega) (by rw [o6 33 cN (by decide) (by decide)]; exact ha) ha2 (by rw [o6 32 cN (by decide) (by decide)]; exact hz) hz2).up (show d + 1 ≤ d + 4 by omega)).mp ?_)
  rintro r g7 ⟨rfl, hg7⟩
  conv => whnf
  refine ⟨hii, ?_⟩
  conv => whnf
  refine ⟨hii, ?_⟩
  conv => whnf
  rw [hin]
  have e : g6 = R_bs g (R_askT g iN N n1 n2 n3) := by
    rw [hg6, hg5, hg4, hg3, hg2, hg1]
    simp only [R_askT, R_bs_app]
  rw [hg7, e]
  exact hq
end JxRefask
