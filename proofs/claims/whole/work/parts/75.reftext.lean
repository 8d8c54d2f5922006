/-! THE REFERENCE: texts, heads, what every message bears -/
def R_ro (f : jx_F) (k : Nat) : Nat → Nat → List Int32
  | _, 0 => []
  | F, n + 1 => (f.1 k F >>> 0) :: R_ro f k (F + 1) n
theorem R_ro_len (f : jx_F) (k : Nat) : ∀ (n F : Nat), (R_ro f k F n).length = n
  | 0, _ => rfl
  | n + 1, F => by
    unfold R_ro
    rw [List.length_cons, R_ro_len f k n (F + 1)]
theorem R_ro_eq {f f' : jx_F} {k : Nat} (h : ∀ q, f'.1 k q = f.1 k q) : ∀ (n F : Nat), R_ro f' k F n = R_ro f k F n
  | 0, _ => rfl
  | n + 1, F => by
    unfold R_ro
    rw [h, R_ro_eq h n (F + 1)]
def R_tx (f : jx_F) (c n : Int32) (k F N s : Nat) : List Int32 := R_at c n ++ (R_ro f k F N ++ R_pd (s + 8 + N))
theorem R_pd_len (s : Nat) : (R_pd s).length = (4 - s % 4) % 4 := List.length_replicate
section JxReftext
variable {th : Nat → Nat} {σ0 : jx_S} {m d s : Nat} {f : jx_F} {v : Int32} {Q : Option Value → jx_F → Prop}
theorem r_pad_l : ∀ (z s : Nat) (f : jx_F), (f.1 66 0).toInt = (s : Int) → s + z ≤ 700 → (4 - s % 4) % 4 = z → Q none (R_bs f (List.replicate z ((0 : Int32) >>> 0))) → jx_fj th (rf_g m) (rf σ0 m) (d + 1) 197 0 [(0, .ref 0)] [] f Q
  | 0, s, f, hs, hl, hz, h => by
    refine rf_at dt_197 40 [(0, [0])] dt_197_k (by decide +kernel) ?_
    intro C J hC hJ
    conv => whnf
    refine jx_yes (show f.1 66 0 - f.1 66 0 / 4 * 4 = 0 from (i32_z (i32_rem (c := 4) hs (by decide) (by omega))).mpr (by omega)) ?_
    conv => whnf
    exact h
  | z + 1, s, f, hs, hl, hz, h => by
    refine rf_at dt_197 40 [(0, [0])] dt_197_k (by decide +kernel) ?_
    intro C J hC hJ
    conv => whnf
    refine jx_no (show ¬ f.1 66 0 - f.1 66 0 / 4 * 4 = 0 from fun e => by have := (i32_z (i32_rem (c := 4) hs (by decide) (by omega))).mp e; omega) ?_
    conv => whnf
    refine hC _ _ _ _ ((r_put1 hs (by omega)).mp ?_)
    rintro r f1 ⟨rfl, hf1⟩
    conv => whnf
    refine hJ _ _ _ _ (r_pad_l z (s + 1) f1 (by rw [hf1]; exact R_sz (bs := R_p1 0) hs rfl (by omega)) (by omega) (by omega) ?_)
    rw [hf1]
    exact h
theorem r_pad (hs : (f.1 66 0).toInt = (s : Int)) (hl : s + 3 ≤ 700) : rfc th σ0 m (d + 2) 197 [.ref 0] f (fun r f' => r = none ∧ f' = R_bs f (R_pd s)) := by
  refine jx_fc_of (Nat.le_of_ble_eq_true rfl) ?_
  exact r_pad_l ((4 - s % 4) % 4) s f hs (by omega) rfl ⟨rfl, rfl⟩
theorem r_text_l5 {c fr n : Int32} {F N : Nat} {f0 : jx_F} (hF : fr.toInt = (F : Int)) (hn : n.toInt = (N : Int)) (hFN : F + N ≤ 40) : ∀ (r j s : Nat) (i : Int32) (f : jx_F), i.toInt = (j : Int) → j + r = N → (f.1 66 0).toInt = (s : Int) → s + r ≤ 700 → (∀ q, f.1 5 q = f0.1 5 q) → (∀ f', f' = R_bs f (R_ro f0 5 (F + j) r) → jx_fj th (rf_g m) (rf σ0 m) (d + 2) 195 34 [(0, .ref 0)] [] f' Q) → jx_fj th (rf_g m) (rf σ0 m) (d + 2) 195 10 [(0, .ref 0), (2, .ref 6), (3, .int fr), (4, .int n), (5, .int i)] [] f Q
  | 0, j, s, i, f, hi, hj, hs, hl, hq, h => by
    refine rf_at dt_195 40 [(34, [0])] dt_195_k (by decide +kernel) ?_
    intro C J hC hJ
    conv => whnf
    refine jx_yes (show n ≤ i by rw [Int32.le_iff_toInt_le]; omega) ?_
    conv => whnf
    exact hJ _ _ _ _ (h f rfl)
  | r + 1, j, s, i, f, hi, hj, hs, hl, hq, h => by
    refine rf_at dt_195 40 [(10, [0, 2, 3, 4, 5])] dt_195_k (by decide +kernel) ?_
    intro C J hC hJ
    conv => whnf
    refine jx_no (show ¬ n ≤ i by rw [Int32.le_iff_toInt_le]; omega) ?_
    conv => whnf
    have hfi : (fr + i).toInt = ((F + j : Nat) : Int) := by rw [i32_add hF hi (by omega) (by omega)]; omega
    refine ⟨jx_in_nat hfi (show F + j < 40 by omega), ?_⟩
    conv => whnf
    have hv : f.1 5 (fr + i).toNatClampNeg = f0.1 5 (F + j) := by
      rw [hq, show (fr + i).toNatClampNeg = F + j from by show (fr + i).toInt.toNat = _; omega]
    rw [hv]
    refine hC _ _ _ _ (((r_put1 hs (by omega)).up (show d + 1 ≤ d + 2 by omega)).mp ?_)
    rintro r' f1 ⟨rfl, hf1⟩
    conv => whnf
    have hi1 : (i + Int32.ofInt 1).toInt = ((j + 1 : Nat) : Int) := by rw [i32_add (c := 1) hi (by decide) (by omega) (by omega)]; omega
    have hs1 : (f1.1 66 0).toInt = ((s + 1 : Nat) : Int) := by rw [hf1]; exact R_sz (bs := R_p1 _) hs rfl (by omega)
    have hq1 : ∀ q, f1.1 5 q = f0.1 5 q := fun q => by rw [hf1]; exact (R_bs_o (by decide) (by decide) _ _).trans (hq q)
    have h1 : ∀ f', f' = R_bs f1 (R_ro f0 5 (F + (j + 1)) r) → jx_fj th (rf_g m) (rf σ0 m) (d + 2) 195 34 [(0, .ref 0)] [] f' Q := fun f' hf' => h f' (by rw [hf', hf1]; rfl)
    exact hJ _ _ _ _ (r_text_l5 (c := c) hF hn hFN r (j + 1) (s + 1) _ f1 hi1 (by omega) hs1 (by omega) hq1 h1)
theorem r_text5 {c fr n : Int32} {F N : Nat} (hF : fr.toInt = (F : Int)) (hn : n.toInt = (N : Int)) (hFN : F + N ≤ 40) (hs : (f.1 66 0).toInt = (s : Int)) (hl : s + (N + 11) ≤ 700) : rfc th σ0 m (d + 3) 195 [.ref 0, .int c, .ref 6, .int fr, .int n] f (fun r f' => r = none ∧ f' = R_bs f (R_tx f c n 5 F N s)) := by
  refine rf_go dt_195 40 [(10, [0, 2, 3, 4, 5])] dt_195_k (by decide +kernel) rfl ?_
  intro C J hC hJ
  conv => whnf
  refine hC _ _ _ _ ((r_attribute hs (by omega)).mp ?_)
  rintro r f1 ⟨rfl, hf1⟩
  have hs1 : (f1.1 66 0).toInt = ((s + 8 : Nat) : Int) := by rw [hf1]; exact R_sz (bs := R_at c n) hs rfl (by omega)
  conv => whnf
  refine hJ _ _ _ _ (r_text_l5 (f0 := f) (c := c) hF hn hFN N 0 (s + 8) 0 f1 (by decide) (by omega) hs1 (by omega) (fun q => by rw [hf1]; exact R_bs_o (by decide) (by decide) _ _) ?_)
  intro f2 hf2
  have hs2 : (f2.1 66 0).toInt = ((s + 8 + N : Nat) : Int) := by rw [hf2]; exact R_sz (bs := R_ro f 5 (F + 0) N) hs1 (by rw [R_ro_len]) (by omega)
  refine rf_at dt_195 40 [] dt_195_k (by decide +kernel) ?_
  intro C J hC hJ
  conv => whnf
  refine hC _ _ _ _ ((r_pad hs2 (by omega)).mp ?_)
  rintro r f3 ⟨rfl, hf3⟩
  conv => whnf
  refine ⟨rfl, ?_⟩
  rw [hf3, hf2, hf1]
  simp only [R_tx, R_bs_app, Nat.add_zero]
theorem r_text_l29 {c fr n : Int32} {F N : Nat} {f0 : jx_F} (hF : fr.toInt = (F : Int)) (hn : n.toInt = (N : Int)) (hFN : F + N ≤ 5400) : ∀ (r j s : Nat) (i : Int32) (f : jx_F), i.toInt = (j : Int) → j + r = N → (f.1 66 0).toInt = (s : Int) → s + r ≤ 700 → (∀ q, f.1 29 q = f0.1 29 q) → (∀ f', f' = R_bs f (R_ro f0 29 (F + j) r) → jx_fj th (rf_g m) (rf σ0 m) (d + 2) 195 34 [(0, .ref 0)] [] f' Q) → jx_fj th (rf_g m) (rf σ0 m) (d + 2) 195 10 [(0, .ref 0), (2, .ref 30), (3, .int fr), (4, .int n), (5, .int i)] [] f Q
  | 0, j, s, i, f, hi, hj, hs, hl, hq, h => by
    refine rf_at dt_195 40 [(34, [0])] dt_195_k (by decide +kernel) ?_
    intro C J hC hJ
    conv => whnf
    refine jx_yes (show n ≤ i by rw [Int32.le_iff_toInt_le]; omega) ?_
    conv => whnf
    exact hJ _ _ _ _ (h f rfl)
  | r + 1, j, s, i, f, hi, hj, hs, hl, hq, h => by
    refine rf_at dt_195 40 [(10, [0, 2, 3, 4, 5])] dt_195_k (by decide +kernel) ?_
    intro C J hC hJ
    conv => whnf
    refine jx_no (show ¬ n ≤ i by rw [Int32.le_iff_toInt_le]; omega) ?_
    conv => whnf
    have hfi : (fr + i).toInt = ((F + j : Nat) : Int) := by rw [i32_add hF hi (by omega) (by omega)]; omega
    refine ⟨jx_in_nat hfi (show F + j < 5400 by omega), ?_⟩
    conv => whnf
    have hv : f.1 29 (fr + i).toNatClampNeg = f0.1 29 (F + j) := by
      rw [hq, show (fr + i).toNatClampNeg = F + j from by show (fr + i).toInt.toNat = _; omega]
    rw [hv]
    refine hC _ _ _ _ (((r_put1 hs (by omega)).up (show d + 1 ≤ d + 2 by omega)).mp ?_)
    rintro r' f1 ⟨rfl, hf1⟩
    conv => whnf
    have hi1 : (i + Int32.ofInt 1).toInt = ((j + 1 : Nat) : Int) := by rw [i32_add (c := 1) hi (by decide) (by omega) (by omega)]; omega
    have hs1 : (f1.1 66 0).toInt = ((s + 1 : Nat) : Int) := by rw [hf1]; exact R_sz (bs := R_p1 _) hs rfl (by omega)
    have hq1 : ∀ q, f1.1 29 q = f0.1 29 q := fun q => by rw [hf1]; exact (R_bs_o (by decide) (by decide) _ _).trans (hq q)
    have h1 : ∀ f', f' = R_bs f1 (R_ro f0 29 (F + (j + 1)) r) → jx_fj th (rf_g m) (rf σ0 m) (d + 2) 195 34 [(0, .ref 0)] [] f' Q := fun f' hf' => h f' (by rw [hf', hf1]; rfl)
    exact hJ _ _ _ _ (r_text_l29 (c := c) hF hn hFN r (j + 1) (s + 1) _ f1 hi1 (by omega) hs1 (by omega) hq1 h1)
theorem r_text29 {c fr n : Int32} {F N : Nat} (hF : fr.toInt = (F : Int)) (hn : n.toInt = (N : Int)) (hFN : F + N ≤ 5400) (hs : (f.1 66 0).toInt = (s : Int)) (hl : s + (N + 11) ≤ 700) : rfc th σ0 m (d + 3) 195 [.ref 0, .int c, .ref 30, .int fr, .int n] f (fun r f' => r = none ∧ f' = R_bs f (R_tx f c n 29 F N s)) := by
  refine rf_go dt_195 40 [(10, [0, 2, 3, 4, 5])] dt_195_k (by decide +kernel) rfl ?_
  intro C J hC hJ
  conv => whnf
  refine hC _ _ _ _ ((r_attribute hs (by omega)).mp ?_)
  rintro r f1 ⟨rfl, hf1⟩
  have hs1 : (f1.1 66 0).toInt = ((s + 8 : Nat) : Int) := by rw [hf1]; exact R_sz (bs := R_at c n) hs rfl (by omega)
  conv => whnf
  refine hJ _ _ _ _ (r_text_l29 (f0 := f) (c := c) hF hn hFN N 0 (s + 8) 0 f1 (by decide) (by omega) hs1 (by omega) (fun q => by rw [hf1]; exact R_bs_o (by decide) (by decide) _ _) ?_)
  intro f2 hf2
  have hs2 : (f2.1 66 0).toInt = ((s + 8 + N : Nat) : Int) := by rw [hf2]; exact R_sz (bs := R_ro f 29 (F + 0) N) hs1 (by rw [R_ro_len]) (by omega)
  refine rf_at dt_195 40 [] dt_195_k (by decide +kernel) ?_
  intro C J hC hJ
  conv => whnf
  refine hC _ _ _ _ ((r_pad hs2 (by omega)).mp ?_)
  rintro r f3 ⟨rfl, hf3⟩
  conv => whnf
  refine ⟨rfl, ?_⟩
  rw [hf3, hf2, hf1]
  simp only [R_tx, R_bs_app, Nat.add_zero]
theorem r_text_l50 {c fr n : Int32} {F N : Nat} {f0 : jx_F} (hF : fr.toInt = (F : Int)) (hn : n.toInt = (N : Int)) (hFN : F + N ≤ 2624) : ∀ (r j s : Nat) (i : Int32) (f : jx_F), i.toInt = (j : Int) → j + r = N → (f.1 66 0).toInt = (s : Int) → s + r ≤ 700 → (∀ q, f.1 50 q = f0.1 50 q) → (∀ f', f' = R_bs f (R_ro f0 50 (F + j) r) → jx_fj th (rf_g m) (rf σ0 m) (d + 2) 195 34 [(0, .ref 0)] [] f' Q) → jx_fj th (rf_g m) (rf σ0 m) (d + 2) 195 10 [(0, .ref 0), (2, .ref 51), (3, .int fr), (4, .int n), (5, .int i)] [] f Q
  | 0, j, s, i, f, hi, hj, hs, hl, hq, h => by
    refine rf_at dt_195 40 [(34, [0])] dt_195_k (by decide +kernel) ?_
    intro C J hC hJ
    conv => whnf
    refine jx_yes (show n ≤ i by rw [Int32.le_iff_toInt_le]; omega) ?_
    conv => whnf
    exact hJ _ _ _ _ (h f rfl)
  | r + 1, j, s, i, f, hi, hj, hs, hl, hq, h => by
    refine rf_at dt_195 40 [(10, [0, 2, 3, 4, 5])] dt_195_k (by decide +kernel) ?_
    intro C J hC hJ
    conv => whnf
    refine jx_no (show ¬ n ≤ i by rw [Int32.le_iff_toInt_le]; omega) ?_
    conv => whnf
    have hfi : (fr + i).toInt = ((F + j : Nat) : Int) := by rw [i32_add hF hi (by omega) (by omega)]; omega
    refine ⟨jx_in_nat hfi (show F + j < 2624 by omega), ?_⟩
    conv => whnf
    have hv : f.1 50 (fr + i).toNatClampNeg = f0.1 50 (F + j) := by
      rw [hq, show (fr + i).toNatClampNeg = F + j from by show (fr + i).toInt.toNat = _; omega]
    rw [hv]
    refine hC _ _ _ _ (((r_put1 hs (by omega)).up (show d + 1 ≤ d + 2 by omega)).mp ?_)
    rintro r' f1 ⟨rfl, hf1⟩
    conv => whnf
    have hi1 : (i + Int32.ofInt 1).toInt = ((j + 1 : Nat) : Int) := by rw [i32_add (c := 1) hi (by decide) (by omega) (by omega)]; omega
    have hs1 : (f1.1 66 0).toInt = ((s + 1 : Nat) : Int) := by rw [hf1]; exact R_sz (bs := R_p1 _) hs rfl (by omega)
    have hq1 : ∀ q, f1.1 50 q = f0.1 50 q := fun q => by rw [hf1]; exact (R_bs_o (by decide) (by decide) _ _).trans (hq q)
    have h1 : ∀ f', f' = R_bs f1 (R_ro f0 50 (F + (j + 1)) r) → jx_fj th (rf_g m) (rf σ0 m) (d + 2) 195 34 [(0, .ref 0)] [] f' Q := fun f' hf' => h f' (by rw [hf', hf1]; rfl)
    exact hJ _ _ _ _ (r_text_l50 (c := c) hF hn hFN r (j + 1) (s + 1) _ f1 hi1 (by omega) hs1 (by omega) hq1 h1)
theorem r_text50 {c fr n : Int32} {F N : Nat} (hF : fr.toInt = (F : Int)) (hn : n.toInt = (N : Int)) (hFN : F + N ≤ 2624) (hs : (f.1 66 0).toInt = (s : Int)) (hl : s + (N + 11) ≤ 700) : rfc th σ0 m (d + 3) 195 [.ref 0, .int c, .ref 51, .int fr, .int n] f (fun r f' => r = none ∧ f' = R_bs f (R_tx f c n 50 F N s)) := by
  refine rf_go dt_195 40 [(10, [0, 2, 3, 4, 5])] dt_195_k (by decide +kernel) rfl ?_
  intro C J hC hJ
  conv => whnf
  refine hC _ _ _ _ ((r_attribute hs (by omega)).mp ?_)
  rintro r f1 ⟨rfl, hf1⟩
  have hs1 : (f1.1 66 0).toInt = ((s + 8 : Nat) : Int) := by rw [hf1]; exact R_sz (bs := R_at c n) hs rfl (by omega)
  conv => whnf
  refine hJ _ _ _ _ (r_text_l50 (f0 := f) (c := c) hF hn hFN N 0 (s + 8) 0 f1 (by decide) (by omega) hs1 (by omega) (fun q => by rw [hf1]; exact R_bs_o (by decide) (by decide) _ _) ?_)
  intro f2 hf2
  have hs2 : (f2.1 66 0).toInt = ((s + 8 + N : Nat) : Int) := by rw [hf2]; exact R_sz (bs := R_ro f 50 (F + 0) N) hs1 (by rw [R_ro_len]) (by omega)
  refine rf_at dt_195 40 [] dt_195_k (by decide +kernel) ?_
  intro C J hC hJ
  conv => whnf
  refine hC _ _ _ _ ((r_pad hs2 (by omega)).mp ?_)
  rintro r f3 ⟨rfl, hf3⟩
  conv => whnf
  refine ⟨rfl, ?_⟩
  rw [hf3, hf2, hf1]
  simp only [R_tx, R_bs_app, Nat.add_zero]
theorem r_text_l51 {c fr n : Int32} {F N : Nat} {f0 : jx_F} (hF : fr.toInt = (F : Int)) (hn : n.toInt = (N : Int)) (hFN : F + N ≤ 2624) : ∀ (r j s : Nat) (i : Int32) (f : jx_F), i.toInt = (j : Int) → j + r = N → (f.1 66 0).toInt = (s : Int) → s + r ≤ 700 → (∀ q, f.1 51 q = f0.1 51 q) → (∀ f', f' = R_bs f (R_ro f0 51 (F + j) r) → jx_fj th (rf_g m) (rf σ0 m) (d + 2) 195 34 [(0, .ref 0)] [] f' Q) → jx_fj th (rf_g m) (rf σ0 m) (d + 2) 195 10 [(0, .ref 0), (2, .ref 52), (3, .int fr), (4, .int n), (5, .int i)] [] f Q
  | 0, j, s, i, f, hi, hj, hs, hl, hq, h => by
    refine rf_at dt_195 40 [(34, [0])] dt_195_k (by decide +kernel) ?_
    intro C J hC hJ
    conv => whnf
    refine jx_yes (show n ≤ i by rw [Int32.le_iff_toInt_le]; omega) ?_
    conv => whnf
    exact hJ _ _ _ _ (h f rfl)
  | r + 1, j, s, i, f, hi, hj, hs, hl, hq, h => by
    refine rf_at dt_195 40 [(10, [0, 2, 3, 4, 5])] dt_195_k (by decide +kernel) ?_
    intro C J hC hJ
    conv => whnf
    refine jx_no (show ¬ n ≤ i by rw [Int32.le_iff_toInt_le]; omega) ?_
    conv => whnf
    have hfi : (fr + i).toInt = ((F + j : Nat) : Int) := by rw [i32_add hF hi (by omega) (by omega)]; omega
    refine ⟨jx_in_nat hfi (show F + j < 2624 by omega), ?_⟩
    conv => whnf
    have hv : f.1 51 (fr + i).toNatClampNeg = f0.1 51 (F + j) := by
      rw [hq, show (fr + i).toNatClampNeg = F + j from by show (fr + i).toInt.toNat = _; omega]
    rw [hv]
    refine hC _ _ _ _ (((r_put1 hs (by omega)).up (show d + 1 ≤ d + 2 by omega)).mp ?_)
    rintro r' f1 ⟨rfl, hf1⟩
    conv => whnf
    have hi1 : (i + Int32.ofInt 1).toInt = ((j + 1 : Nat) : Int) := by rw [i32_add (c := 1) hi (by decide) (by omega) (by omega)]; omega
    have hs1 : (f1.1 66 0).toInt = ((s + 1 : Nat) : Int) := by rw [hf1]; exact R_sz (bs := R_p1 _) hs rfl (by omega)
    have hq1 : ∀ q, f1.1 51 q = f0.1 51 q := fun q => by rw [hf1]; exact (R_bs_o (by decide) (by decide) _ _).trans (hq q)
    have h1 : ∀ f', f' = R_bs f1 (R_ro f0 51 (F + (j + 1)) r) → jx_fj th (rf_g m) (rf σ0 m) (d + 2) 195 34 [(0, .ref 0)] [] f' Q := fun f' hf' => h f' (by rw [hf', hf1]; rfl)
    exact hJ _ _ _ _ (r_text_l51 (c := c) hF hn hFN r (j + 1) (s + 1) _ f1 hi1 (by omega) hs1 (by omega) hq1 h1)
theorem r_text51 {c fr n : Int32} {F N : Nat} (hF : fr.toInt = (F : Int)) (hn : n.toInt = (N : Int)) (hFN : F + N ≤ 2624) (hs : (f.1 66 0).toInt = (s : Int)) (hl : s + (N + 11) ≤ 700) : rfc th σ0 m (d + 3) 195 [.ref 0, .int c, .ref 52, .int fr, .int n] f (fun r f' => r = none ∧ f' = R_bs f (R_tx f c n 51 F N s)) := by
  refine rf_go dt_195 40 [(10, [0, 2, 3, 4, 5])] dt_195_k (by decide +kernel) rfl ?_
  intro C J hC hJ
  conv => whnf
  refine hC _ _ _ _ ((r_attribute hs (by omega)).mp ?_)
  rintro r f1 ⟨rfl, hf1⟩
  have hs1 : (f1.1 66 0).toInt = ((s + 8 : Nat) : Int) := by rw [hf1]; exact R_sz (bs := R_at c n) hs rfl (by omega)
  conv => whnf
  refine hJ _ _ _ _ (r_text_l51 (f0 := f) (c := c) hF hn hFN N 0 (s + 8) 0 f1 (by decide) (by omega) hs1 (by omega) (fun q => by rw [hf1]; exact R_bs_o (by decide) (by decide) _ _) ?_)
  intro f2 hf2
  have hs2 : (f2.1 66 0).toInt = ((s + 8 + N : Nat) : Int) := by rw [hf2]; exact R_sz (bs := R_ro f 51 (F + 0) N) hs1 (by rw [R_ro_len]) (by omega)
  refine rf_at dt_195 40 [] dt_195_k (by decide +kernel) ?_
  intro C J hC hJ
  conv => whnf
  refine hC _ _ _ _ ((r_pad hs2 (by omega)).mp ?_)
  rintro r f3 ⟨rfl, hf3⟩
  conv => whnf
  refine ⟨rfl, ?_⟩
  rw [hf3, hf2, hf1]
  simp only [R_tx, R_bs_app, Nat.add_zero]
theorem r_text_l52 {c fr n : Int32} {F N : Nat} {f0 : jx_F} (hF : fr.toInt = (F : Int)) (hn : n.toInt = (N : Int)) (hFN : F + N ≤ 2624) : ∀ (r j s : Nat) (i : Int32) (f : jx_F), i.toInt = (j : Int) → j + r = N → (f.1 66 0).toInt = (s : Int) → s + r ≤ 700 → (∀ q, f.1 52 q = f0.1 52 q) → (∀ f', f' = R_bs f (R_ro f0 52 (F + j) r) → jx_fj th (rf_g m) (rf σ0 m) (d + 2) 195 34 [(0, .ref 0)] [] f' Q) → jx_fj th (rf_g m) (rf σ0 m) (d + 2) 195 10 [(0, .ref 0), (2, .ref 53), (3, .int fr), (4, .int n), (5, .int i)] [] f Q
  | 0, j, s, i, f, hi, hj, hs, hl, hq, h => by
    refine rf_at dt_195 40 [(34, [0])] dt_195_k (by decide +kernel) ?_
    intro C J hC hJ
    conv => whnf
    refine jx_yes (show n ≤ i by rw [Int32.le_iff_toInt_le]; omega) ?_
    conv => whnf
    exact hJ _ _ _ _ (h f rfl)
  | r + 1, j, s, i, f, hi, hj, hs, hl, hq, h => by
    refine rf_at dt_195 40 [(10, [0, 2, 3, 4, 5])] dt_195_k (by decide +kernel) ?_
    intro C J hC hJ
    conv => whnf
    refine jx_no (show ¬ n ≤ i by rw [Int32.le_iff_toInt_le]; omega) ?_
    conv => whnf
    have hfi : (fr + i).toInt = ((F + j : Nat) : Int) := by rw [i32_add hF hi (by omega) (by omega)]; omega
    refine ⟨jx_in_nat hfi (show F + j < 2624 by omega), ?_⟩
    conv => whnf
    have hv : f.1 52 (fr + i).toNatClampNeg = f0.1 52 (F + j) := by
      rw [hq, show (fr + i).toNatClampNeg = F + j from by show (fr + i).toInt.toNat = _; omega]
    rw [hv]
    refine hC _ _ _ _ (((r_put1 hs (by omega)).up (show d + 1 ≤ d + 2 by omega)).mp ?_)
    rintro r' f1 ⟨rfl, hf1⟩
    conv => whnf
    have hi1 : (i + Int32.ofInt 1).toInt = ((j + 1 : Nat) : Int) := by rw [i32_add (c := 1) hi (by decide) (by omega) (by omega)]; omega
    have hs1 : (f1.1 66 0).toInt = ((s + 1 : Nat) : Int) := by rw [hf1]; exact R_sz (bs := R_p1 _) hs rfl (by omega)
    have hq1 : ∀ q, f1.1 52 q = f0.1 52 q := fun q => by rw [hf1]; exact (R_bs_o (by decide) (by decide) _ _).trans (hq q)
    have h1 : ∀ f', f' = R_bs f1 (R_ro f0 52 (F + (j + 1)) r) → jx_fj th (rf_g m) (rf σ0 m) (d + 2) 195 34 [(0, .ref 0)] [] f' Q := fun f' hf' => h f' (by rw [hf', hf1]; rfl)
    exact hJ _ _ _ _ (r_text_l52 (c := c) hF hn hFN r (j + 1) (s + 1) _ f1 hi1 (by omega) hs1 (by omega) hq1 h1)
theorem r_text52 {c fr n : Int32} {F N : Nat} (hF : fr.toInt = (F : Int)) (hn : n.toInt = (N : Int)) (hFN : F + N ≤ 2624) (hs : (f.1 66 0).toInt = (s : Int)) (hl : s + (N + 11) ≤ 700) : rfc th σ0 m (d + 3) 195 [.ref 0, .int c, .ref 53, .int fr, .int n] f (fun r f' => r = none ∧ f' = R_bs f (R_tx f c n 52 F N s)) := by
  refine rf_go dt_195 40 [(10, [0, 2, 3, 4, 5])] dt_195_k (by decide +kernel) rfl ?_
  intro C J hC hJ
  conv => whnf
  refine hC _ _ _ _ ((r_attribute hs (by omega)).mp ?_)
  rintro r f1 ⟨rfl, hf1⟩
  have hs1 : (f1.1 66 0).toInt = ((s + 8 : Nat) : Int) := by rw [hf1]; exact R_sz (bs := R_at c n) hs rfl (by omega)
  conv => whnf
  refine hJ _ _ _ _ (r_text_l52 (f0 := f) (c := c) hF hn hFN N 0 (s + 8) 0 f1 (by decide) (by omega) hs1 (by omega) (fun q => by rw [hf1]; exact R_bs_o (by decide) (by decide) _ _) ?_)
  intro f2 hf2
  have hs2 : (f2.1 66 0).toInt = ((s + 8 + N : Nat) : Int) := by rw [hf2]; exact R_sz (bs := R_ro f 52 (F + 0) N) hs1 (by rw [R_ro_len]) (by omega)
  refine rf_at dt_195 40 [] dt_195_k (by decide +kernel) ?_
  intro C J hC hJ
  conv => whnf
  refine hC _ _ _ _ ((r_pad hs2 (by omega)).mp ?_)
  rintro r f3 ⟨rfl, hf3⟩
  conv => whnf
  refine ⟨rfl, ?_⟩
  rw [hf3, hf2, hf1]
  simp only [R_tx, R_bs_app, Nat.add_zero]
end JxReftext
