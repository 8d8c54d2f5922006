/-! THE REFERENCE: texts of the message, compared and copied -/
def R_isT (f : jx_F) (k S q F : Nat) (nv : Int32) (N : Nat) : Prop := f.1 78 k = nv ∧ ∀ j, j < N → f.1 29 (S + j) = f.1 q (F + j)
/-- a text is laid into a row, its size before it -/
def R_cpT (f : jx_F) (k S q at' N : Nat) : jx_F := R_cy (rf_ui f q at' (vp_nar .byte (f.1 78 k))) 29 S q (at' + 1) N
section JxReftext2
variable {th : Nat → Nat} {σ0 : jx_S} {m d k S F N a : Nat} {f : jx_F} {kv fv nv av sv iv : Int32} {Q : Option Value → jx_F → Prop}
theorem r_isT_x8 (h : Q (some (.int 0)) f) : jx_fj th (rf_g m) (rf σ0 m) d 234 21 [(0, .ref 0), (1, .int kv), (2, .ref 9), (3, .int fv), (4, .int nv), (5, .int 0), (6, .int iv)] [] f Q := by
  refine rf_at dt_234 40 [] dt_234_k (by decide +kernel) ?_
  intro C J hC hJ
  conv => whnf
  refine ⟨fun (h1 : nv ≤ iv) => ?_, fun (h1 : ¬ nv ≤ iv) => ?_⟩
  · conv => whnf
    exact ⟨by decide, h⟩
  · conv => whnf
    refine jx_yes (show (0 : Int32) = 0 from rfl) ?_
    conv => whnf
    exact ⟨by decide, h⟩
theorem r_isT_l8 (hk : kv.toInt = (k : Int)) (hk12 : k < 12) (hS : (f.1 67 0 + f.1 77 k).toInt = (S : Int)) (hS5 : S + N ≤ 5400) (hF : fv.toInt = (F : Int)) (hFN : F + N ≤ 160) (hN : nv.toInt = (N : Int)) : ∀ (r i : Nat) (iv : Int32), iv.toInt = (i : Int) → i + r = N → ((∀ j, i ≤ j → j < N → f.1 29 (S + j) = f.1 8 (F + j)) → Q (some (.int 1)) f) → (¬ (∀ j, i ≤ j → j < N → f.1 29 (S + j) = f.1 8 (F + j)) → Q (some (.int 0)) f) → jx_fj th (rf_g m) (rf σ0 m) d 234 21 [(0, .ref 0), (1, .int kv), (2, .ref 9), (3, .int fv), (4, .int nv), (5, .int 1), (6, .int iv)] [] f Q
  | 0, i, iv, hv, hi, h1, h0 => by
    refine rf_at dt_234 40 [] dt_234_k (by decide +kernel) ?_
    intro C J hC hJ
    conv => whnf
    refine jx_yes (show nv ≤ iv by rw [Int32.le_iff_toInt_le, hv, hN]; omega) ?_
    conv => whnf
    exact ⟨by decide, h1 (fun j j1 j2 => by omega)⟩
  | r + 1, i, iv, hv, hi, h1, h0 => by
    have i1 : (iv + Int32.ofInt 1).toInt = ((i + 1 : Nat) : Int) := i32_k1 (j := 1) hv (by decide) (by omega)
    have hsi : (f.1 67 0 + f.1 77 k + iv).toInt = ((S + i : Nat) : Int) := i32_k1 hS hv (by omega)
    have hfi : (fv + iv).toInt = ((F + i : Nat) : Int) := i32_k1 hF hv (by omega)
    refine rf_at dt_234 60 [(21, [0, 1, 2, 3, 4, 5, 6])] dt_234_k (by decide +kernel) ?_
    intro C J hC hJ
    conv => whnf
    refine jx_no (show ¬ nv ≤ iv by rw [Int32.le_iff_toInt_le, hv, hN]; omega) ?_
    conv => whnf
    refine jx_no (show ¬ (1 : Int32) = 0 by decide) ?_
    conv => whnf
    refine ⟨jx_in_nat hk hk12, ?_⟩
    conv => whnf
    rw [i32_nat hk]
    refine ⟨jx_in_nat hsi (show S + i < 5400 by omega), ?_⟩
    conv => whnf
    refine ⟨jx_in_nat hfi (show F + i < 160 by omega), ?_⟩
    conv => whnf
    rw [show ((fun x y : Int32 => x + y) ((fun x y : Int32 => x + y) (f.1 67 0) (f.1 77 k)) iv).toNatClampNeg = S + i from i32_nat hsi, show ((fun x y : Int32 => x + y) fv iv).toNatClampNeg = F + i from i32_nat hfi]
    refine ⟨fun (e : ¬ f.1 29 (S + i) = f.1 8 (F + i)) => ?_, fun (e : ¬ ¬ f.1 29 (S + i) = f.1 8 (F + i)) => ?_⟩
    · conv => whnf
      exact hJ _ _ _ _ (r_isT_x8 (h0 (fun z => e (z i (Nat.le_refl _) (by omega)))))
    · have e := Decidable.not_not.mp e
      conv => whnf
      exact hJ _ _ _ _ (r_isT_l8 hk hk12 hS hS5 hF hFN hN r (i + 1) _ i1 (by omega) (fun z => h1 (fun j j1 j2 => by
        by_cases ej : j = i
        · rw [ej]; exact e
        · exact z j (by omega) j2)) (fun z => h0 (fun w => z (fun j j1 j2 => w j (by omega) j2))))
theorem r_isText8 (hk : kv.toInt = (k : Int)) (hk12 : k < 12) (hS : (f.1 67 0 + f.1 77 k).toInt = (S : Int)) (hS5 : f.1 78 k = nv → S + N ≤ 5400) (hF : fv.toInt = (F : Int)) (hFN : F + N ≤ 160) (hN : nv.toInt = (N : Int)) : rfc th σ0 m (d + 1) 234 [.ref 0, .int kv, .ref 9, .int fv, .int nv] f (fun r f' => ((r = some (.int 1) ∧ R_isT f k S 8 F nv N) ∨ (r = some (.int 0) ∧ ¬ R_isT f k S 8 F nv N)) ∧ f' = f) := by
  refine rf_go dt_234 40 [(21, [0, 1, 2, 3, 4, 5, 6])] dt_234_k (by decide +kernel) rfl ?_
  intro C J hC hJ
  conv => whnf
  refine ⟨jx_in_nat hk hk12, ?_⟩
  conv => whnf
  rw [i32_nat hk]
  refine ⟨fun (e : ¬ f.1 78 k = nv) => ?_, fun (e : ¬ ¬ f.1 78 k = nv) => ?_⟩
  · conv => whnf
    exact hJ _ _ _ _ (r_isT_x8 ⟨Or.inr ⟨rfl, fun z => e z.1⟩, rfl⟩)
  · have e := Decidable.not_not.mp e
    conv => whnf
    exact hJ _ _ _ _ (r_isT_l8 hk hk12 hS (hS5 e) hF hFN hN N 0 0 (by decide) (by omega) (fun z => ⟨Or.inl ⟨rfl, e, fun j hj => z j (by omega) hj⟩, rfl⟩) (fun z => ⟨Or.inr ⟨rfl, fun w => z (fun j _ j2 => w.2 j j2)⟩, rfl⟩))
theorem r_isT_x41 (h : Q (some (.int 0)) f) : jx_fj th (rf_g m) (rf σ0 m) d 234 21 [(0, .ref 0), (1, .int kv), (2, .ref 42), (3, .int fv), (4, .int nv), (5, .int 0), (6, .int iv)] [] f Q := by
  refine rf_at dt_234 40 [] dt_234_k (by decide +kernel) ?_
  intro C J hC hJ
  conv => whnf
  refine ⟨fun (h1 : nv ≤ iv) => ?_, fun (h1 : ¬ nv ≤ iv) => ?_⟩
  · conv => whnf
    exact ⟨by decide, h⟩
  · conv => whnf
    refine jx_yes (show (0 : Int32) = 0 from rfl) ?_
    conv => whnf
    exact ⟨by decide, h⟩
theorem r_isT_l41 (hk : kv.toInt = (k : Int)) (hk12 : k < 12) (hS : (f.1 67 0 + f.1 77 k).toInt = (S : Int)) (hS5 : S + N ≤ 5400) (hF : fv.toInt = (F : Int)) (hFN : F + N ≤ 656) (hN : nv.toInt = (N : Int)) : ∀ (r i : Nat) (iv : Int32), iv.toInt = (i : Int) → i + r = N → ((∀ j, i ≤ j → j < N → f.1 29 (S + j) = f.1 41 (F + j)) → Q (some (.int 1)) f) → (¬ (∀ j, i ≤ j → j < N → f.1 29 (S + j) = f.1 41 (F + j)) → Q (some (.int 0)) f) → jx_fj th (rf_g m) (rf σ0 m) d 234 21 [(0, .ref 0), (1, .int kv), (2, .ref 42), (3, .int fv), (4, .int nv), (5, .int 1), (6, .int iv)] [] f Q
  | 0, i, iv, hv, hi, h1, h0 => by
    refine rf_at dt_234 40 [] dt_234_k (by decide +kernel) ?_
    intro C J hC hJ
    conv => whnf
    refine jx_yes (show nv ≤ iv by rw [Int32.le_iff_toInt_le, hv, hN]; omega) ?_
    conv => whnf
    exact ⟨by decide, h1 (fun j j1 j2 => by omega)⟩
  | r + 1, i, iv, hv, hi, h1, h0 => by
    have i1 : (iv + Int32.ofInt 1).toInt = ((i + 1 : Nat) : Int) := i32_k1 (j := 1) hv (by decide) (by omega)
    have hsi : (f.1 67 0 + f.1 77 k + iv).toInt = ((S + i : Nat) : Int) := i32_k1 hS hv (by omega)
    have hfi : (fv + iv).toInt = ((F + i : Nat) : Int) := i32_k1 hF hv (by omega)
    refine rf_at dt_234 60 [(21, [0, 1, 2, 3, 4, 5, 6])] dt_234_k (by decide +kernel) ?_
    intro C J hC hJ
    conv => whnf
    refine jx_no (show ¬ nv ≤ iv by rw [Int32.le_iff_toInt_le, hv, hN]; omega) ?_
    conv => whnf
    refine jx_no (show ¬ (1 : Int32) = 0 by decide) ?_
    conv => whnf
    refine ⟨jx_in_nat hk hk12, ?_⟩
    conv => whnf
    rw [i32_nat hk]
    refine ⟨jx_in_nat hsi (show S + i < 5400 by omega), ?_⟩
    conv => whnf
    refine ⟨jx_in_nat hfi (show F + i < 656 by omega), ?_⟩
    conv => whnf
    rw [show ((fun x y : Int32 => x + y) ((fun x y : Int32 => x + y) (f.1 67 0) (f.1 77 k)) iv).toNatClampNeg = S + i from i32_nat hsi, show ((fun x y : Int32 => x + y) fv iv).toNatClampNeg = F + i from i32_nat hfi]
    refine ⟨fun (e : ¬ f.1 29 (S + i) = f.1 41 (F + i)) => ?_, fun (e : ¬ ¬ f.1 29 (S + i) = f.1 41 (F + i)) => ?_⟩
    · conv => whnf
      exact hJ _ _ _ _ (r_isT_x41 (h0 (fun z => e (z i (Nat.le_refl _) (by omega)))))
    · have e := Decidable.not_not.mp e
      conv => whnf
      exact hJ _ _ _ _ (r_isT_l41 hk hk12 hS hS5 hF hFN hN r (i + 1) _ i1 (by omega) (fun z => h1 (fun j j1 j2 => by
        by_cases ej : j = i
        · rw [ej]; exact e
        · exact z j (by omega) j2)) (fun z => h0 (fun w => z (fun j j1 j2 => w j (by omega) j2))))
theorem r_isText41 (hk : kv.toInt = (k : Int)) (hk12 : k < 12) (hS : (f.1 67 0 + f.1 77 k).toInt = (S : Int)) (hS5 : f.1 78 k = nv → S + N ≤ 5400) (hF : fv.toInt = (F : Int)) (hFN : F + N ≤ 656) (hN : nv.toInt = (N : Int)) : rfc th σ0 m (d + 1) 234 [.ref 0, .int kv, .ref 42, .int fv, .int nv] f (fun r f' => ((r = some (.int 1) ∧ R_isT f k S 41 F nv N) ∨ (r = some (.int 0) ∧ ¬ R_isT f k S 41 F nv N)) ∧ f' = f) := by
  refine rf_go dt_234 40 [(21, [0, 1, 2, 3, 4, 5, 6])] dt_234_k (by decide +kernel) rfl ?_
  intro C J hC hJ
  conv => whnf
  refine ⟨jx_in_nat hk hk12, ?_⟩
  conv => whnf
  rw [i32_nat hk]
  refine ⟨fun (e : ¬ f.1 78 k = nv) => ?_, fun (e : ¬ ¬ f.1 78 k = nv) => ?_⟩
  · conv => whnf
    exact hJ _ _ _ _ (r_isT_x41 ⟨Or.inr ⟨rfl, fun z => e z.1⟩, rfl⟩)
  · have e := Decidable.not_not.mp e
    conv => whnf
    exact hJ _ _ _ _ (r_isT_l41 hk hk12 hS (hS5 e) hF hFN hN N 0 0 (by decide) (by omega) (fun z => ⟨Or.inl ⟨rfl, e, fun j hj => z j (by omega) hj⟩, rfl⟩) (fun z => ⟨Or.inr ⟨rfl, fun w => z (fun j _ j2 => w.2 j j2)⟩, rfl⟩))
theorem r_isT_x62 (h : Q (some (.int 0)) f) : jx_fj th (rf_g m) (rf σ0 m) d 234 21 [(0, .ref 0), (1, .int kv), (2, .ref 63), (3, .int fv), (4, .int nv), (5, .int 0), (6, .int iv)] [] f Q := by
  refine rf_at dt_234 40 [] dt_234_k (by decide +kernel) ?_
  intro C J hC hJ
  conv => whnf
  refine ⟨fun (h1 : nv ≤ iv) => ?_, fun (h1 : ¬ nv ≤ iv) => ?_⟩
  · conv => whnf
    exact ⟨by decide, h⟩
  · conv => whnf
    refine jx_yes (show (0 : Int32) = 0 from rfl) ?_
    conv => whnf
    exact ⟨by decide, h⟩
theorem r_isT_l62 (hk : kv.toInt = (k : Int)) (hk12 : k < 12) (hS : (f.1 67 0 + f.1 77 k).toInt = (S : Int)) (hS5 : S + N ≤ 5400) (hF : fv.toInt = (F : Int)) (hFN : F + N ≤ 1353) (hN : nv.toInt = (N : Int)) : ∀ (r i : Nat) (iv : Int32), iv.toInt = (i : Int) → i + r = N → ((∀ j, i ≤ j → j < N → f.1 29 (S + j) = f.1 62 (F + j)) → Q (some (.int 1)) f) → (¬ (∀ j, i ≤ j → j < N → f.1 29 (S + j) = f.1 62 (F + j)) → Q (some (.int 0)) f) → jx_fj th (rf_g m) (rf σ0 m) d 234 21 [(0, .ref 0), (1, .int kv), (2, .ref 63), (3, .int fv), (4, .int nv), (5, .int 1), (6, .int iv)] [] f Q
  | 0, i, iv, hv, hi, h1, h0 => by
    refine rf_at dt_234 40 [] dt_234_k (by decide +kernel) ?_
    intro C J hC hJ
    conv => whnf
    refine jx_yes (show nv ≤ iv by rw [Int32.le_iff_toInt_le, hv, hN]; omega) ?_
    conv => whnf
    exact ⟨by decide, h1 (fun j j1 j2 => by omega)⟩
  | r + 1, i, iv, hv, hi, h1, h0 => by
    have i1 : (iv + Int32.ofInt 1).toInt = ((i + 1 : Nat) : Int) := i32_k1 (j := 1) hv (by decide) (by omega)
    have hsi : (f.1 67 0 + f.1 77 k + iv).toInt = ((S + i : Nat) : Int) := i32_k1 hS hv (by omega)
    have hfi : (fv + iv).toInt = ((F + i : Nat) : Int) := i32_k1 hF hv (by omega)
    refine rf_at dt_234 60 [(21, [0, 1, 2, 3, 4, 5, 6])] dt_234_k (by decide +kernel) ?_
    intro C J hC hJ
    conv => whnf
    refine jx_no (show ¬ nv ≤ iv by rw [Int32.le_iff_toInt_le, hv, hN]; omega) ?_
    conv => whnf
    refine jx_no (show ¬ (1 : Int32) = 0 by decide) ?_
    conv => whnf
    refine ⟨jx_in_nat hk hk12, ?_⟩
    conv => whnf
    rw [i32_nat hk]
    refine ⟨jx_in_nat hsi (show S + i < 5400 by omega), ?_⟩
    conv => whnf
    refine ⟨jx_in_nat hfi (show F + i < 1353 by omega), ?_⟩
    conv => whnf
    rw [show ((fun x y : Int32 => x + y) ((fun x y : Int32 => x + y) (f.1 67 0) (f.1 77 k)) iv).toNatClampNeg = S + i from i32_nat hsi, show ((fun x y : Int32 => x + y) fv iv).toNatClampNeg = F + i from i32_nat hfi]
    refine ⟨fun (e : ¬ f.1 29 (S + i) = f.1 62 (F + i)) => ?_, fun (e : ¬ ¬ f.1 29 (S + i) = f.1 62 (F + i)) => ?_⟩
    · conv => whnf
      exact hJ _ _ _ _ (r_isT_x62 (h0 (fun z => e (z i (Nat.le_refl _) (by omega)))))
    · have e := Decidable.not_not.mp e
      conv => whnf
      exact hJ _ _ _ _ (r_isT_l62 hk hk12 hS hS5 hF hFN hN r (i + 1) _ i1 (by omega) (fun z => h1 (fun j j1 j2 => by
        by_cases ej : j = i
        · rw [ej]; exact e
        · exact z j (by omega) j2)) (fun z => h0 (fun w => z (fun j j1 j2 => w j (by omega) j2))))
theorem r_isText62 (hk : kv.toInt = (k : Int)) (hk12 : k < 12) (hS : (f.1 67 0 + f.1 77 k).toInt = (S : Int)) (hS5 : f.1 78 k = nv → S + N ≤ 5400) (hF : fv.toInt = (F : Int)) (hFN : F + N ≤ 1353) (hN : nv.toInt = (N : Int)) : rfc th σ0 m (d + 1) 234 [.ref 0, .int kv, .ref 63, .int fv, .int nv] f (fun r f' => ((r = some (.int 1) ∧ R_isT f k S 62 F nv N) ∨ (r = some (.int 0) ∧ ¬ R_isT f k S 62 F nv N)) ∧ f' = f) := by
  refine rf_go dt_234 40 [(21, [0, 1, 2, 3, 4, 5, 6])] dt_234_k (by decide +kernel) rfl ?_
  intro C J hC hJ
  conv => whnf
  refine ⟨jx_in_nat hk hk12, ?_⟩
  conv => whnf
  rw [i32_nat hk]
  refine ⟨fun (e : ¬ f.1 78 k = nv) => ?_, fun (e : ¬ ¬ f.1 78 k = nv) => ?_⟩
  · conv => whnf
    exact hJ _ _ _ _ (r_isT_x62 ⟨Or.inr ⟨rfl, fun z => e z.1⟩, rfl⟩)
  · have e := Decidable.not_not.mp e
    conv => whnf
    exact hJ _ _ _ _ (r_isT_l62 hk hk12 hS (hS5 e) hF hFN hN N 0 0 (by decide) (by omega) (fun z => ⟨Or.inl ⟨rfl, e, fun j hj => z j (by omega) hj⟩, rfl⟩) (fun z => ⟨Or.inr ⟨rfl, fun w => z (fun j _ j2 => w.2 j j2)⟩, rfl⟩))
theorem r_cpT_l41 {g : jx_F} (hk : kv.toInt = (k : Int)) (hk12 : k < 12) (hS : (g.1 67 0 + g.1 77 k).toInt = (S : Int)) (hS5 : S + N ≤ 5400) (ha : av.toInt = (a : Int)) (haN : a + 1 + N ≤ 656) (hN : (g.1 78 k).toInt = (N : Int)) : ∀ (r i : Nat) (iv : Int32), iv.toInt = (i : Int) → i + r = N → Q none (R_cy g 29 S 41 (a + 1) N) → jx_fj th (rf_g m) (rf σ0 m) d 254 13 [(0, .ref 0), (1, .int kv), (2, .ref 42), (3, .int av), (4, .int iv)] [] (R_cy g 29 S 41 (a + 1) i) Q
  | 0, i, iv, hv, hi, h => by
    have ek : i = N := by omega
    subst ek
    refine rf_at dt_254 40 [] dt_254_k (by decide +kernel) ?_
    intro C J hC hJ
    conv => whnf
    refine ⟨jx_in_nat hk hk12, ?_⟩
    conv => whnf
    rw [i32_nat hk, R_cy_o (show ¬ (78 = 41 ∧ a + 1 ≤ k ∧ k < a + 1 + i) by omega)]
    refine jx_yes (show g.1 78 k ≤ iv by rw [Int32.le_iff_toInt_le, hv, hN]; omega) ?_
    conv => whnf
    exact h
  | r + 1, i, iv, hv, hi, h => by
    have i1 : (iv + Int32.ofInt 1).toInt = ((i + 1 : Nat) : Int) := i32_k1 (j := 1) hv (by decide) (by omega)
    have hsi : (g.1 67 0 + g.1 77 k + iv).toInt = ((S + i : Nat) : Int) := i32_k1 hS hv (by omega)
    have hai : (av + Int32.ofInt 1 + iv).toInt = ((a + 1 + i : Nat) : Int) := i32_k1 (i32_k1 (j := 1) ha (by decide) (by omega)) hv (by omega)
    refine rf_at dt_254 60 [(13, [0, 1, 2, 3, 4])] dt_254_k (by decide +kernel) ?_
    intro C J hC hJ
    conv => whnf
    refine ⟨jx_in_nat hk hk12, ?_⟩
    conv => whnf
    rw [i32_nat hk, R_cy_o (show ¬ (78 = 41 ∧ a + 1 ≤ k ∧ k < a + 1 + i) by omega)]
    refine jx_no (show ¬ g.1 78 k ≤ iv by rw [Int32.le_iff_toInt_le, hv, hN]; omega) ?_
    conv => whnf
    refine ⟨jx_in_nat hk hk12, ?_⟩
    conv => whnf
    rw [i32_nat hk, R_cy_o (show ¬ (67 = 41 ∧ a + 1 ≤ 0 ∧ 0 < a + 1 + i) by omega), R_cy_o (show ¬ (77 = 41 ∧ a + 1 ≤ k ∧ k < a + 1 + i) by omega)]
    refine ⟨jx_in_nat hsi (show S + i < 5400 by omega), ?_⟩
    conv => whnf
    refine ⟨jx_in_nat hai (show a + 1 + i < 656 by omega), ?_⟩
    conv => whnf
    rw [show ((fun x y : Int32 => x + y) ((fun x y : Int32 => x + y) (g.1 67 0) (g.1 77 k)) iv).toNatClampNeg = S + i from i32_nat hsi, show ((fun x y : Int32 => x + y) ((fun x y : Int32 => x + y) av 1) iv).toNatClampNeg = a + 1 + i from i32_nat hai, R_cy_r (Or.inl (by omega)), R_cy_s]
    exact hJ _ _ _ _ (r_cpT_l41 hk hk12 hS hS5 ha haN hN r (i + 1) _ i1 (by omega) h)
theorem r_copyText41 (hk : kv.toInt = (k : Int)) (hk12 : k < 12) (hS : (f.1 67 0 + f.1 77 k).toInt = (S : Int)) (hS5 : S + N ≤ 5400) (ha : av.toInt = (a : Int)) (haN : a + 1 + N ≤ 656) (hN : (f.1 78 k).toInt = (N : Int)) : rfc th σ0 m (d + 1) 254 [.ref 0, .int kv, .ref 42, .int av] f (fun r f' => r = none ∧ f' = R_cpT f k S 41 a N) := by
  refine rf_go dt_254 40 [(13, [0, 1, 2, 3, 4])] dt_254_k (by decide +kernel) rfl ?_
  intro C J hC hJ
  conv => whnf
  refine ⟨jx_in_nat hk hk12, ?_⟩
  conv => whnf
  rw [i32_nat hk]
  refine ⟨jx_in_nat ha (show a < 656 by omega), ?_⟩
  conv => whnf
  rw [i32_nat ha]
  have o : ∀ u j, u ≠ 41 → (rf_ui f 41 a (vp_nar .byte (f.1 78 k))).1 u j = f.1 u j := fun u j hu => rf_ui_ne (by omega)
  have := r_cpT_l41 (th := th) (σ0 := σ0) (m := m) (d := d) (Q := fun r f' => r = none ∧ f' = R_cpT f k S 41 a N) (g := rf_ui f 41 a (vp_nar .byte (f.1 78 k))) hk hk12 (by rw [o 67 0 (by omega), o 77 k (by omega)]; exact hS) hS5 ha haN (by rw [o 78 k (by omega)]; exact hN) N 0 0 (by decide) (by omega) ⟨rfl, rfl⟩
  rw [R_cy_0] at this
  rw [show vp_nar .byte (f.1 78 k).toInt8.toInt32 = vp_nar .byte (f.1 78 k) by rw [vp_nar_byte, vp_nar_byte, Int8.toInt8_toInt32]]
  exact hJ _ _ _ _ this
theorem r_cpT_l42 {g : jx_F} (hk : kv.toInt = (k : Int)) (hk12 : k < 12) (hS : (g.1 67 0 + g.1 77 k).toInt = (S : Int)) (hS5 : S + N ≤ 5400) (ha : av.toInt = (a : Int)) (haN : a + 1 + N ≤ 656) (hN : (g.1 78 k).toInt = (N : Int)) : ∀ (r i : Nat) (iv : Int32), iv.toInt = (i : Int) → i + r = N → Q none (R_cy g 29 S 42 (a + 1) N) → jx_fj th (rf_g m) (rf σ0 m) d 254 13 [(0, .ref 0), (1, .int kv), (2, .ref 43), (3, .int av), (4, .int iv)] [] (R_cy g 29 S 42 (a + 1) i) Q
  | 0, i, iv, hv, hi, h => by
    have ek : i = N := by omega
    subst ek
    refine rf_at dt_254 40 [] dt_254_k (by decide +kernel) ?_
    intro C J hC hJ
    conv => whnf
    refine ⟨jx_in_nat hk hk12, ?_⟩
    conv => whnf
    rw [i32_nat hk, R_cy_o (show ¬ (78 = 42 ∧ a + 1 ≤ k ∧ k < a + 1 + i) by omega)]
    refine jx_yes (show g.1 78 k ≤ iv by rw [Int32.le_iff_toInt_le, hv, hN]; omega) ?_
    conv => whnf
    exact h
  | r + 1, i, iv, hv, hi, h => by
    have i1 : (iv + Int32.ofInt 1).toInt = ((i + 1 : Nat) : Int) := i32_k1 (j := 1) hv (by decide) (by omega)
    have hsi : (g.1 67 0 + g.1 77 k + iv).toInt = ((S + i : Nat) : Int) := i32_k1 hS hv (by omega)
    have hai : (av + Int32.ofInt 1 + iv).toInt = ((a + 1 + i : Nat) : Int) := i32_k1 (i32_k1 (j := 1) ha (by decide) (by omega)) hv (by omega)
    refine rf_at dt_254 60 [(13, [0, 1, 2, 3, 4])] dt_254_k (by decide +kernel) ?_
    intro C J hC hJ
    conv => whnf
    refine ⟨jx_in_nat hk hk12, ?_⟩
    conv => whnf
    rw [i32_nat hk, R_cy_o (show ¬ (78 = 42 ∧ a + 1 ≤ k ∧ k < a + 1 + i) by omega)]
    refine jx_no (show ¬ g.1 78 k ≤ iv by rw [Int32.le_iff_toInt_le, hv, hN]; omega) ?_
    conv => whnf
    refine ⟨jx_in_nat hk hk12, ?_⟩
    conv => whnf
    rw [i32_nat hk, R_cy_o (show ¬ (67 = 42 ∧ a + 1 ≤ 0 ∧ 0 < a + 1 + i) by omega), R_cy_o (show ¬ (77 = 42 ∧ a + 1 ≤ k ∧ k < a + 1 + i) by omega)]
    refine ⟨jx_in_nat hsi (show S + i < 5400 by omega), ?_⟩
    conv => whnf
    refine ⟨jx_in_nat hai (show a + 1 + i < 656 by omega), ?_⟩
    conv => whnf
    rw [show ((fun x y : Int32 => x + y) ((fun x y : Int32 => x + y) (g.1 67 0) (g.1 77 k)) iv).toNatClampNeg = S + i from i32_nat hsi, show ((fun x y : Int32 => x + y) ((fun x y : Int32 => x + y) av 1) iv).toNatClampNeg = a + 1 + i from i32_nat hai, R_cy_r (Or.inl (by omega)), R_cy_s]
    exact hJ _ _ _ _ (r_cpT_l42 hk hk12 hS hS5 ha haN hN r (i + 1) _ i1 (by omega) h)
theorem r_copyText42 (hk : kv.toInt = (k : Int)) (hk12 : k < 12) (hS : (f.1 67 0 + f.1 77 k).toInt = (S : Int)) (hS5 : S + N ≤ 5400) (ha : av.toInt = (a : Int)) (haN : a + 1 + N ≤ 656) (hN : (f.1 78 k).toInt = (N : Int)) : rfc th σ0 m (d + 1) 254 [.ref 0, .int kv, .ref 43, .int av] f (fun r f' => r = none ∧ f' = R_cpT f k S 42 a N) := by
  refine rf_go dt_254 40 [(13, [0, 1, 2, 3, 4])] dt_254_k (by decide +kernel) rfl ?_
  intro C J hC hJ
  conv => whnf
  refine ⟨jx_in_nat hk hk12, ?_⟩
  conv => whnf
  rw [i32_nat hk]
  refine ⟨jx_in_nat ha (show a < 656 by omega), ?_⟩
  conv => whnf
  rw [i32_nat ha]
  have o : ∀ u j, u ≠ 42 → (rf_ui f 42 a (vp_nar .byte (f.1 78 k))).1 u j = f.1 u j := fun u j hu => rf_ui_ne (by omega)
  have := r_cpT_l42 (th := th) (σ0 := σ0) (m := m) (d := d) (Q := fun r f' => r = none ∧ f' = R_cpT f k S 42 a N) (g := rf_ui f 42 a (vp_nar .byte (f.1 78 k))) hk hk12 (by rw [o 67 0 (by omega), o 77 k (by omega)]; exact hS) hS5 ha haN (by rw [o 78 k (by omega)]; exact hN) N 0 0 (by decide) (by omega) ⟨rfl, rfl⟩
  rw [R_cy_0] at this
  rw [show vp_nar .byte (f.1 78 k).toInt8.toInt32 = vp_nar .byte (f.1 78 k) by rw [vp_nar_byte, vp_nar_byte, Int8.toInt8_toInt32]]
  exact hJ _ _ _ _ this
theorem r_cpT_l43 {g : jx_F} (hk : kv.toInt = (k : Int)) (hk12 : k < 12) (hS : (g.1 67 0 + g.1 77 k).toInt = (S : Int)) (hS5 : S + N ≤ 5400) (ha : av.toInt = (a : Int)) (haN : a + 1 + N ≤ 656) (hN : (g.1 78 k).toInt = (N : Int)) : ∀ (r i : Nat) (iv : Int32), iv.toInt = (i : Int) → i + r = N → Q none (R_cy g 29 S 43 (a + 1) N) → jx_fj th (rf_g m) (rf σ0 m) d 254 13 [(0, .ref 0), (1, .int kv), (2, .ref 44), (3, .int av), (4, .int iv)] [] (R_cy g 29 S 43 (a + 1) i) Q
  | 0, i, iv, hv, hi, h => by
    have ek : i = N := by omega
    subst ek
    refine rf_at dt_254 40 [] dt_254_k (by decide +kernel) ?_
    intro C J hC hJ
    conv => whnf
    refine ⟨jx_in_nat hk hk12, ?_⟩
    conv => whnf
    rw [i32_nat hk, R_cy_o (show ¬ (78 = 43 ∧ a + 1 ≤ k ∧ k < a + 1 + i) by omega)]
    refine jx_yes (show g.1 78 k ≤ iv by rw [Int32.le_iff_toInt_le, hv, hN]; omega) ?_
    conv => whnf
    exact h
  | r + 1, i, iv, hv, hi, h => by
    have i1 : (iv + Int32.ofInt 1).toInt = ((i + 1 : Nat) : Int) := i32_k1 (j := 1) hv (by decide) (by omega)
    have hsi : (g.1 67 0 + g.1 77 k + iv).toInt = ((S + i : Nat) : Int) := i32_k1 hS hv (by omega)
    have hai : (av + Int32.ofInt 1 + iv).toInt = ((a + 1 + i : Nat) : Int) := i32_k1 (i32_k1 (j := 1) ha (by decide) (by omega)) hv (by omega)
    refine rf_at dt_254 60 [(13, [0, 1, 2, 3, 4])] dt_254_k (by decide +kernel) ?_
    intro C J hC hJ
    conv => whnf
    refine ⟨jx_in_nat hk hk12, ?_⟩
    conv => whnf
    rw [i32_nat hk, R_cy_o (show ¬ (78 = 43 ∧ a + 1 ≤ k ∧ k < a + 1 + i) by omega)]
    refine jx_no (show ¬ g.1 78 k ≤ iv by rw [Int32.le_iff_toInt_le, hv, hN]; omega) ?_
    conv => whnf
    refine ⟨jx_in_nat hk hk12, ?_⟩
    conv => whnf
    rw [i32_nat hk, R_cy_o (show ¬ (67 = 43 ∧ a + 1 ≤ 0 ∧ 0 < a + 1 + i) by omega), R_cy_o (show ¬ (77 = 43 ∧ a + 1 ≤ k ∧ k < a + 1 + i) by omega)]
    refine ⟨jx_in_nat hsi (show S + i < 5400 by omega), ?_⟩
    conv => whnf
    refine ⟨jx_in_nat hai (show a + 1 + i < 656 by omega), ?_⟩
    conv => whnf
    rw [show ((fun x y : Int32 => x + y) ((fun x y : Int32 => x + y) (g.1 67 0) (g.1 77 k)) iv).toNatClampNeg = S + i from i32_nat hsi, show ((fun x y : Int32 => x + y) ((fun x y : Int32 => x + y) av 1) iv).toNatClampNeg = a + 1 + i from i32_nat hai, R_cy_r (Or.inl (by omega)), R_cy_s]
    exact hJ _ _ _ _ (r_cpT_l43 hk hk12 hS hS5 ha haN hN r (i + 1) _ i1 (by omega) h)
theorem r_copyText43 (hk : kv.toInt = (k : Int)) (hk12 : k < 12) (hS : (f.1 67 0 + f.1 77 k).toInt = (S : Int)) (hS5 : S + N ≤ 5400) (ha : av.toInt = (a : Int)) (haN : a + 1 + N ≤ 656) (hN : (f.1 78 k).toInt = (N : Int)) : rfc th σ0 m (d + 1) 254 [.ref 0, .int kv, .ref 44, .int av] f (fun r f' => r = none ∧ f' = R_cpT f k S 43 a N) := by
  refine rf_go dt_254 40 [(13, [0, 1, 2, 3, 4])] dt_254_k (by decide +kernel) rfl ?_
  intro C J hC hJ
  conv => whnf
  refine ⟨jx_in_nat hk hk12, ?_⟩
  conv => whnf
  rw [i32_nat hk]
  refine ⟨jx_in_nat ha (show a < 656 by omega), ?_⟩
  conv => whnf
  rw [i32_nat ha]
  have o : ∀ u j, u ≠ 43 → (rf_ui f 43 a (vp_nar .byte (f.1 78 k))).1 u j = f.1 u j := fun u j hu => rf_ui_ne (by omega)
  have := r_cpT_l43 (th := th) (σ0 := σ0) (m := m) (d := d) (Q := fun r f' => r = none ∧ f' = R_cpT f k S 43 a N) (g := rf_ui f 43 a (vp_nar .byte (f.1 78 k))) hk hk12 (by rw [o 67 0 (by omega), o 77 k (by omega)]; exact hS) hS5 ha haN (by rw [o 78 k (by omega)]; exact hN) N 0 0 (by decide) (by omega) ⟨rfl, rfl⟩
  rw [R_cy_0] at this
  rw [show vp_nar .byte (f.1 78 k).toInt8.toInt32 = vp_nar .byte (f.1 78 k) by rw [vp_nar_byte, vp_nar_byte, Int8.toInt8_toInt32]]
  exact hJ _ _ _ _ this
theorem r_cpT_l62 {g : jx_F} (hk : kv.toInt = (k : Int)) (hk12 : k < 12) (hS : (g.1 67 0 + g.1 77 k).toInt = (S : Int)) (hS5 : S + N ≤ 5400) (ha : av.toInt = (a : Int)) (haN : a + 1 + N ≤ 1353) (hN : (g.1 78 k).toInt = (N : Int)) : ∀ (r i : Nat) (iv : Int32), iv.toInt = (i : Int) → i + r = N → Q none (R_cy g 29 S 62 (a + 1) N) → jx_fj th (rf_g m) (rf σ0 m) d 254 13 [(0, .ref 0), (1, .int kv), (2, .ref 63), (3, .int av), (4, .int iv)] [] (R_cy g 29 S 62 (a + 1) i) Q
  | 0, i, iv, hv, hi, h => by
    have ek : i = N := by omega
    subst ek
    refine rf_at dt_254 40 [] dt_254_k (by decide +kernel) ?_
    intro C J hC hJ
    conv => whnf
    refine ⟨jx_in_nat hk hk12, ?_⟩
    conv => whnf
    rw [i32_nat hk, R_cy_o (show ¬ (78 = 62 ∧ a + 1 ≤ k ∧ k < a + 1 + i) by omega)]
    refine jx_yes (show g.1 78 k ≤ iv by rw [Int32.le_iff_toInt_le, hv, hN]; omega) ?_
    conv => whnf
    exact h
  | r + 1, i, iv, hv, hi, h => by
    have i1 : (iv + Int32.ofInt 1).toInt = ((i + 1 : Nat) : Int) := i32_k1 (j := 1) hv (by decide) (by omega)
    have hsi : (g.1 67 0 + g.1 77 k + iv).toInt = ((S + i : Nat) : Int) := i32_k1 hS hv (by omega)
    have hai : (av + Int32.ofInt 1 + iv).toInt = ((a + 1 + i : Nat) : Int) := i32_k1 (i32_k1 (j := 1) ha (by decide) (by omega)) hv (by omega)
    refine rf_at dt_254 60 [(13, [0, 1, 2, 3, 4])] dt_254_k (by decide +kernel) ?_
    intro C J hC hJ
    conv => whnf
    refine ⟨jx_in_nat hk hk12, ?_⟩
    conv => whnf
    rw [i32_nat hk, R_cy_o (show ¬ (78 = 62 ∧ a + 1 ≤ k ∧ k < a + 1 + i) by omega)]
    refine jx_no (show ¬ g.1 78 k ≤ iv by rw [Int32.le_iff_toInt_le, hv, hN]; omega) ?_
    conv => whnf
    refine ⟨jx_in_nat hk hk12, ?_⟩
    conv => whnf
    rw [i32_nat hk, R_cy_o (show ¬ (67 = 62 ∧ a + 1 ≤ 0 ∧ 0 < a + 1 + i) by omega), R_cy_o (show ¬ (77 = 62 ∧ a + 1 ≤ k ∧ k < a + 1 + i) by omega)]
    refine ⟨jx_in_nat hsi (show S + i < 5400 by omega), ?_⟩
    conv => whnf
    refine ⟨jx_in_nat hai (show a + 1 + i < 1353 by omega), ?_⟩
    conv => whnf
    rw [show ((fun x y : Int32 => x + y) ((fun x y : Int32 => x + y) (g.1 67 0) (g.1 77 k)) iv).toNatClampNeg = S + i from i32_nat hsi, show ((fun x y : Int32 => x + y) ((fun x y : Int32 => x + y) av 1) iv).toNatClampNeg = a + 1 + i from i32_nat hai, R_cy_r (Or.inl (by omega)), R_cy_s]
    exact hJ _ _ _ _ (r_cpT_l62 hk hk12 hS hS5 ha haN hN r (i + 1) _ i1 (by omega) h)
theorem r_copyText62 (hk : kv.toInt = (k : Int)) (hk12 : k < 12) (hS : (f.1 67 0 + f.1 77 k).toInt = (S : Int)) (hS5 : S + N ≤ 5400) (ha : av.toInt = (a : Int)) (haN : a + 1 + N ≤ 1353) (hN : (f.1 78 k).toInt = (N : Int)) : rfc th σ0 m (d + 1) 254 [.ref 0, .int kv, .ref 63, .int av] f (fun r f' => r = none ∧ f' = R_cpT f k S 62 a N) := by
  refine rf_go dt_254 40 [(13, [0, 1, 2, 3, 4])] dt_254_k (by decide +kernel) rfl ?_
  intro C J hC hJ
  conv => whnf
  refine ⟨jx_in_nat hk hk12, ?_⟩
  conv => whnf
  rw [i32_nat hk]
  refine ⟨jx_in_nat ha (show a < 1353 by omega), ?_⟩
  conv => whnf
  rw [i32_nat ha]
  have o : ∀ u j, u ≠ 62 → (rf_ui f 62 a (vp_nar .byte (f.1 78 k))).1 u j = f.1 u j := fun u j hu => rf_ui_ne (by omega)
  have := r_cpT_l62 (th := th) (σ0 := σ0) (m := m) (d := d) (Q := fun r f' => r = none ∧ f' = R_cpT f k S 62 a N) (g := rf_ui f 62 a (vp_nar .byte (f.1 78 k))) hk hk12 (by rw [o 67 0 (by omega), o 77 k (by omega)]; exact hS) hS5 ha haN (by rw [o 78 k (by omega)]; exact hN) N 0 0 (by decide) (by omega) ⟨rfl, rfl⟩
  rw [R_cy_0] at this
  rw [show vp_nar .byte (f.1 78 k).toInt8.toInt32 = vp_nar .byte (f.1 78 k) by rw [vp_nar_byte, vp_nar_byte, Int8.toInt8_toInt32]]
  exact hJ _ _ _ _ this
end JxReftext2
