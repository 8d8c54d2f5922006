/-! THE CLASS: ACCOUNTS and SESSIONS, method by method -/
section JxLedraw
variable {th : Nat → Nat} {d s a X : Nat} {σ σ' : jx_S} {nu ba re cg v g ct us wa gr : Int64} {x0 x1 x2 x3 x4 x5 x6 x7 x8 x9 x10 x11 x12 x13 v0 v1 v2 v3 v4 v5 v6 v7 : Value} {t : Int32}
def mxl (x y : Int64) : Int64 := if y < x then x else y
def mnl (x y : Int64) : Int64 := if y < x then y else x
theorem k_free (ha : σ.1 a = some (.inr (10, [v0, .long ba, .long re, v3]))) : jc th (d + 1) 134 [.ref a] σ (fun r σ' => r = some (.long (ba - re)) ∧ σ' = σ) := by
  refine cl_go dt_134 20 [] dt_134_k rfl ?_
  intro C J hC hJ
  conv => whnf
  refine ⟨_, jx_getF_of (ha) rfl, ?_⟩
  conv => whnf
  refine ⟨_, jx_getF_of (ha) rfl, ?_⟩
  conv => whnf
  exact ⟨rfl, rfl⟩
theorem k_chargeA (ha : σ.1 a = some (.inr (10, [v0, .long ba, v2, .long cg]))) : jc th (d + 1) 141 [.ref a, .long v] σ (fun r σ' => r = none ∧ σ'.1 a = some (.inr (10, [v0, .long (ba - v), v2, .long (cg + v)])) ∧ (∀ q, q ≠ a → σ'.1 q = σ.1 q) ∧ σ'.2 = σ.2) := by
  refine cl_go dt_141 30 [] dt_141_k rfl ?_
  intro C J hC hJ
  conv => whnf
  refine ⟨_, jx_getF_of (ha) rfl, ?_⟩
  conv => whnf
  refine putK ha rfl (fit_l _) (fun s1 p1 o1 n1 => ?_)
  conv => whnf
  refine ⟨_, jx_getF_of (p1) rfl, ?_⟩
  conv => whnf
  refine putK p1 rfl (fit_l _) (fun s2 p2 o2 n2 => ?_)
  conv => whnf
  exact ⟨rfl, p2, fun q hq => (o2 q hq).trans (o1 q hq), by rw [n2, n1]⟩
theorem k_follow (hs : σ.1 s = some (.inr (8, [v0, v1, v2, v3, v4, v5, v6, v7]))) (hX : σ.1 X = some (.inr (7, [x0, x1, x2, x3, .int t, x5, .long ct, x7, x8, x9, x10, x11, x12, x13]))) (hne : s ≠ X) (h1 : jx_isR x1 = true) (h2 : jx_isR x2 = true) (h3 : jx_isR x3 = true) : jc th (d + 1) 136 [.ref s, .ref X] σ (fun r σ' => r = none ∧ σ'.1 s = some (.inr (8, [v0, v1, v2, .long ct, x1, x2, x3, .int (t + 600)])) ∧ (∀ q, q ≠ s → σ'.1 q = σ.1 q) ∧ σ'.2 = σ.2) := by
  refine cl_go dt_136 40 [] dt_136_k rfl ?_
  intro C J hC hJ
  conv => whnf
  refine ⟨_, jx_getF_of (hX) rfl, ?_⟩
  conv => whnf
  refine putK hs rfl (fit_l _) (fun s1 p1 o1 n1 => ?_)
  conv => whnf
  have X1 := (o1 X (fun z => hne z.symm)).trans hX
  refine ⟨_, jx_getF_of (X1) rfl, ?_⟩
  conv => whnf
  refine putK p1 rfl (fit_a _ h1) (fun s2 p2 o2 n2 => ?_)
  conv => whnf
  have X2 := (o2 X (fun z => hne z.symm)).trans X1
  refine ⟨_, jx_getF_of (X2) rfl, ?_⟩
  conv => whnf
  refine putK p2 rfl (fit_a _ h2) (fun s3 p3 o3 n3 => ?_)
  conv => whnf
  have X3 := (o3 X (fun z => hne z.symm)).trans X2
  refine ⟨_, jx_getF_of (X3) rfl, ?_⟩
  conv => whnf
  refine putK p3 rfl (fit_o _ h3) (fun s4 p4 o4 n4 => ?_)
  conv => whnf
  have X4 := (o4 X (fun z => hne z.symm)).trans X3
  refine ⟨_, jx_getF_of (X4) rfl, ?_⟩
  conv => whnf
  refine putK p4 rfl (fit_i _) (fun s5 p5 o5 n5 => ?_)
  conv => whnf
  exact ⟨rfl, p5, fun q hq => (o5 q hq).trans ((o4 q hq).trans ((o3 q hq).trans ((o2 q hq).trans (o1 q hq)))), by rw [n5, n4, n3, n2, n1]⟩
theorem k_sesInit (hs : σ.1 s = some (.inr (8, [v0, v1, v2, v3, v4, v5, v6, v7]))) (hX : σ.1 X = some (.inr (7, [x0, x1, x2, x3, .int t, x5, .long ct, x7, x8, x9, x10, x11, x12, x13]))) (hne : s ≠ X) (h0 : jx_isR x0 = true) (h1 : jx_isR x1 = true) (h2 : jx_isR x2 = true) (h3 : jx_isR x3 = true) : jc th (d + 2) 135 [.ref s, .ref a, .ref X] σ (fun r σ' => r = none ∧ σ'.1 s = some (.inr (8, [x0, .ref a, v2, .long ct, x1, x2, x3, .int (t + 600)])) ∧ (∀ q, q ≠ s → σ'.1 q = σ.1 q) ∧ σ'.2 = σ.2) := by
  refine cl_go dt_135 40 [] dt_135_k rfl ?_
  intro C J hC hJ
  conv => whnf
  refine ⟨_, jx_getF_of (hX) rfl, ?_⟩
  conv => whnf
  refine putK hs rfl (fit_a _ h0) (fun s1 p1 o1 n1 => ?_)
  conv => whnf
  refine putK p1 rfl (fit_o _ rfl) (fun s2 p2 o2 n2 => ?_)
  conv => whnf
  have X2 := (o2 X (fun z => hne z.symm)).trans ((o1 X (fun z => hne z.symm)).trans hX)
  refine ⟨jx_isC_of p2, hC _ _ _ _ ((k_follow (d := d) p2 X2 hne h1 h2 h3).mp ?_)⟩
  rintro r s3 ⟨rfl, p3, o3, n3⟩
  conv => whnf
  exact ⟨rfl, p3, fun q hq => (o3 q hq).trans ((o2 q hq).trans (o1 q hq)), by rw [n3, n2, n1]⟩
theorem k_releaseW (hs : σ.1 s = some (.inr (8, [v0, .ref a, .long g, v3, v4, v5, v6, v7]))) (ha : σ.1 a = some (.inr (10, [x0, x1, .long re, x3]))) (hne : s ≠ a) : jc th (d + 1) 145 [.ref s] σ (fun r σ' => r = none ∧ σ'.1 s = some (.inr (8, [v0, .ref a, .long 0, v3, v4, v5, v6, v7])) ∧ σ'.1 a = some (.inr (10, [x0, x1, .long (re - g), x3])) ∧ (∀ q, q ≠ s → q ≠ a → σ'.1 q = σ.1 q) ∧ σ'.2 = σ.2) := by
  refine cl_go dt_145 60 [] dt_145_k rfl ?_
  intro C J hC hJ
  conv => whnf
  refine ⟨_, jx_getF_of (hs) rfl, ?_⟩
  conv => whnf
  refine ⟨_, jx_getF_of (ha) rfl, ?_⟩
  conv => whnf
  refine ⟨_, jx_getF_of (hs) rfl, ?_⟩
  conv => whnf
  refine putK ha rfl (fit_l _) (fun s1 p1 o1 n1 => ?_)
  conv => whnf
  have c3 := (o1 _ hne).trans hs
  refine putK c3 rfl (fit_l _) (fun s2 p2 o2 n2 => ?_)
  conv => whnf
  exact ⟨rfl, p2, (o2 a (fun z => hne z.symm)).trans p1, fun q h1 h2 => (o2 q h1).trans (o1 q h2), by rw [n2, n1]⟩
theorem k_chargeS (hs : σ.1 s = some (.inr (8, [v0, .ref a, .long g, v3, v4, v5, v6, v7]))) (ha : σ.1 a = some (.inr (10, [.long nu, .long ba, .long re, .long cg]))) (hX : σ.1 X = some (.inr (7, [x0, x1, x2, x3, x4, x5, x6, x7, x8, x9, x10, .long us, x12, x13]))) (hne : s ≠ a) : jc th (d + 2) 144 [.ref s, .ref X] σ (fun r σ' => r = none ∧ σ'.1 s = some (.inr (8, [v0, .ref a, .long 0, v3, v4, v5, v6, v7])) ∧ σ'.1 a = some (.inr (10, [.long nu, .long (ba - mnl (mxl us 0) g), .long (re - g), .long (cg + mnl (mxl us 0) g)])) ∧ (∀ q, q ≠ s → q ≠ a → σ'.1 q = σ.1 q) ∧ σ'.2 = σ.2) := by
  refine cl_go dt_144 60 [] dt_144_k rfl ?_
  intro C J hC hJ
  conv => whnf
  refine ⟨_, jx_getF_of (hs) rfl, ?_⟩
  conv => whnf
  refine ⟨_, jx_getF_of (hX) rfl, ?_⟩
  conv => whnf
  refine ⟨_, jx_getF_of (hs) rfl, ?_⟩
  conv => whnf
  refine ⟨jx_isC_of ha, hC _ _ _ _ (((k_chargeA (d := d) (v := mnl (mxl us 0) g) ha).up (by omega)).mp ?_)⟩
  rintro r s1 ⟨rfl, p1, o1, n1⟩
  conv => whnf
  refine ⟨jx_isC_of ((o1 s hne).trans hs), hC _ _ _ _ (((k_releaseW (d := d) ((o1 s hne).trans hs) p1 hne).up (by omega)).mp ?_)⟩
  rintro r s2 ⟨rfl, p2, q2, o2, n2⟩
  conv => whnf
  exact ⟨rfl, p2, q2, fun q h1 h2 => (o2 q h1 h2).trans (o1 q h2), by rw [n2, n1]⟩
theorem k_reserve (hs : σ.1 s = some (.inr (8, [v0, .ref a, .long g, v3, v4, v5, v6, v7]))) (ha : σ.1 a = some (.inr (10, [.long nu, .long ba, .long re, .long cg]))) (hX : σ.1 X = some (.inr (7, [x0, x1, x2, x3, x4, x5, x6, x7, x8, x9, .long wa, x11, .long gr, x13]))) (h1 : s ≠ a) (h2 : s ≠ X) (h3 : a ≠ X) : jc th (d + 2) 137 [.ref s, .ref X] σ (fun r σ' => r = none ∧ ∃ G : Int64, G = mnl (if wa = -1 then 1000 else wa) (ba - re) ∧ σ'.1 s = some (.inr (8, [v0, .ref a, .long G, v3, v4, v5, v6, v7])) ∧ σ'.1 a = some (.inr (10, [.long nu, .long ba, .long (re + G), .long cg])) ∧ σ'.1 X = some (.inr (7, [x0, x1, x2, x3, x4, x5, x6, x7, x8, x9, .long wa, x11, .long G, x13])) ∧ (∀ q, q ≠ s → q ≠ a → q ≠ X → σ'.1 q = σ.1 q) ∧ σ'.2 = σ.2) := by
  have t21 : ∀ W : Int64, W = (if wa = -1 then 1000 else wa) → cl_fj th (d + 1) 137 21 [(0, .ref s), (1, .ref X)] [.long W] σ (fun r σ' => r = none ∧ ∃ G : Int64, G = mnl (if wa = -1 then 1000 else wa) (ba - re) ∧ σ'.1 s = some (.inr (8, [v0, .ref a, .long G, v3, v4, v5, v6, v7])) ∧ σ'.1 a = some (.inr (10, [.long nu, .long ba, .long (re + G), .long cg])) ∧ σ'.1 X = some (.inr (7, [x0, x1, x2, x3, x4, x5, x6, x7, x8, x9, .long wa, x11, .long G, x13])) ∧ (∀ q, q ≠ s → q ≠ a → q ≠ X → σ'.1 q = σ.1 q) ∧ σ'.2 = σ.2) := by
    intro W hW
    refine cl_at dt_137 60 [] dt_137_k ?_
    intro C J hC hJ
    conv => whnf
    refine ⟨_, jx_getF_of (hs) rfl, ?_⟩
    conv => whnf
    refine ⟨jx_isC_of ha, hC _ _ _ _ (((k_free (d := d) ha).up (by omega)).mp ?_)⟩
    rintro r s0 ⟨rfl, hs0⟩
    rw [hs0]
    conv => whnf
    refine putK hs rfl (fit_l _) (fun s1 p1 o1 n1 => ?_)
    conv => whnf
    refine ⟨_, jx_getF_of (p1) rfl, ?_⟩
    conv => whnf
    have a1 := (o1 a (fun z => h1 z.symm)).trans ha
    refine ⟨_, jx_getF_of (a1) rfl, ?_⟩
    conv => whnf
    refine ⟨_, jx_getF_of (p1) rfl, ?_⟩
    conv => whnf
    refine putK a1 rfl (fit_l _) (fun s2 p2 o2 n2 => ?_)
    conv => whnf
    have b2 := (o2 s h1).trans p1
    have c2 := (o2 X (fun z => h3 z.symm)).trans ((o1 X (fun z => h2 z.symm)).trans hX)
    refine ⟨_, jx_getF_of (b2) rfl, ?_⟩
    conv => whnf
    refine putK c2 rfl (fit_l _) (fun s3 p3 o3 n3 => ?_)
    conv => whnf
    refine ⟨rfl, mnl W (ba - re), by rw [hW], (o3 s h2).trans b2, (o3 a h3).trans p2, p3, fun q w1 w2 w3 => (o3 q w3).trans ((o2 q w2).trans (o1 q w1)), by rw [n3, n2, n1]⟩
  refine cl_go dt_137 60 [(21, [0, 1])] dt_137_k rfl ?_
  intro C J hC hJ
  conv => whnf
  refine ⟨_, jx_getF_of (hX) rfl, ?_⟩
  conv => whnf
  refine ⟨fun (z : ¬ lg_cmp wa (-1) = 0) => ?_, fun (z : ¬ ¬ lg_cmp wa (-1) = 0) => ?_⟩
  · conv => whnf
    refine ⟨_, jx_getF_of (hX) rfl, ?_⟩
    conv => whnf
    exact hJ _ _ _ _ (t21 wa (by rw [if_neg (fun y => z (lg_cmp_z.mpr y))]))
  · conv => whnf
    exact hJ _ _ _ _ (t21 1000 (by rw [if_pos (lg_cmp_z.mp (Decidable.not_not.mp z))]))
theorem k_isSame_l {n R1 R2 : Nat} {g1 g2 : Nat → Int32} {Q : Option Value → jx_S → Prop} (hA : σ.1 R1 = some (.inl (0, n, .inl g1))) (hB : σ.1 R2 = some (.inl (0, n, .inl g2))) (hn : n ≤ 600) : ∀ (r i : Nat), i + r = n → ((∀ j, i ≤ j → j < n → g1 j = g2 j) → Q (some (.int 1)) σ) → (¬ (∀ j, i ≤ j → j < n → g1 j = g2 j) → Q (some (.int 0)) σ) → cl_fj th d 133 11 [(0, .ref R1), (1, .ref R2), (2, .int (Int32.ofNat i))] [] σ Q
  | 0, i, hi, h1, h2 => by
    refine cl_at dt_133 60 [] dt_133_k ?_
    intro C J hC hJ
    conv => whnf
    refine ⟨_, jx_al_of (hA), ?_⟩
    conv => whnf
    refine jx_yes (show Int32.ofNat n ≤ Int32.ofNat i by rw [nle (by omega) (by omega)]; omega) ?_
    conv => whnf
    exact ⟨by decide, h1 (fun j j1 j2 => by omega)⟩
  | r + 1, i, hi, h1, h2 => by
    have hi2 : (Int32.ofNat i).toInt = (i : Int) := i32_ofNat (by omega)
    refine cl_at dt_133 60 [(11, [0, 1, 2])] dt_133_k ?_
    intro C J hC hJ
    conv => whnf
    refine ⟨_, jx_al_of (hA), ?_⟩
    conv => whnf
    refine jx_no (show ¬ Int32.ofNat n ≤ Int32.ofNat i by rw [nle (by omega) (by omega)]; omega) ?_
    conv => whnf
    refine ⟨_, jx_ild_of hA (by decide) hi2 (by omega), ?_⟩
    conv => whnf
    refine ⟨_, jx_ild_of hB (by decide) hi2 (by omega), ?_⟩
    conv => whnf
    refine ⟨fun (e : g1 i = g2 i) => ?_, fun (e : ¬ g1 i = g2 i) => ?_⟩
    · conv => whnf
      have i1 : Int32.ofNat i + Int32.ofInt 1 = Int32.ofNat (i + 1) := nadd rfl (by omega)
      have ih := (k_isSame_l hA hB hn r (i + 1) (by omega) (fun z => h1 (fun j j1 j2 => by
        by_cases ej : j = i
        · rw [ej]; exact e
        · exact z j (by omega) j2)) (fun z => h2 (fun w => z (fun j j1 j2 => w j (by omega) j2))))
      rw [← i1] at ih
      exact hJ _ _ _ _ ih
    · conv => whnf
      exact ⟨by decide, h2 (fun z => e (z i (Nat.le_refl _) (by omega)))⟩
theorem k_isSame {n1 n2 R1 R2 : Nat} {g1 g2 : Nat → Int32} (hA : σ.1 R1 = some (.inl (0, n1, .inl g1))) (hB : σ.1 R2 = some (.inl (0, n2, .inl g2))) (h1 : n1 ≤ 600) (h2 : n2 ≤ 600) : jc th (d + 1) 133 [.ref R1, .ref R2] σ (fun r σ' => ((r = some (.int 1) ∧ n1 = n2 ∧ ∀ j, j < n1 → g1 j = g2 j) ∨ (r = some (.int 0) ∧ ¬ (n1 = n2 ∧ ∀ j, j < n1 → g1 j = g2 j))) ∧ σ' = σ) := by
  refine cl_go dt_133 60 [(11, [0, 1, 2])] dt_133_k rfl ?_
  intro C J hC hJ
  conv => whnf
  refine ⟨_, jx_al_of (hA), ?_⟩
  conv => whnf
  refine ⟨_, jx_al_of (hB), ?_⟩
  conv => whnf
  refine ⟨fun (e : Int32.ofNat n1 = Int32.ofNat n2) => ?_, fun (e : ¬ Int32.ofNat n1 = Int32.ofNat n2) => ?_⟩
  · have en : n1 = n2 := ofN_inj (by omega) (by omega) e
    subst en
    conv => whnf
    exact hJ _ _ _ _ (k_isSame_l hA hB h1 n1 0 (by omega) (fun z => ⟨Or.inl ⟨rfl, rfl, fun j hj => z j (by omega) hj⟩, rfl⟩) (fun z => ⟨Or.inr ⟨rfl, fun w => z (fun j _ j2 => w.2 j j2)⟩, rfl⟩))
  · conv => whnf
    exact ⟨by decide, Or.inr ⟨rfl, fun z => e (by rw [z.1])⟩, rfl⟩
end JxLedraw
