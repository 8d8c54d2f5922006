/-! THE PAIR peer: the reference -/
/-- the hand is the name of PEER p -/
def R_sm (f : jx_F) (p : Nat) : Prop := f.1 9 p = f.1 4 0 ∧ ∀ j : Nat, (j : Int) < (f.1 4 0).toInt → f.1 8 (40 * p + j) = f.1 3 j
/-- the hand is the NODE's name -/
def R_sh (f : jx_F) : Prop := f.1 4 0 = f.1 6 0 ∧ ∀ j : Nat, (j : Int) < (f.1 4 0).toInt → f.1 3 j = f.1 5 j
def R_kn (f : jx_F) : Prop := R_sh f ∨ ∃ p : Nat, (p : Int) < (f.1 7 0).toInt ∧ R_sm f p
def R_pe0 (f : jx_F) (n N : Nat) (st : Int32) : jx_F := rf_ui (rf_ui (rf_ui (rf_ui (rf_ui (R_cy f 3 0 8 (40 * n) N) 9 n (f.1 4 0)) 10 n st) 17 n (f.1 1 0 + 30)) 4 0 0) 7 0 (f.1 7 0 + 1)
noncomputable def R_peerF (f : jx_F) (st : Int32) : Int32 × jx_F := if f.1 4 0 = 0 then (-2, f) else @ite _ (R_kn f) (Classical.propDecidable _) (-3, f) (if f.1 7 0 = 4 then (-4, f) else (f.1 7 0 + 1, R_pe0 f (f.1 7 0).toNatClampNeg (f.1 4 0).toNatClampNeg st))
section JxPeer
variable {th : Nat → Nat} {σ0 : jx_S} {m d n N : Nat} {f : jx_F} {Q : Option Value → jx_F → Prop} {st : Int32}
theorem r_pe_a (hN : (f.1 4 0).toInt = (N : Int)) (hN4 : N ≤ 40) : ∀ (r k : Nat) (kn kv : Int32), kv.toInt = (k : Int) → k + r = N → (kn = 0 ∨ kn = 1) → (∀ kn' : Int32, (kn' = 0 ∨ kn' = 1) → (kn' = 1 ↔ kn = 1 ∧ ∀ j, k ≤ j → j < N → f.1 3 j = f.1 5 j) → jx_fj th (rf_g m) (rf σ0 m) d 184 73 [(0, .ref 0), (1, .int st), (2, .int kn')] [] f Q) → jx_fj th (rf_g m) (rf σ0 m) d 184 34 [(0, .ref 0), (1, .int st), (2, .int kn), (3, .int kv)] [] f Q
  | 0, k, kn, kv, hv, hk, hkn, h => by
    refine rf_at dt_184 60 [(73, [0, 1, 2])] dt_184_k (by decide +kernel) ?_
    intro C J hC hJ
    conv => whnf
    refine jx_yes (show f.1 4 0 ≤ kv by rw [Int32.le_iff_toInt_le, hN, hv]; omega) ?_
    conv => whnf
    exact hJ _ _ _ _ (h kn hkn ⟨fun z => ⟨z, fun j j1 j2 => by omega⟩, fun z => z.1⟩)
  | r + 1, k, kn, kv, hv, hk, hkn, h => by
    have hvi : jx_in kv 40 := jx_in_nat hv (by omega)
    have hvn := i32_nat hv
    have hv1 : (kv + Int32.ofInt 1).toInt = ((k + 1 : Nat) : Int) := by rw [i32_add (c := 1) hv (by decide) (by omega) (by omega)]; omega
    refine rf_at dt_184 60 [(34, [0, 1, 2, 3]), (73, [0, 1, 2])] dt_184_k (by decide +kernel) ?_
    intro C J hC hJ
    conv => whnf
    refine jx_no (show ¬ f.1 4 0 ≤ kv by rw [Int32.le_iff_toInt_le, hN, hv]; omega) ?_
    conv => whnf
    rcases hkn with rfl | rfl
    · refine jx_yes (show (0 : Int32) = 0 from rfl) ?_
      conv => whnf
      exact hJ _ _ _ _ (h 0 (Or.inl rfl) ⟨fun z => absurd z (by decide), fun z => absurd z.1 (by decide)⟩)
    · refine jx_no (show ¬ (1 : Int32) = 0 by decide) ?_
      conv => whnf
      refine ⟨hvi, ?_⟩
      conv => whnf
      refine ⟨hvi, ?_⟩
      conv => whnf
      rw [hvn]
      refine ⟨fun (h1 : ¬ f.1 3 k = f.1 5 k) => ?_, fun (h1 : ¬ ¬ f.1 3 k = f.1 5 k) => ?_⟩
      · conv => whnf
        refine hJ _ _ _ _ (r_pe_a hN hN4 r (k + 1) 0 _ hv1 (by omega) (Or.inl rfl) (fun kn' z1 z2 => h kn' z1 ⟨fun z => absurd (z2.mp z).1 (by decide), fun z => absurd (z.2 k (Nat.le_refl _) (by omega)) h1⟩))
      · have h1 := Decidable.not_not.mp h1
        conv => whnf
        refine hJ _ _ _ _ (r_pe_a hN hN4 r (k + 1) 1 _ hv1 (by omega) (Or.inr rfl) (fun kn' z1 z2 => h kn' z1 ⟨fun z => ⟨rfl, fun j j1 j2 => ?_⟩, fun z => z2.mpr ⟨rfl, fun j j1 j2 => z.2 j (by omega) j2⟩⟩))
        by_cases e : j = k
        · rw [e]; exact h1
        · exact (z2.mp z).2 j (by omega) j2
theorem r_pe_c {pv kn : Int32} {p : Nat} (hp : pv.toInt = (p : Int)) (hp4 : p < 4) (hN : (f.1 4 0).toInt = (N : Int)) (hN4 : N ≤ 40) : ∀ (r k : Nat) (sm kv : Int32), kv.toInt = (k : Int) → k + r = N → (sm = 0 ∨ sm = 1) → (∀ sm' : Int32, (sm' = 0 ∨ sm' = 1) → (sm' = 1 ↔ sm = 1 ∧ ∀ j, k ≤ j → j < N → f.1 8 (40 * p + j) = f.1 3 j) → jx_fj th (rf_g m) (rf σ0 m) d 184 155 [(0, .ref 0), (1, .int st), (2, .int kn), (3, .int pv), (4, .int sm')] [] f Q) → jx_fj th (rf_g m) (rf σ0 m) d 184 106 [(0, .ref 0), (1, .int st), (2, .int kn), (3, .int pv), (4, .int sm), (5, .int kv)] [] f Q
  | 0, k, sm, kv, hv, hk, hkn, h => by
    refine rf_at dt_184 60 [(155, [0, 1, 2, 3, 4])] dt_184_k (by decide +kernel) ?_
    intro C J hC hJ
    conv => whnf
    refine jx_yes (show f.1 4 0 ≤ kv by rw [Int32.le_iff_toInt_le, hN, hv]; omega) ?_
    conv => whnf
    exact hJ _ _ _ _ (h sm hkn ⟨fun z => ⟨z, fun j j1 j2 => by omega⟩, fun z => z.1⟩)
  | r + 1, k, sm, kv, hv, hk, hkn, h => by
    have hvi : jx_in kv 40 := jx_in_nat hv (by omega)
    have hvn := i32_nat hv
    have hv1 : (kv + Int32.ofInt 1).toInt = ((k + 1 : Nat) : Int) := by rw [i32_add (c := 1) hv (by decide) (by omega) (by omega)]; omega
    have hx : (40 * pv + kv).toInt = ((40 * p + k : Nat) : Int) := by
      have h3 : (40 * pv).toInt = ((40 * p : Nat) : Int) := by rw [i32_mul (a := 40) (by decide) hp (by omega) (by omega)]; omega
      rw [i32_add h3 hv (by omega) (by omega)]; omega
    have hxn := i32_nat hx
    have hxi : jx_in (40 * pv + kv) 160 := jx_in_nat hx (by omega)
    refine rf_at dt_184 60 [(106, [0, 1, 2, 3, 4, 5]), (155, [0, 1, 2, 3, 4])] dt_184_k (by decide +kernel) ?_
    intro C J hC hJ
    conv => whnf
    refine jx_no (show ¬ f.1 4 0 ≤ kv by rw [Int32.le_iff_toInt_le, hN, hv]; omega) ?_
    conv => whnf
    rcases hkn with rfl | rfl
    · refine jx_yes (show (0 : Int32) = 0 from rfl) ?_
      conv => whnf
      exact hJ _ _ _ _ (h 0 (Or.inl rfl) ⟨fun z => absurd z (by decide), fun z => absurd z.1 (by decide)⟩)
    · refine jx_no (show ¬ (1 : Int32) = 0 by decide) ?_
      conv => whnf
      refine ⟨hxi, ?_⟩
      conv => whnf
      refine ⟨hvi, ?_⟩
      conv => whnf
      rw [hvn, hxn]
      refine ⟨fun (h1 : ¬ f.1 8 (40 * p + k) = f.1 3 k) => ?_, fun (h1 : ¬ ¬ f.1 8 (40 * p + k) = f.1 3 k) => ?_⟩
      · conv => whnf
        refine hJ _ _ _ _ (r_pe_c hp hp4 hN hN4 r (k + 1) 0 _ hv1 (by omega) (Or.inl rfl) (fun sm' z1 z2 => h sm' z1 ⟨fun z => absurd (z2.mp z).1 (by decide), fun z => absurd (z.2 k (Nat.le_refl _) (by omega)) h1⟩))
      · have h1 := Decidable.not_not.mp h1
        conv => whnf
        refine hJ _ _ _ _ (r_pe_c hp hp4 hN hN4 r (k + 1) 1 _ hv1 (by omega) (Or.inr rfl) (fun sm' z1 z2 => h sm' z1 ⟨fun z => ⟨rfl, fun j j1 j2 => ?_⟩, fun z => z2.mpr ⟨rfl, fun j j1 j2 => z.2 j (by omega) j2⟩⟩))
        by_cases e : j = k
        · rw [e]; exact h1
        · exact (z2.mp z).2 j (by omega) j2
theorem r_pe_b (hN : (f.1 4 0).toInt = (N : Int)) (hN4 : N ≤ 40) (hn : (f.1 7 0).toInt = (n : Int)) (hn4 : n ≤ 4) : ∀ (r p : Nat) (kn pv : Int32), pv.toInt = (p : Int) → p + r = n → (kn = 0 ∨ kn = 1) → (∀ kn' : Int32, (kn' = 0 ∨ kn' = 1) → (kn' = 1 ↔ kn = 1 ∨ ∃ p', p ≤ p' ∧ p' < n ∧ R_sm f p') → jx_fj th (rf_g m) (rf σ0 m) d 184 176 [(0, .ref 0), (1, .int st), (2, .int kn')] [] f Q) → jx_fj th (rf_g m) (rf σ0 m) d 184 75 [(0, .ref 0), (1, .int st), (2, .int kn), (3, .int pv)] [] f Q
  | 0, p, kn, pv, hv, hp, hkn, h => by
    refine rf_at dt_184 60 [(176, [0, 1, 2])] dt_184_k (by decide +kernel) ?_
    intro C J hC hJ
    conv => whnf
    refine jx_yes (show f.1 7 0 ≤ pv by rw [Int32.le_iff_toInt_le, hn, hv]; omega) ?_
    conv => whnf
    refine hJ _ _ _ _ (h kn hkn ⟨fun z => Or.inl z, fun z => ?_⟩)
    rcases z with z | ⟨p', z1, z2, -⟩
    · exact z
    · omega
  | r + 1, p, kn, pv, hv, hp, hkn, h => by
    have hvi : jx_in pv 4 := jx_in_nat hv (by omega)
    have hvn := i32_nat hv
    have hv1 : (pv + Int32.ofInt 1).toInt = ((p + 1 : Nat) : Int) := by rw [i32_add (c := 1) hv (by decide) (by omega) (by omega)]; omega
    have tail : ∀ sm' : Int32, (sm' = 0 ∨ sm' = 1) → (sm' = 1 ↔ R_sm f p) → jx_fj th (rf_g m) (rf σ0 m) d 184 155 [(0, .ref 0), (1, .int st), (2, .int kn), (3, .int pv), (4, .int sm')] [] f Q := by
      intro sm' s1 s2
      refine rf_at dt_184 60 [(75, [0, 1, 2, 3])] dt_184_k (by decide +kernel) ?_
      intro C J hC hJ
      have next : ∀ kn2 : Int32, (kn2 = 0 ∨ kn2 = 1) → (kn2 = 1 ↔ kn = 1 ∨ R_sm f p) → jx_fj th (rf_g m) (rf σ0 m) d 184 75 [(0, .ref 0), (1, .int st), (2, .int kn2), (3, .int (pv + Int32.ofInt 1))] [] f Q := fun kn2 k1 k2 => r_pe_b hN hN4 hn hn4 r (p + 1) kn2 _ hv1 (by omega) k1 (fun kn' z1 z2 => h kn' z1 ⟨fun z => by
        rcases z2.mp z with w | ⟨p', w1, w2, w3⟩
        · rcases k2.mp w with w | w
          · exact Or.inl w
          · exact Or.inr ⟨p, Nat.le_refl _, by omega, w⟩
        · exact Or.inr ⟨p', by omega, w2, w3⟩, fun z => by
        rcases z with w | ⟨p', w1, w2, w3⟩
        · exact z2.mpr (Or.inl (k2.mpr (Or.inl w)))
        · by_cases e : p' = p
          · rw [e] at w3; exact z2.mpr (Or.inl (k2.mpr (Or.inr w3)))
          · exact z2.mpr (Or.inr ⟨p', by omega, w2, w3⟩)⟩)
      conv => whnf
      rcases hkn with rfl | rfl
      · refine jx_no (show ¬ ¬ (0 : Int32) = 0 from fun z => z rfl) ?_
        conv => whnf
        rcases s1 with rfl | rfl
        · refine jx_yes (show (0 : Int32) = 0 from rfl) ?_
          conv => whnf
          exact hJ _ _ _ _ (next 0 (Or.inl rfl) ⟨fun z => absurd z (by decide), fun z => by rcases z with z | z; exact absurd z (by decide); exact absurd (s2.mpr z) (by decide)⟩)
        · refine jx_no (show ¬ (1 : Int32) = 0 by decide) ?_
          conv => whnf
          exact hJ _ _ _ _ (next 1 (Or.inr rfl) ⟨fun _ => Or.inr (s2.mp rfl), fun _ => rfl⟩)
      · refine jx_yes (show ¬ (1 : Int32) = 0 by decide) ?_
        conv => whnf
        exact hJ _ _ _ _ (next 1 (Or.inr rfl) ⟨fun _ => Or.inl rfl, fun _ => rfl⟩)
    refine rf_at dt_184 60 [(106, [0, 1, 2, 3, 4, 5])] dt_184_k (by decide +kernel) ?_
    intro C J hC hJ
    conv => whnf
    refine jx_no (show ¬ f.1 7 0 ≤ pv by rw [Int32.le_iff_toInt_le, hn, hv]; omega) ?_
    conv => whnf
    refine ⟨hvi, ?_⟩
    conv => whnf
    rw [hvn]
    refine ⟨fun (h1 : ¬ f.1 9 p = f.1 4 0) => ?_, fun (h1 : ¬ ¬ f.1 9 p = f.1 4 0) => ?_⟩
    · conv => whnf
      exact hJ _ _ _ _ (r_pe_c hv (by omega) hN hN4 N 0 0 0 (by decide) (by omega) (Or.inl rfl) (fun sm' z1 z2 => tail sm' z1 ⟨fun z => absurd (z2.mp z).1 (by decide), fun z => absurd z.1 h1⟩))
    · have h1 := Decidable.not_not.mp h1
      conv => whnf
      exact hJ _ _ _ _ (r_pe_c hv (by omega) hN hN4 N 0 1 0 (by decide) (by omega) (Or.inr rfl) (fun sm' z1 z2 => tail sm' z1 ⟨fun z => ⟨h1, fun j hj => (z2.mp z).2 j (by omega) (by omega)⟩, fun z => z2.mpr ⟨rfl, fun j _ j2 => z.2 j (by omega)⟩⟩))
theorem r_pe_d (hst : st = 0 ∨ st = 1) (hN : (f.1 4 0).toInt = (N : Int)) (hN4 : N ≤ 40) (hn : (f.1 7 0).toInt = (n : Int)) (hn4 : n < 4) : ∀ (r k : Nat) (kv : Int32), kv.toInt = (k : Int) → k + r = N → Q (some (.int (f.1 7 0 + 1))) (R_pe0 f n N st) → jx_fj th (rf_g m) (rf σ0 m) d 184 196 [(0, .ref 0), (1, .int st), (3, .int kv)] [] (R_cy f 3 0 8 (40 * n) k) Q
  | 0, k, kv, hv, hk, h => by
    have ek : k = N := by omega
    rw [ek]
    obtain ⟨g, hg⟩ : ∃ g, g = R_cy f 3 0 8 (40 * n) N := ⟨_, rfl⟩
    have og : ∀ q j, q ≠ 8 → g.1 q j = f.1 q j := fun q j z => by rw [hg]; exact R_cy_o (fun w => z w.1)
    rw [← hg]
    have hn' : (g.1 7 0).toInt = (n : Int) := by rw [og 7 0 (by omega)]; exact hn
    have hni : jx_in (g.1 7 0) 4 := jx_in_nat hn' hn4
    have hnn := i32_nat hn'
    have nz : vp_nar .boolean st = st := by rcases hst with rfl | rfl <;> decide
    refine rf_at dt_184 80 [] dt_184_k (by decide +kernel) ?_
    intro C J hC hJ
    conv => whnf
    refine jx_yes (show g.1 4 0 ≤ kv by rw [og 4 0 (by omega), Int32.le_iff_toInt_le, hN, hv]; omega) ?_
    conv => whnf
    refine ⟨hni, ?_⟩
    conv => whnf
    refine ⟨hni, ?_⟩
    conv => whnf
    refine ⟨hni, ?_⟩
    conv => whnf
    have e : rf_ui (rf_ui (rf_ui (rf_ui (rf_ui g 9 n (g.1 4 0)) 10 n st) 17 n (g.1 1 0 + 30)) 4 0 0) 7 0 (g.1 7 0 + 1) = R_pe0 f n N st := by
      rw [og 4 0 (by omega), og 1 0 (by omega), og 7 0 (by omega), hg]
      rfl
    have e7 : (R_pe0 f n N st).1 7 0 = f.1 7 0 + 1 := by unfold R_pe0; exact rf_ui_eq
    have goal : Q (some (.int ((rf_ui (rf_ui (rf_ui (rf_ui (rf_ui g 9 (g.1 7 0).toNatClampNeg (g.1 4 0)) 10 (g.1 7 0).toNatClampNeg (vp_nar .boolean st)) 17 (g.1 7 0).toNatClampNeg (g.1 1 0 + 30)) 4 0 0) 7 0 (g.1 7 0 + 1)).1 7 0))) (rf_ui (rf_ui (rf_ui (rf_ui (rf_ui g 9 (g.1 7 0).toNatClampNeg (g.1 4 0)) 10 (g.1 7 0).toNatClampNeg (vp_nar .boolean st)) 17 (g.1 7 0).toNatClampNeg (g.1 1 0 + 30)) 4 0 0) 7 0 (g.1 7 0 + 1)) := by
      rw [nz, hnn, e, e7]
      exact h
    exact goal
  | r + 1, k, kv, hv, hk, h => by
    have og : ∀ q j, q ≠ 8 → (R_cy f 3 0 8 (40 * n) k).1 q j = f.1 q j := fun q j z => R_cy_o (fun w => z w.1)
    have hvi : jx_in kv 40 := jx_in_nat hv (by omega)
    have hvn := i32_nat hv
    have hn' : ((R_cy f 3 0 8 (40 * n) k).1 7 0).toInt = (n : Int) := by rw [og 7 0 (by omega)]; exact hn
    have hx : (40 * (R_cy f 3 0 8 (40 * n) k).1 7 0 + kv).toInt = ((40 * n + k : Nat) : Int) := by
      have h3 : (40 * (R_cy f 3 0 8 (40 * n) k).1 7 0).toInt = ((40 * n : Nat) : Int) := by rw [i32_mul (a := 40) (by decide) hn' (by omega) (by omega)]; omega
      rw [i32_add h3 hv (by omega) (by omega)]; omega
    have hxn := i32_nat hx
    refine rf_at dt_184 60 [(196, [0, 1, 3])] dt_184_k (by decide +kernel) ?_
    intro C J hC hJ
    conv => whnf
    refine jx_no (show ¬ (R_cy f 3 0 8 (40 * n) k).1 4 0 ≤ kv by rw [og 4 0 (by omega), Int32.le_iff_toInt_le, hN, hv]; omega) ?_
    conv => whnf
    refine ⟨hvi, ?_⟩
    conv => whnf
    refine ⟨jx_in_nat hx (show 40 * n + k < 160 by omega), ?_⟩
    conv => whnf
    have er : (R_cy f 3 0 8 (40 * n) k).1 3 k = f.1 3 (0 + k) := by rw [Nat.zero_add]; exact og 3 k (by omega)
    have es := R_cy_s (f := f) (q1 := 3) (s := 0) (q2 := 8) (e := 40 * n) (k := k)
    rw [hvn, er, hxn, es]
    refine hJ _ _ _ _ (r_pe_d hst hN hN4 hn hn4 r (k + 1) _ ?_ (by omega) h)
    rw [i32_add (c := 1) hv (by decide) (by omega) (by omega)]; omega
theorem r_peer (hst : st = 0 ∨ st = 1) (hN : (f.1 4 0).toInt = (N : Int)) (hN4 : N ≤ 40) (hn : (f.1 7 0).toInt = (n : Int)) (hn4 : n ≤ 4) : rfc th σ0 m (d + 1) 184 [.ref 0, .int st] f (fun r f' => r = some (.int (R_peerF (rf_ui f 0 0 0) st).1) ∧ f' = (R_peerF (rf_ui f 0 0 0) st).2) := by
  obtain ⟨g, hgd⟩ : ∃ g, g = rf_ui f 0 0 0 := ⟨_, rfl⟩
  have hN' : (g.1 4 0).toInt = (N : Int) := by rw [hgd, rf_ui_ne (by omega)]; exact hN
  have hn' : (g.1 7 0).toInt = (n : Int) := by rw [hgd, rf_ui_ne (by omega)]; exact hn
  rw [← hgd]
  have rest : ∀ kn : Int32, (kn = 0 ∨ kn = 1) → (kn = 1 ↔ R_sh g) → ¬ g.1 4 0 = 0 → jx_fj th (rf_g m) (rf σ0 m) d 184 73 [(0, .ref 0), (1, .int st), (2, .int kn)] [] g (fun r f' => r = some (.int (R_peerF g st).1) ∧ f' = (R_peerF g st).2) := by
    intro kn k1 k2 h0
    refine rf_at dt_184 60 [(75, [0, 1, 2, 3])] dt_184_k (by decide +kernel) ?_
    intro C J hC hJ
    conv => whnf
    refine hJ _ _ _ _ (r_pe_b hN' hN4 hn' hn4 n 0 kn 0 (by decide) (by omega) k1 (fun kn' z1 z2 => ?_))
    have hkn : kn' = 1 ↔ R_kn g := by
      rw [z2, k2]
      unfold R_kn
      constructor
      · rintro (w | ⟨p', w1, w2, w3⟩)
        · exact Or.inl w
        · exact Or.inr ⟨p', by omega, w3⟩
      · rintro (w | ⟨p', w1, w3⟩)
        · exact Or.inl w
        · exact Or.inr ⟨p', by omega, by omega, w3⟩
    refine rf_at dt_184 60 [(196, [0, 1, 3])] dt_184_k (by decide +kernel) ?_
    intro C J hC hJ
    conv => whnf
    rcases z1 with rfl | rfl
    · have hk : ¬ R_kn g := fun z => absurd (hkn.mpr z) (by decide)
      refine jx_yes (show (0 : Int32) = 0 from rfl) ?_
      conv => whnf
      refine ⟨fun (h4 : ¬ g.1 7 0 = 4) => ?_, fun (h4 : ¬ ¬ g.1 7 0 = 4) => ?_⟩
      · have hlt : n < 4 := by
          rcases Nat.lt_or_ge n 4 with z | z
          · exact z
          · exact absurd (Int32.toInt_inj.mp (by rw [hn', show n = 4 by omega]; decide)) h4
        conv => whnf
        refine hJ _ _ _ _ ?_
        have := r_pe_d (th := th) (σ0 := σ0) (m := m) (d := d) (f := g) (st := st) (Q := fun r f' => r = some (.int (R_peerF g st).1) ∧ f' = (R_peerF g st).2) hst hN' hN4 hn' hlt N 0 0 (by decide) (by omega) (by
          unfold R_peerF
          rw [if_neg h0, if_neg hk, if_neg h4, i32_nat hn', i32_nat hN']
          exact ⟨rfl, rfl⟩)
        rw [R_cy_0] at this
        exact this
      · conv => whnf
        unfold R_peerF
        rw [if_neg h0, if_neg hk, if_pos (Decidable.not_not.mp h4)]
        exact ⟨rfl, rfl⟩
    · have hk : R_kn g := hkn.mp rfl
      refine jx_no (show ¬ (1 : Int32) = 0 by decide) ?_
      conv => whnf
      unfold R_peerF
      rw [if_neg h0, if_pos hk]
      exact ⟨rfl, rfl⟩
  refine rf_go dt_184 60 [(34, [0, 1, 2, 3])] dt_184_k (by decide +kernel) rfl ?_
  intro C J hC hJ
  conv => whnf
  rw [show rf_ui f 0 0 0 = g from hgd.symm]
  refine ⟨fun (h0 : ¬ g.1 4 0 = 0) => ?_, fun (h0 : ¬ ¬ g.1 4 0 = 0) => ?_⟩
  · conv => whnf
    refine ⟨fun (h1 : ¬ g.1 4 0 = g.1 6 0) => ?_, fun (h1 : ¬ ¬ g.1 4 0 = g.1 6 0) => ?_⟩
    · conv => whnf
      exact hJ _ _ _ _ (r_pe_a hN' hN4 N 0 0 0 (by decide) (by omega) (Or.inl rfl) (fun kn' z1 z2 => rest kn' z1 ⟨fun z => absurd (z2.mp z).1 (by decide), fun z => absurd z.1 h1⟩ h0))
    · have h1 := Decidable.not_not.mp h1
      conv => whnf
      exact hJ _ _ _ _ (r_pe_a hN' hN4 N 0 1 0 (by decide) (by omega) (Or.inr rfl) (fun kn' z1 z2 => rest kn' z1 ⟨fun z => ⟨h1, fun j hj => (z2.mp z).2 j (by omega) (by omega)⟩, fun z => z2.mpr ⟨rfl, fun j _ j2 => z.2 j (by omega)⟩⟩ h0))
  · conv => whnf
    unfold R_peerF
    rw [if_pos (Decidable.not_not.mp h0)]
    exact ⟨rfl, rfl⟩
end JxPeer
