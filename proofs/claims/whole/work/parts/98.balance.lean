/-! ACCOUNTS: the one with a number; the pair balance -/
/-- the first account with the number v, from k on: r are left; 16: none -/
def R_ac (f : jx_F) (v : Int64) : Nat → Nat → Nat
  | 0, _ => 16
  | r + 1, k => if f.2 36 k = v then k else R_ac f v r (k + 1)
section JxBalance
variable {th : Nat → Nat} {B b d m : Nat} {xl : List Int32} {σ σ0 : jx_S} {f : jx_F} {A : Nat → Nat → Nat} {G : Nat → Nat → Int32} {T : Nat → Nat} {P : jx_S → Prop} {v : Int64} {n : Nat}
theorem R_ac_r : ∀ (r k : Nat), R_ac f v r k ≠ 16 → k ≤ R_ac f v r k ∧ R_ac f v r k < k + r
  | 0, k, h => absurd rfl h
  | r + 1, k, h => by
    unfold R_ac at h ⊢
    split
    · exact ⟨Nat.le_refl _, by omega⟩
    · rename_i hv
      rw [if_neg hv] at h
      have := R_ac_r r (k + 1) h
      omega
theorem r_ac_l {Q : Option Value → jx_F → Prop} (hn : (f.1 35 0).toInt = (n : Int)) (hn16 : n ≤ 16) : ∀ (r k : Nat) (i : Int32), i.toInt = (k : Int) → k + r = n → (R_ac f v r k ≠ 16 → Q (some (.int (Int32.ofNat (R_ac f v r k)))) f) → (R_ac f v r k = 16 → Q (some (.int (-1))) f) → jx_fj th (rf_g m) (rf σ0 m) d 251 2 [(0, .ref 0), (1, .long v), (3, .int i)] [] f Q
  | 0, k, i, hi, hk, h1, h2 => by
    refine rf_at dt_251 40 [] dt_251_k (by decide +kernel) ?_
    intro C J hC hJ
    conv => whnf
    refine jx_yes (show f.1 35 0 ≤ i by rw [Int32.le_iff_toInt_le]; omega) ?_
    conv => whnf
    exact h2 rfl
  | r + 1, k, i, hi, hk, h1, h2 => by
    have hin : jx_in i 16 := jx_in_nat hi (show k < 16 by omega)
    have hik := i32_nat hi
    refine rf_at dt_251 40 [(2, [0, 1, 3])] dt_251_k (by decide +kernel) ?_
    intro C J hC hJ
    conv => whnf
    refine jx_no (show ¬ f.1 35 0 ≤ i by rw [Int32.le_iff_toInt_le]; omega) ?_
    conv => whnf
    refine ⟨hin, ?_⟩
    conv => whnf
    try rw [hik]
    refine ⟨fun (h : ¬ lg_cmp (f.2 36 k) v = 0) => ?_, fun (h : ¬ ¬ lg_cmp (f.2 36 k) v = 0) => ?_⟩
    · have hv : ¬ f.2 36 k = v := fun z => h (lg_cmp_z.mpr z)
      have e : R_ac f v (r + 1) k = R_ac f v r (k + 1) := if_neg hv
      rw [e] at h1 h2
      have hi1 : (i + Int32.ofInt 1).toInt = ((k + 1 : Nat) : Int) := by rw [i32_add (c := 1) hi (by decide) (by omega) (by omega)]; omega
      conv => whnf
      exact hJ _ _ _ _ (r_ac_l hn hn16 r (k + 1) _ hi1 (by omega) h1 h2)
    · have hv : f.2 36 k = v := lg_cmp_z.mp (Decidable.not_not.mp h)
      have e : R_ac f v (r + 1) k = k := if_pos hv
      rw [e] at h1
      conv => whnf
      have e2 : Int32.ofNat k = i := Int32.toInt_inj.mp (by rw [i32_ofNat (by omega), hi])
      rw [← e2]
      exact h1 (by omega)
theorem r_accountOf (hn : (f.1 35 0).toInt = (n : Int)) (hn16 : n ≤ 16) : rfc th σ0 m (d + 1) 251 [.ref 0, .long v] f (fun r f' => ((R_ac f v n 0 ≠ 16 ∧ r = some (.int (Int32.ofNat (R_ac f v n 0)))) ∨ (R_ac f v n 0 = 16 ∧ r = some (.int (-1)))) ∧ f' = f) := by
  refine rf_go dt_251 20 [(2, [0, 1, 3])] dt_251_k (by decide +kernel) rfl ?_
  intro C J hC hJ
  conv => whnf
  exact hJ _ _ _ _ (r_ac_l hn hn16 n 0 0 (by decide) (by omega) (fun h => ⟨Or.inl ⟨h, rfl⟩, rfl⟩) (fun h => ⟨Or.inr ⟨h, rfl⟩, rfl⟩))
def R_bal (f : jx_F) (k : Nat) (w : Int32) : Int64 := if w = 0 then f.2 37 k else if w = 1 then f.2 38 k else if w = 2 then f.2 39 k else -2
theorem R_ac_0 {x : Int32} : ∀ (r k : Nat), R_ac (rf_ui f 0 0 x) v r k = R_ac f v r k
  | 0, _ => rfl
  | r + 1, k => by
    unfold R_ac
    rw [R_ac_0 r (k + 1)]
    rfl
theorem r_balance {w : Int32} (hn : (f.1 35 0).toInt = (n : Int)) (hn16 : n ≤ 16) : rfc th σ0 m (d + 2) 274 [.ref 0, .long v, .int w] f (fun r f' => ((R_ac f v n 0 ≠ 16 ∧ r = some (.long (R_bal f (R_ac f v n 0) w))) ∨ (R_ac f v n 0 = 16 ∧ r = some (.long (-1)))) ∧ f' = rf_ui f 0 0 0) := by
  refine rf_go dt_274 60 [] dt_274_k (by decide +kernel) rfl ?_
  intro C J hC hJ
  conv => whnf
  refine hC _ _ _ _ ((r_accountOf (n := n) (by rw [rf_ui_ne (by simp)]; exact hn) hn16).mp ?_)
  rintro r f1 ⟨hcs, hf1⟩
  rw [R_ac_0] at hcs
  rw [hf1]
  rcases hcs with ⟨h1, rfl⟩ | ⟨h1, rfl⟩
  · have hr := R_ac_r n 0 h1
    have hi : (Int32.ofNat (R_ac f v n 0)).toInt = ((R_ac f v n 0 : Nat) : Int) := i32_ofNat (by omega)
    have hin : jx_in (Int32.ofNat (R_ac f v n 0)) 16 := jx_in_nat hi (by omega)
    have hik := i32_nat hi
    conv => whnf
    refine jx_yes (show 0 ≤ Int32.ofNat (R_ac f v n 0) by rw [Int32.le_iff_toInt_le, hi]; simp) ?_
    conv => whnf
    refine ⟨fun (h2 : ¬ w = 0) => ?_, fun (h2 : ¬ ¬ w = 0) => ?_⟩
    · conv => whnf
      refine ⟨fun (h3 : ¬ w = 1) => ?_, fun (h3 : ¬ ¬ w = 1) => ?_⟩
      · conv => whnf
        refine ⟨fun (h4 : ¬ w = 2) => ?_, fun (h4 : ¬ ¬ w = 2) => ?_⟩
        · conv => whnf
          refine ⟨Or.inl ⟨h1, ?_⟩, rfl⟩
          unfold R_bal
          rw [if_neg h2, if_neg h3, if_neg h4]
        · conv => whnf
          refine ⟨hin, ?_⟩
          conv => whnf
          refine ⟨Or.inl ⟨h1, ?_⟩, rfl⟩
          unfold R_bal
          rw [if_neg h2, if_neg h3, if_pos (Decidable.not_not.mp h4), hik]
          rfl
      · conv => whnf
        refine ⟨hin, ?_⟩
        conv => whnf
        refine ⟨Or.inl ⟨h1, ?_⟩, rfl⟩
        unfold R_bal
        rw [if_neg h2, if_pos (Decidable.not_not.mp h3), hik]
        rfl
    · conv => whnf
      refine ⟨hin, ?_⟩
      conv => whnf
      refine ⟨Or.inl ⟨h1, ?_⟩, rfl⟩
      unfold R_bal
      rw [if_pos (Decidable.not_not.mp h2), hik]
      rfl
  · conv => whnf
    refine jx_no (show ¬ (0 : Int32) ≤ -1 by decide) ?_
    conv => whnf
    exact ⟨Or.inr ⟨h1, rfl⟩, rfl⟩
/-- the class's own look for it -/
theorem k_ac_l {Q : Option Value → jx_S → Prop} (hL : σ.1 (B + 6) = some (.inr (2, [.ref (B + 7), .ref (B + 8)]))) (hn16 : n ≤ 16) (hal : al_at th B σ T (B + 7) (A 70 3) 73 ((List.range n).map (A 10))) (ha : ∀ i, i < n → σ.1 (A 10 i) = some (ca_e f i)) : ∀ (r k : Nat) (i : Int32), i.toInt = (k : Int) → k + r = n → (R_ac f v r k ≠ 16 → Q (some (.ref (A 10 (R_ac f v r k)))) σ) → (R_ac f v r k = 16 → Q (some .null) σ) → cl_fj th (d + 3) 131 2 [(0, .ref (B + 6)), (1, .long v), (3, .int i)] [] σ Q
  | 0, k, i, hi, hk, h1, h2 => by
    obtain ⟨⟨mc, h3⟩, -⟩ := hal
    rw [List.length_map, List.length_range] at h3
    refine cl_at dt_131 40 [] dt_131_k ?_
    intro C J hC hJ
    conv => whnf
    refine ⟨_, jx_getF_of hL rfl, ?_⟩
    conv => whnf
    refine ⟨jx_isC_of h3, hC _ _ _ _ (((k_size (d := d) h3).up (by omega)).mp ?_)⟩
    rintro r' σ1 ⟨rfl, hs1⟩
    rw [hs1]
    conv => whnf
    refine jx_yes (show Int32.ofNat n ≤ i by rw [Int32.le_iff_toInt_le, i32_ofNat (by omega)]; omega) ?_
    conv => whnf
    exact h2 rfl
  | r + 1, k, i, hi, hk, h1, h2 => by
    have hal0 := hal
    obtain ⟨⟨mc, h3⟩, -⟩ := hal
    rw [List.length_map, List.length_range] at h3
    have hgt : ((List.range n).map (A 10))[k]? = some (A 10 k) := by
      have : k < n := by omega
      simp [this]
    refine cl_at dt_131 60 [(2, [0, 1, 3])] dt_131_k ?_
    intro C J hC hJ
    conv => whnf
    refine ⟨_, jx_getF_of hL rfl, ?_⟩
    conv => whnf
    refine ⟨jx_isC_of h3, hC _ _ _ _ (((k_size (d := d) h3).up (by omega)).mp ?_)⟩
    rintro r' σ1 ⟨rfl, hs1⟩
    rw [hs1]
    conv => whnf
    refine jx_no (show ¬ Int32.ofNat n ≤ i by rw [Int32.le_iff_toInt_le, i32_ofNat (by omega)]; omega) ?_
    conv => whnf
    refine ⟨_, jx_getF_of hL rfl, ?_⟩
    conv => whnf
    refine ⟨jx_isC_of h3, hC _ _ _ _ ((k_get (d := d) hal0 hi hgt).mp ?_)⟩
    rintro r' σ1 ⟨rfl, hs1⟩
    rw [hs1]
    conv => whnf
    refine ⟨jx_cast_of (ha k (by omega)) (by decide +kernel), ?_⟩
    conv => whnf
    refine ⟨_, jx_getF_of (ha k (by omega)) rfl, ?_⟩
    conv => whnf
    refine ⟨fun (h : ¬ lg_cmp (f.2 36 k) v = 0) => ?_, fun (h : ¬ ¬ lg_cmp (f.2 36 k) v = 0) => ?_⟩
    · have hv : ¬ f.2 36 k = v := fun z => h (lg_cmp_z.mpr z)
      have e : R_ac f v (r + 1) k = R_ac f v r (k + 1) := if_neg hv
      rw [e] at h1 h2
      have hi1 : (i + Int32.ofInt 1).toInt = ((k + 1 : Nat) : Int) := by rw [i32_add (c := 1) hi (by decide) (by omega) (by omega)]; omega
      conv => whnf
      exact hJ _ _ _ _ (k_ac_l hL hn16 hal0 ha r (k + 1) _ hi1 (by omega) h1 h2)
    · have hv : f.2 36 k = v := lg_cmp_z.mp (Decidable.not_not.mp h)
      have e : R_ac f v (r + 1) k = k := if_pos hv
      rw [e] at h1
      conv => whnf
      refine ⟨_, jx_getF_of hL rfl, ?_⟩
      conv => whnf
      refine ⟨jx_isC_of h3, hC _ _ _ _ ((k_get (d := d) hal0 hi hgt).mp ?_)⟩
      rintro r' σ1 ⟨rfl, hs1⟩
      rw [hs1]
      conv => whnf
      refine ⟨jx_cast_of (ha k (by omega)) (by decide +kernel), ?_⟩
      conv => whnf
      exact h1 (by omega)
theorem k_accountNumbered (hL : σ.1 (B + 6) = some (.inr (2, [.ref (B + 7), .ref (B + 8)]))) (hn16 : n ≤ 16) (hal : al_at th B σ T (B + 7) (A 70 3) 73 ((List.range n).map (A 10))) (ha : ∀ i, i < n → σ.1 (A 10 i) = some (ca_e f i)) : jc th (d + 4) 131 [.ref (B + 6), .long v] σ (fun r σ' => ((R_ac f v n 0 ≠ 16 ∧ r = some (.ref (A 10 (R_ac f v n 0)))) ∨ (R_ac f v n 0 = 16 ∧ r = some .null)) ∧ σ' = σ) := by
  refine cl_go dt_131 20 [(2, [0, 1, 3])] dt_131_k rfl ?_
  intro C J hC hJ
  conv => whnf
  exact hJ _ _ _ _ (k_ac_l hL hn16 hal ha n 0 0 (by decide) (by omega) (fun h => ⟨Or.inl ⟨h, rfl⟩, rfl⟩) (fun h => ⟨Or.inr ⟨h, rfl⟩, rfl⟩))
theorem R_ac_N : ∀ (r k : Nat), R_ac (fN f) v r k = R_ac f v r k
  | 0, _ => rfl
  | r + 1, k => by
    unfold R_ac
    rw [R_ac_N r (k + 1)]
    rfl
theorem pair_balance (hR : Rel th B b xl σ f A G T) (hP : P (rf σ (B + 39) (rf_ui f 0 0 0))) : lawp_16 th b B (B + 39) xl σ P := by
  intro v w
  have hX := hR.2.1.2.2.2.2.2.1
  have hL := hR.2.1.2.2.2.2.2.2.2.2.2.1
  obtain ⟨n, hn, hn16, hal, ha⟩ := hR.2.2.2.2.2.2.2.1
  have hn' : (f.1 35 0).toInt = (n : Int) := hn
  have hk := k_accountNumbered (th := th) (d := 25) (v := v) hL hn16 hal (fun i hi => (ha i hi).2.1)
  rw [R_ac_N] at hk
  by_cases h16 : R_ac f v n 0 = 16
  · refine pair_lookJ (w := -1) rfl hR hP ?_ (fun σ0 => ((r_balance (d := 28) hn' hn16).mp ?_))
    · refine cl_go dt_170 40 [] dt_170_k rfl ?_
      intro C J hC hJ
      conv => whnf
      refine ⟨_, jx_getF_of hX rfl, ?_⟩
      conv => whnf
      refine ⟨jx_isC_of hL, hC _ _ _ _ ((hk.up (by omega)).mp ?_)⟩
      rintro r σ1 ⟨hcs, hs1⟩
      rw [hs1]
      rcases hcs with ⟨h1, rfl⟩ | ⟨h1, rfl⟩
      · exact absurd h16 h1
      · conv => whnf
        exact ⟨rfl, rfl⟩
    · rintro r f1 ⟨hcs, hf1⟩
      rcases hcs with ⟨h1, rfl⟩ | ⟨h1, rfl⟩
      · exact absurd h16 h1
      · exact ⟨rfl, hf1⟩
  · have hr := R_ac_r n 0 h16
    refine pair_lookJ (w := R_bal f (R_ac f v n 0) w) rfl hR hP ?_ (fun σ0 => ((r_balance (d := 28) hn' hn16).mp ?_))
    · refine cl_go dt_170 60 [] dt_170_k rfl ?_
      intro C J hC hJ
      conv => whnf
      refine ⟨_, jx_getF_of hX rfl, ?_⟩
      conv => whnf
      refine ⟨jx_isC_of hL, hC _ _ _ _ ((hk.up (by omega)).mp ?_)⟩
      rintro r σ1 ⟨hcs, hs1⟩
      rw [hs1]
      have hac := (ha (R_ac f v n 0) (by omega)).2.1
      rcases hcs with ⟨h1, rfl⟩ | ⟨h1, rfl⟩
      · conv => whnf
        refine ⟨jx_swx_of (List.forall_mem_cons.mpr ⟨?_, List.forall_mem_cons.mpr ⟨?_, List.forall_mem_cons.mpr ⟨?_, (fun q hq => absurd hq List.not_mem_nil)⟩⟩⟩), ?_⟩
        · intro hw
          conv => whnf
          refine ⟨_, jx_getF_of hac rfl, ?_⟩
          conv => whnf
          refine ⟨?_, rfl⟩
          rw [show w = 0 from hw]
          rfl
        · intro hw
          conv => whnf
          refine ⟨_, jx_getF_of hac rfl, ?_⟩
          conv => whnf
          refine ⟨?_, rfl⟩
          rw [show w = 1 from hw]
          rfl
        · intro hw
          conv => whnf
          refine ⟨_, jx_getF_of hac rfl, ?_⟩
          conv => whnf
          refine ⟨?_, rfl⟩
          rw [show w = 2 from hw]
          rfl
        · refine jx_swd_i (fun hn => ?_)
          conv => whnf
          refine ⟨?_, rfl⟩
          unfold R_bal
          rw [if_neg (show ¬ w = 0 from hn _ (List.mem_of_getElem? (i := 0) rfl)), if_neg (show ¬ w = 1 from hn _ (List.mem_of_getElem? (i := 1) rfl)), if_neg (show ¬ w = 2 from hn _ (List.mem_of_getElem? (i := 2) rfl))]
      · exact absurd h1 h16
    · rintro r f1 ⟨hcs, hf1⟩
      rcases hcs with ⟨h1, rfl⟩ | ⟨h1, rfl⟩
      · exact ⟨rfl, hf1⟩
      · exact absurd h1 h16
end JxBalance
