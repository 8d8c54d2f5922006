/-! PAIRS OF CALLS THAT ONLY LOOK: SESSIONS -/
section JxLooks
variable {th : Nat → Nat} {B b d : Nat} {xl : List Int32} {σ : jx_S} {f : jx_F} {A : Nat → Nat → Nat} {G : Nat → Nat → Int32} {T : Nat → Nat} {P : jx_S → Prop}
theorem jx_cast_of {a o idx ci : Nat} {fs : List Value} (h : σ.1 a = some (.inr (ci, fs))) (hn : tb_new o idx = some ci) : jx_cast σ o idx (.ref a) = true := by
  unfold jx_cast
  simp only [h, hn, decide_true]
theorem pair_lookJ {jx jm : Nat} {as : List Value} {w : Int64} (has : as.map (jx_rn (rf_g (B + 39))) = as) (hR : Rel th B b xl σ f A G T) (hP : P (rf σ (B + 39) (rf_ui f 0 0 0)))
    (hc : jc th 30 jx (.ref B :: as) σ (fun r σ1 => r = some (.long w) ∧ σ1 = σ)) (hr : ∀ σ0, rfc th σ0 (B + 39) 30 jm (.ref 0 :: as) f (fun r f'' => r = some (.long w) ∧ f'' = rf_ui f 0 0 0)) : pcJ th b B (B + 39) xl jx jm as σ P :=
  pair_j has (hc.mp (fun _ _ h => by
    obtain ⟨h1, h2⟩ := h
    subst h2
    exact ⟨h1, hR.1, rm.rf, A, G, T, by rw [fN_0]; exact hR.2, hP⟩)) hr
theorem pair_sessions (hR : Rel th B b xl σ f A G T) (hP : P (rf σ (B + 39) (rf_ui f 0 0 0))) : lawp_17 th b B (B + 39) xl σ P := by
  have hX := hR.2.1.2.2.2.2.2.1
  have hL := hR.2.1.2.2.2.2.2.2.2.2.2.1
  obtain ⟨n, hn, hn16, ⟨⟨mc, hal⟩, -⟩, -⟩ := hR.2.2.2.2.2.2.2.2
  refine pair_look (w := f.1 40 0) rfl hR hP ?_ (fun σ0 => (r_sessions (d := 29)).up (by omega))
  refine cl_go dt_171 20 [] dt_171_k rfl ?_
  intro C J hC hJ
  conv => whnf
  refine ⟨_, jx_getF_of hX rfl, ?_⟩
  conv => whnf
  refine ⟨_, jx_getF_of hL rfl, ?_⟩
  conv => whnf
  refine ⟨jx_isC_of hal, hC _ _ _ _ (((k_size (d := 28) hal).up (by omega)).mp ?_)⟩
  rintro r σ1 ⟨rfl, rfl⟩
  conv => whnf
  refine ⟨?_, rfl⟩
  have e : f.1 40 0 = Int32.ofNat n := i32_eq hn (by omega)
  rw [e, List.length_map, List.length_range]
theorem k_sessionAt {i : Int32} {n : Nat} (hL : σ.1 (B + 6) = some (.inr (2, [.ref (B + 7), .ref (B + 8)]))) (hn16 : n ≤ 16) (hal : al_at th B σ T (B + 8) (A 70 4) 74 ((List.range n).map (A 8))) (hs : ∀ s, s < n → rl_s1 B σ f A T s) : jc th (d + 4) 143 [.ref (B + 6), .int i] σ (fun r σ' => ((∃ k : Nat, i.toInt = (k : Int) ∧ k < n ∧ r = some (.ref (A 8 k))) ∨ (r = some .null ∧ (i < 0 ∨ ¬ i < Int32.ofNat n))) ∧ σ' = σ) := by
  have hal0 := hal
  obtain ⟨⟨mc, h1⟩, -⟩ := hal
  rw [List.length_map, List.length_range] at h1
  refine cl_go dt_143 40 [] dt_143_k rfl ?_
  intro C J hC hJ
  conv => whnf
  refine ⟨fun (h2 : i < 0) => ?_, fun (h2 : ¬ i < 0) => ?_⟩
  · conv => whnf
    exact ⟨Or.inr ⟨rfl, Or.inl h2⟩, rfl⟩
  · conv => whnf
    refine ⟨_, jx_getF_of hL rfl, ?_⟩
    conv => whnf
    refine ⟨jx_isC_of h1, hC _ _ _ _ (((k_size (d := d) h1).up (by omega)).mp ?_)⟩
    rintro r σ1 ⟨rfl, hs1⟩
    rw [hs1]
    conv => whnf
    refine ⟨fun (h3 : i < Int32.ofNat n) => ?_, fun (h3 : ¬ i < Int32.ofNat n) => ?_⟩
    · obtain ⟨k, hk⟩ : ∃ k : Nat, i.toInt = (k : Int) := ⟨i.toInt.toNat, by
        have := Int32.le_iff_toInt_le.mp (Int32.not_lt.mp h2)
        have e : (0 : Int32).toInt = 0 := by decide
        omega⟩
      have hkn : k < n := by
        rw [Int32.lt_iff_toInt_lt, hk, i32_ofNat (by omega)] at h3
        omega
      conv => whnf
      refine ⟨_, jx_getF_of hL rfl, ?_⟩
      conv => whnf
      refine ⟨jx_isC_of h1, hC _ _ _ _ ((k_get (d := d) hal0 hk (by simp [hkn] : ((List.range n).map (A 8))[k]? = some (A 8 k))).mp ?_)⟩
      rintro r σ2 ⟨rfl, hs2⟩
      rw [hs2]
      conv => whnf
      refine ⟨jx_cast_of (hs k hkn).2.1 (by decide +kernel), ?_⟩
      conv => whnf
      exact ⟨Or.inl ⟨k, hk, hkn, rfl⟩, rfl⟩
    · conv => whnf
      exact ⟨Or.inr ⟨rfl, Or.inr h3⟩, rfl⟩
theorem pair_granted (hR : Rel th B b xl σ f A G T) (hP : P (rf σ (B + 39) (rf_ui f 0 0 0))) : lawp_19 th b B (B + 39) xl σ P := by
  intro i
  have hX := hR.2.1.2.2.2.2.2.1
  have hL := hR.2.1.2.2.2.2.2.2.2.2.2.1
  obtain ⟨n, hn, hn16, hal, hinj, hs⟩ := hR.2.2.2.2.2.2.2.2
  have hn' : (f.1 40 0).toInt = (n : Int) := hn
  have e40 : f.1 40 0 = Int32.ofNat n := i32_eq hn' (by omega)
  by_cases hin : i < 0 ∨ ¬ i < Int32.ofNat n
  · refine pair_lookJ (w := -1) rfl hR hP ?_ (fun σ0 => ((r_granted (d := 29) hn' hn16).mp ?_))
    · refine cl_go dt_173 40 [] dt_173_k rfl ?_
      intro C J hC hJ
      conv => whnf
      refine ⟨_, jx_getF_of hX rfl, ?_⟩
      conv => whnf
      refine ⟨jx_isC_of hL, hC _ _ _ _ (((k_sessionAt (d := 25) hL hn16 hal hs).up (by omega)).mp ?_)⟩
      rintro r σ1 ⟨hcs, hs1⟩
      rw [hs1]
      rcases hcs with ⟨k, hk, hkn, rfl⟩ | ⟨rfl, -⟩
      · refine absurd hin (fun z => ?_)
        rcases z with z | z
        · rw [Int32.lt_iff_toInt_lt, hk] at z
          simp at z
          omega
        · rw [Int32.lt_iff_toInt_lt, hk, i32_ofNat (by omega)] at z
          omega
      · conv => whnf
        exact ⟨rfl, rfl⟩
    · rintro r f1 ⟨hcs, hf1⟩
      rcases hcs with ⟨k, hk, hkn, rfl⟩ | ⟨rfl, -⟩
      · refine absurd hin (fun z => ?_)
        rcases z with z | z
        · rw [Int32.lt_iff_toInt_lt, hk] at z
          simp at z
          omega
        · rw [Int32.lt_iff_toInt_lt, hk, i32_ofNat (by omega)] at z
          omega
      · exact ⟨rfl, hf1⟩
  · obtain ⟨k, hk⟩ : ∃ k : Nat, i.toInt = (k : Int) := ⟨i.toInt.toNat, by
      have h2 : ¬ i < 0 := fun z => hin (Or.inl z)
      have := Int32.le_iff_toInt_le.mp (Int32.not_lt.mp h2)
      have e : (0 : Int32).toInt = 0 := by decide
      omega⟩
    refine pair_lookJ (w := f.2 45 k) rfl hR hP ?_ (fun σ0 => ((r_granted (d := 29) hn' hn16).mp ?_))
    · refine cl_go dt_173 40 [] dt_173_k rfl ?_
      intro C J hC hJ
      conv => whnf
      refine ⟨_, jx_getF_of hX rfl, ?_⟩
      conv => whnf
      refine ⟨jx_isC_of hL, hC _ _ _ _ (((k_sessionAt (d := 25) hL hn16 hal hs).up (by omega)).mp ?_)⟩
      rintro r σ1 ⟨hcs, hs1⟩
      rw [hs1]
      rcases hcs with ⟨k', hk', hkn, rfl⟩ | ⟨rfl, hno⟩
      · have ek : k' = k := by omega
        subst ek
        conv => whnf
        refine ⟨_, jx_getF_of (hs k' hkn).2.1 rfl, ?_⟩
        conv => whnf
        exact ⟨rfl, rfl⟩
      · exact absurd hno hin
    · rintro r f1 ⟨hcs, hf1⟩
      rcases hcs with ⟨k', hk', hkn, rfl⟩ | ⟨rfl, hno⟩
      · have ek : k' = k := by omega
        subst ek
        exact ⟨rfl, hf1⟩
      · rw [e40] at hno
        exact absurd hno hin
end JxLooks
