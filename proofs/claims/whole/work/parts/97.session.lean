/-! A PAIR OF CALLS THAT ONLY LOOKS: a SESSION -/
section JxSession
variable {th : Nat → Nat} {B b d : Nat} {xl : List Int32} {σ : jx_S} {f : jx_F} {A : Nat → Nat → Nat} {G : Nat → Nat → Int32} {T : Nat → Nat} {P : jx_S → Prop}
theorem k_session {i w : Int32} {k n np : Nat} (hX : σ.1 B = some (cx_e B (fN f) (A 0 0) (G 0 0))) (hL : σ.1 (B + 6) = some (.inr (2, [.ref (B + 7), .ref (B + 8)]))) (hn16 : n ≤ 16) (hal : al_at th B σ T (B + 8) (A 70 4) 74 ((List.range n).map (A 8))) (hs : ∀ s, s < n → rl_s1 B σ (fN f) A T s) (hnp : (f.1 7 0).toInt = (np : Int)) (hnp4 : np ≤ 4) (hp : ∀ p, p < np → rl_p1 B σ (fN f) A G T p) (hk : i.toInt = (k : Int)) (hkn : k < n) : jc th (d + 5) 172 [.ref B, .int i, .int w] σ (fun r σ' => r = some (.int (R_ses f k w)) ∧ σ' = σ) := by
  obtain ⟨s1, s2, s3, ⟨p, s4, s5⟩, ⟨ln, s6, s7, s8, hn, s9, s10⟩, -⟩ := hs k hkn
  have s4 : (f.1 47 k).toInt = ((p + 1 : Nat) : Int) := s4
  have s5 : (p : Int) < (f.1 7 0).toInt := s5
  have s6 : (f.1 41 (41 * k)).toInt = (ln : Int) := s6
  refine cl_go dt_172 60 [] dt_172_k rfl ?_
  intro C J hC hJ
  conv => whnf
  refine ⟨_, jx_getF_of hX rfl, ?_⟩
  conv => whnf
  refine ⟨jx_isC_of hL, hC _ _ _ _ ((k_sessionAt (d := d) hL hn16 hal hs).mp ?_)⟩
  rintro r σ1 ⟨hcs, hs1⟩
  rw [hs1]
  rcases hcs with ⟨k', hk', hkn', rfl⟩ | ⟨rfl, hno⟩
  · have ek : k' = k := by omega
    subst ek
    conv => whnf
    refine ⟨jx_swx_of (List.forall_mem_cons.mpr ⟨?_, List.forall_mem_cons.mpr ⟨?_, List.forall_mem_cons.mpr ⟨?_, List.forall_mem_cons.mpr ⟨?_, (fun q hq => absurd hq List.not_mem_nil)⟩⟩⟩⟩), ?_⟩
    · intro hw
      conv => whnf
      refine ⟨_, jx_getF_of s2 rfl, ?_⟩
      conv => whnf
      refine ⟨_, jx_al_of s9, ?_⟩
      conv => whnf
      refine ⟨?_, rfl⟩
      rw [← i32_eq s6 (by omega), show w = 0 from hw]
      rfl
    · intro hw
      conv => whnf
      refine ⟨_, jx_getF_of s2 rfl, ?_⟩
      conv => whnf
      refine ⟨?_, rfl⟩
      rw [show w = 1 from hw]
      rfl
    · intro hw
      conv => whnf
      have hpn : p < np := by omega
      have e47 : ¬ (fN f).1 47 k' = 0 := fun z => by
        have h0 := (i32_z s4).mp z
        omega
      have ea : va_rf (cp_ref A ((fN f).1 47 k')) = .ref (A 6 p) := by
        unfold cp_ref
        rw [if_neg e47, show ((fN f).1 47 k').toNatClampNeg = p + 1 from i32_nat s4]
        rfl
      refine ⟨.ref (A 6 p), (jx_getF_of s2 rfl).trans (congrArg some ea), ?_⟩
      conv => whnf
      refine ⟨_, jx_getF_of (hp p hpn).2.1 rfl, ?_⟩
      conv => whnf
      refine ⟨?_, rfl⟩
      rw [← i32_eq s4 (by omega), show w = 2 from hw]
      rfl
    · intro hw
      conv => whnf
      refine ⟨_, jx_getF_of s2 rfl, ?_⟩
      conv => whnf
      refine ⟨?_, rfl⟩
      rw [show w = 3 from hw]
      rfl
    · refine jx_swd_i (fun hn => ?_)
      conv => whnf
      refine ⟨?_, rfl⟩
      unfold R_ses
      rw [if_neg (show ¬ w = 0 from hn _ (List.mem_of_getElem? (i := 0) rfl)), if_neg (show ¬ w = 1 from hn _ (List.mem_of_getElem? (i := 1) rfl)), if_neg (show ¬ w = 2 from hn _ (List.mem_of_getElem? (i := 2) rfl)), if_neg (show ¬ w = 3 from hn _ (List.mem_of_getElem? (i := 3) rfl))]
  · exfalso
    rcases hno with z | z
    · rw [Int32.lt_iff_toInt_lt, hk] at z
      simp at z
      omega
    · rw [Int32.lt_iff_toInt_lt, hk, i32_ofNat (by omega)] at z
      omega
theorem pair_session (hR : Rel th B b xl σ f A G T) (hP : P (rf σ (B + 39) (rf_ui f 0 0 0))) : lawp_18 th b B (B + 39) xl σ P := by
  intro i w
  have hX := hR.2.1.2.2.2.2.2.1
  have hL := hR.2.1.2.2.2.2.2.2.2.2.2.1
  obtain ⟨n, hn, hn16, hal, hinj, hs⟩ := hR.2.2.2.2.2.2.2.2
  obtain ⟨np, hnp, hnp4, -, hp⟩ := hR.2.2.2.2.1
  have hn' : (f.1 40 0).toInt = (n : Int) := hn
  have e40 : f.1 40 0 = Int32.ofNat n := i32_eq hn' (by omega)
  by_cases hin : i < 0 ∨ ¬ i < Int32.ofNat n
  · refine pair_look (w := -1) rfl hR hP ?_ (fun σ0 => ((r_session (d := 29) hn' hn16).mp ?_))
    · refine cl_go dt_172 40 [] dt_172_k rfl ?_
      intro C J hC hJ
      conv => whnf
      refine ⟨_, jx_getF_of hX rfl, ?_⟩
      conv => whnf
      refine ⟨jx_isC_of hL, hC _ _ _ _ (((k_sessionAt (d := 25) hL hn16 hal hs).up (by omega)).mp ?_)⟩
      rintro r σ1 ⟨hcs, hs1⟩
      rw [hs1]
      rcases hcs with ⟨k, hk, hkn, rfl⟩ | ⟨rfl, -⟩
      · refine absurd hin (fun z => ?_)
        rcases z with z | z
        · rw [Int32.lt_iff_toInt_lt, hk] at z
          simp at z
          omega
        · rw [Int32.lt_iff_toInt_lt, hk, i32_ofNat (by omega)] at z
          omega
      · conv => whnf
        exact ⟨rfl, rfl⟩
    · rintro r f1 ⟨hcs, hf1⟩
      rcases hcs with ⟨k, hk, hkn, rfl⟩ | ⟨rfl, -⟩
      · refine absurd hin (fun z => ?_)
        rcases z with z | z
        · rw [Int32.lt_iff_toInt_lt, hk] at z
          simp at z
          omega
        · rw [Int32.lt_iff_toInt_lt, hk, i32_ofNat (by omega)] at z
          omega
      · exact ⟨rfl, hf1⟩
  · obtain ⟨k, hk⟩ : ∃ k : Nat, i.toInt = (k : Int) := ⟨i.toInt.toNat, by
      have h2 : ¬ i < 0 := fun z => hin (Or.inl z)
      have := Int32.le_iff_toInt_le.mp (Int32.not_lt.mp h2)
      have e : (0 : Int32).toInt = 0 := by decide
      omega⟩
    have hkn : k < n := by
      have h2 : i < Int32.ofNat n := Decidable.not_not.mp (fun z => hin (Or.inr z))
      rw [Int32.lt_iff_toInt_lt, hk, i32_ofNat (by omega)] at h2
      omega
    refine pair_look (w := R_ses f k w) rfl hR hP ((k_session (d := 25) hX hL hn16 hal hs hnp hnp4 hp hk hkn).up (by omega)) (fun σ0 => ((r_session (d := 29) hn' hn16).mp ?_))
    rintro r f1 ⟨hcs, hf1⟩
    rcases hcs with ⟨k', hk', hkn', rfl⟩ | ⟨rfl, hno⟩
    · have ek : k' = k := by omega
      subst ek
      exact ⟨rfl, hf1⟩
    · rw [e40] at hno
      exact absurd hno hin
end JxSession
