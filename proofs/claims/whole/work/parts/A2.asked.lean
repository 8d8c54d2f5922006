/-! THE PAIR asked -/
def R_asd (f : jx_F) (k : Nat) (w : Int32) : Int32 := if w = 0 then (f.2 53 k).toInt32 else if w = 1 then f.1 54 k + 1 else if w = 2 then f.1 55 k else if w = 3 then f.1 56 k else if w = 4 then f.1 57 k else -2
section JxAsked
variable {th : Nat → Nat} {B b d m : Nat} {xl : List Int32} {σ σ0 : jx_S} {f : jx_F} {A : Nat → Nat → Nat} {G : Nat → Nat → Int32} {T : Nat → Nat} {P : jx_S → Prop} {n : Nat}
theorem i32_0n {i : Int32} (hn : n ≤ 1000) (h1 : ¬ i < 0) (h2 : i < Int32.ofNat n) : ∃ k : Nat, k < n ∧ i.toInt = (k : Int) := by
  have h1 := Int32.le_iff_toInt_le.mp (Int32.not_lt.mp h1)
  have e : (0 : Int32).toInt = 0 := by decide
  rw [Int32.lt_iff_toInt_lt, i32_ofNat (by omega)] at h2
  exact ⟨i.toInt.toNat, by omega, by omega⟩
theorem i32_n0 {i : Int32} {k : Nat} (hn : n ≤ 1000) (hk : k < n) (hi : i.toInt = (k : Int)) : ¬ (i < 0 ∨ ¬ i < Int32.ofNat n) := by
  intro z
  rcases z with z | z
  · rw [Int32.lt_iff_toInt_lt, hi] at z
    simp at z
    omega
  · rw [Int32.lt_iff_toInt_lt, hi, i32_ofNat (by omega)] at z
    omega
theorem r_asked {i w : Int32} (hn : (f.1 49 0).toInt = (n : Int)) (hn64 : n ≤ 64) : rfc th σ0 m (d + 1) 279 [.ref 0, .int i, .int w] f (fun r f' => ((∃ k : Nat, k < n ∧ i.toInt = (k : Int) ∧ r = some (.int (R_asd f k w))) ∨ (r = some (.int (-1)) ∧ (i < 0 ∨ ¬ i < Int32.ofNat n))) ∧ f' = rf_ui f 0 0 0) := by
  have e49 : f.1 49 0 = Int32.ofNat n := i32_eq hn (by omega)
  refine rf_go dt_279 40 [] dt_279_k (by decide +kernel) rfl ?_
  intro C J hC hJ
  conv => whnf
  refine ⟨fun (h1 : i < 0) => ?_, fun (h1 : ¬ i < 0) => ?_⟩
  · conv => whnf
    exact ⟨Or.inr ⟨rfl, Or.inl h1⟩, rfl⟩
  · conv => whnf
    refine ⟨fun (h2 : i < f.1 49 0) => ?_, fun (h2 : ¬ i < f.1 49 0) => ?_⟩
    · rw [e49] at h2
      obtain ⟨k, hk, hik⟩ := i32_0n (by omega) h1 h2
      have hin : jx_in i 64 := jx_in_nat hik (by omega)
      have hkn := i32_nat hik
      conv => whnf
      refine ⟨jx_swx_of (List.forall_mem_cons.mpr ⟨?_, List.forall_mem_cons.mpr ⟨?_, List.forall_mem_cons.mpr ⟨?_, List.forall_mem_cons.mpr ⟨?_, List.forall_mem_cons.mpr ⟨?_, (fun q hq => absurd hq List.not_mem_nil)⟩⟩⟩⟩⟩), ?_⟩
      · intro hw
        conv => whnf
        refine ⟨hin, ?_⟩
        conv => whnf
        refine ⟨Or.inl ⟨k, hk, hik, ?_⟩, rfl⟩
        rw [hkn, show w = 0 from hw]
        rfl
      · intro hw
        conv => whnf
        refine ⟨hin, ?_⟩
        conv => whnf
        refine ⟨Or.inl ⟨k, hk, hik, ?_⟩, rfl⟩
        rw [hkn, show w = 1 from hw]
        rfl
      · intro hw
        conv => whnf
        refine ⟨hin, ?_⟩
        conv => whnf
        refine ⟨Or.inl ⟨k, hk, hik, ?_⟩, rfl⟩
        rw [hkn, show w = 2 from hw]
        rfl
      · intro hw
        conv => whnf
        refine ⟨hin, ?_⟩
        conv => whnf
        refine ⟨Or.inl ⟨k, hk, hik, ?_⟩, rfl⟩
        rw [hkn, show w = 3 from hw]
        rfl
      · intro hw
        conv => whnf
        refine ⟨hin, ?_⟩
        conv => whnf
        refine ⟨Or.inl ⟨k, hk, hik, ?_⟩, rfl⟩
        rw [hkn, show w = 4 from hw]
        rfl
      · refine jx_swd_i (fun hn => ?_)
        conv => whnf
        refine ⟨Or.inl ⟨k, hk, hik, ?_⟩, rfl⟩
        unfold R_asd
        rw [if_neg (show ¬ w = 0 from hn _ (List.mem_of_getElem? (i := 0) rfl)), if_neg (show ¬ w = 1 from hn _ (List.mem_of_getElem? (i := 1) rfl)), if_neg (show ¬ w = 2 from hn _ (List.mem_of_getElem? (i := 2) rfl)), if_neg (show ¬ w = 3 from hn _ (List.mem_of_getElem? (i := 3) rfl)), if_neg (show ¬ w = 4 from hn _ (List.mem_of_getElem? (i := 4) rfl))]
    · conv => whnf
      exact ⟨Or.inr ⟨rfl, Or.inr (by rw [← e49]; exact h2)⟩, rfl⟩
theorem k_asked {i w : Int32} {np : Nat} (hX : σ.1 B = some (cx_e B (fN f) (A 0 0) (G 0 0))) (hn64 : n ≤ 64) (hal : al_at th B σ T (B + 4) (A 70 1) 71 ((List.range n).map (A 11))) (hq : ∀ i, i < n → rl_q1 B σ (fN f) A T i) (hnp4 : np ≤ 4) (hp : ∀ p, p < np → rl_p1 B σ (fN f) A G T p) (hqp : ∀ i, i < n → ∃ p : Nat, (f.1 54 i).toInt = (p : Int) ∧ p < np) (h55 : ∀ i, i < n → ¬ f.1 55 i = 0) : jc th (d + 4) 177 [.ref B, .int i, .int w] σ (fun r σ' => ((∃ k : Nat, k < n ∧ i.toInt = (k : Int) ∧ r = some (.int (R_asd f k w))) ∨ (r = some (.int (-1)) ∧ (i < 0 ∨ ¬ i < Int32.ofNat n))) ∧ σ' = σ) := by
  have hal0 := hal
  obtain ⟨⟨mc, h1⟩, -⟩ := hal
  rw [List.length_map, List.length_range] at h1
  refine cl_go dt_177 60 [] dt_177_k rfl ?_
  intro C J hC hJ
  conv => whnf
  refine ⟨fun (h2 : i < 0) => ?_, fun (h2 : ¬ i < 0) => ?_⟩
  · conv => whnf
    exact ⟨Or.inr ⟨rfl, Or.inl h2⟩, rfl⟩
  · conv => whnf
    refine ⟨_, jx_getF_of hX rfl, ?_⟩
    conv => whnf
    refine ⟨jx_isC_of h1, hC _ _ _ _ (((k_size (d := d) h1).up (by omega)).mp ?_)⟩
    rintro r σ1 ⟨rfl, hs1⟩
    rw [hs1]
    conv => whnf
    refine ⟨fun (h3 : i < Int32.ofNat n) => ?_, fun (h3 : ¬ i < Int32.ofNat n) => ?_⟩
    · obtain ⟨k, hk, hik⟩ := i32_0n (by omega) h2 h3
      obtain ⟨p, hp1, hp2⟩ := hqp k hk
      have hqk := (hq k hk).2.2.1
      conv => whnf
      refine ⟨_, jx_getF_of hX rfl, ?_⟩
      conv => whnf
      refine ⟨jx_isC_of h1, hC _ _ _ _ ((k_get (d := d) hal0 hik (by simp [hk] : ((List.range n).map (A 11))[k]? = some (A 11 k))).mp ?_)⟩
      rintro r σ2 ⟨rfl, hs2⟩
      rw [hs2]
      conv => whnf
      refine ⟨jx_cast_of hqk (by decide +kernel), ?_⟩
      conv => whnf
      refine ⟨jx_swx_of (List.forall_mem_cons.mpr ⟨?_, List.forall_mem_cons.mpr ⟨?_, List.forall_mem_cons.mpr ⟨?_, List.forall_mem_cons.mpr ⟨?_, List.forall_mem_cons.mpr ⟨?_, (fun q hq => absurd hq List.not_mem_nil)⟩⟩⟩⟩⟩), ?_⟩
      · intro hw
        conv => whnf
        refine ⟨_, jx_getF_of hqk rfl, ?_⟩
        conv => whnf
        refine ⟨Or.inl ⟨k, hk, hik, ?_⟩, rfl⟩
        rw [show w = 0 from hw]
        rfl
      · intro hw
        conv => whnf
        have ea : (if (fN f).1 55 k = 0 then Value.null else Value.ref (A 6 ((fN f).1 54 k).toNatClampNeg)) = .ref (A 6 p) := by rw [if_neg (show ¬ (fN f).1 55 k = 0 from h55 k hk), show ((fN f).1 54 k).toNatClampNeg = p from i32_nat hp1]
        refine ⟨_, (jx_getF_of hqk rfl).trans (congrArg some ea), ?_⟩
        conv => whnf
        refine ⟨_, (jx_getF_of hqk rfl).trans (congrArg some ea), ?_⟩
        conv => whnf
        refine ⟨_, jx_getF_of (hp p hp2).2.1 rfl, ?_⟩
        conv => whnf
        refine ⟨Or.inl ⟨k, hk, hik, ?_⟩, rfl⟩
        have e1 : Int32.ofNat (p + 1) = f.1 54 k + 1 := Int32.toInt_inj.mp (by rw [i32_ofNat (by omega), i32_add (c := 1) hp1 (by decide) (by omega) (by omega)]; omega)
        rw [show w = 1 from hw, e1]
        rfl
      · intro hw
        conv => whnf
        refine ⟨_, jx_getF_of hqk rfl, ?_⟩
        conv => whnf
        refine ⟨Or.inl ⟨k, hk, hik, ?_⟩, rfl⟩
        rw [show w = 2 from hw]
        rfl
      · intro hw
        conv => whnf
        refine ⟨_, jx_getF_of hqk rfl, ?_⟩
        conv => whnf
        refine ⟨Or.inl ⟨k, hk, hik, ?_⟩, rfl⟩
        rw [show w = 3 from hw]
        rfl
      · intro hw
        conv => whnf
        refine ⟨_, jx_getF_of hqk rfl, ?_⟩
        conv => whnf
        refine ⟨Or.inl ⟨k, hk, hik, ?_⟩, rfl⟩
        rw [show w = 4 from hw]
        rfl
      · refine jx_swd_i (fun hn => ?_)
        conv => whnf
        refine ⟨Or.inl ⟨k, hk, hik, ?_⟩, rfl⟩
        unfold R_asd
        rw [if_neg (show ¬ w = 0 from hn _ (List.mem_of_getElem? (i := 0) rfl)), if_neg (show ¬ w = 1 from hn _ (List.mem_of_getElem? (i := 1) rfl)), if_neg (show ¬ w = 2 from hn _ (List.mem_of_getElem? (i := 2) rfl)), if_neg (show ¬ w = 3 from hn _ (List.mem_of_getElem? (i := 3) rfl)), if_neg (show ¬ w = 4 from hn _ (List.mem_of_getElem? (i := 4) rfl))]
    · conv => whnf
      exact ⟨Or.inr ⟨rfl, Or.inr h3⟩, rfl⟩
theorem pair_asked {k0 : Nat} (hR : Rel th B b xl σ f A G T) (hI : PI (fN f) G k0) (hP : P (rf σ (B + 39) (rf_ui f 0 0 0))) : lawp_21 th b B (B + 39) xl σ P := by
  intro i w
  have hX := hR.2.1.2.2.2.2.2.1
  obtain ⟨np, hnp, hnp4, -, hp⟩ := hR.2.2.2.2.1
  obtain ⟨n, hn, hn64, hal, hq⟩ := hR.2.2.2.2.2.1
  obtain ⟨n', a, hg, -, -, -, hqq, -⟩ := hI
  have hn' : (f.1 49 0).toInt = (n : Int) := hn
  have e1 : n' = np := by
    have h1 := hg.2.1
    have h2 : ((fN f).1 7 0).toInt = (np : Int) := hnp
    omega
  have e2 : a = n := by
    have h1 := hg.2.2.2.1
    have h2 : ((fN f).1 49 0).toInt = (n : Int) := hn
    omega
  subst e1 e2
  have hk := k_asked (th := th) (d := 26) (i := i) (w := w) hX hn64 hal hq hnp4 hp (fun i hi => by
    obtain ⟨p, t, h1, -⟩ := hqq i hi
    exact ⟨p, h1⟩) (fun i hi z => by
    obtain ⟨p, t, -, ⟨h1, h2⟩, -⟩ := hqq i hi
    have z : (fN f).1 55 i = 0 := z
    rw [z] at h1
    have : (0 : Int32).toInt = 0 := by decide
    omega)
  by_cases hin : i < 0 ∨ ¬ i < Int32.ofNat a
  · refine pair_look (w := -1) rfl hR hP (hk.mp ?_) (fun σ0 => ((r_asked (d := 29) hn' hn64).mp ?_))
    · rintro r σ1 ⟨hcs, hs1⟩
      rcases hcs with ⟨k, hk, hik, rfl⟩ | ⟨rfl, -⟩
      · exact absurd hin (i32_n0 (by omega) hk hik)
      · exact ⟨rfl, hs1⟩
    · rintro r f1 ⟨hcs, hf1⟩
      rcases hcs with ⟨k, hk, hik, rfl⟩ | ⟨rfl, -⟩
      · exact absurd hin (i32_n0 (by omega) hk hik)
      · exact ⟨rfl, hf1⟩
  · obtain ⟨k, hkn, hik⟩ := i32_0n (n := a) (by omega) (fun z => hin (Or.inl z)) (Decidable.not_not.mp (fun z => hin (Or.inr z)))
    refine pair_look (w := R_asd f k w) rfl hR hP (hk.mp ?_) (fun σ0 => ((r_asked (d := 29) hn' hn64).mp ?_))
    · rintro r σ1 ⟨hcs, hs1⟩
      rcases hcs with ⟨k', hk', hik', rfl⟩ | ⟨rfl, hno⟩
      · have ek : k' = k := by omega
        subst ek
        exact ⟨rfl, hs1⟩
      · exact absurd hno hin
    · rintro r f1 ⟨hcs, hf1⟩
      rcases hcs with ⟨k', hk', hik', rfl⟩ | ⟨rfl, hno⟩
      · have ek : k' = k := by omega
        subst ek
        exact ⟨rfl, hf1⟩
      · exact absurd hno hin
end JxAsked
