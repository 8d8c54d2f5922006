/-! THE PAIR state -/
def R_st (f : jx_F) (p : Nat) (w : Int32) : Int32 := if w = 0 then f.1 11 p else if w = 1 then f.1 13 p else if w = 2 then f.1 14 p else if w = 3 then f.1 15 p else if w = 4 then (if f.1 16 p = 0 then 0 else 1) else if w = 5 then f.1 17 p else if w = 6 then f.1 18 p else if w = 7 then f.1 19 p else -2
section JxState
variable {th : Nat → Nat} {B b d m : Nat} {xl : List Int32} {σ σ0 : jx_S} {f : jx_F} {A : Nat → Nat → Nat} {G : Nat → Nat → Int32} {T : Nat → Nat} {P : jx_S → Prop} {n : Nat}
theorem i32_1n {c : Int32} (hn4 : n ≤ 4) (h : 1 ≤ c ∧ c ≤ Int32.ofNat n) : ∃ k : Nat, k < n ∧ c.toInt = ((k + 1 : Nat) : Int) := by
  have h1 := Int32.le_iff_toInt_le.mp h.1
  have h2 := Int32.le_iff_toInt_le.mp h.2
  have e1 : (1 : Int32).toInt = 1 := by decide
  rw [i32_ofNat (by omega)] at h2
  exact ⟨(c.toInt - 1).toNat, by omega, by omega⟩
theorem i32_n1 {c : Int32} {k : Nat} (hn4 : n ≤ 4) (hk : k < n) (hc : c.toInt = ((k + 1 : Nat) : Int)) : 1 ≤ c ∧ c ≤ Int32.ofNat n := by
  have e1 : (1 : Int32).toInt = 1 := by decide
  refine ⟨?_, ?_⟩
  · rw [Int32.le_iff_toInt_le, hc]; omega
  · rw [Int32.le_iff_toInt_le, hc, i32_ofNat (by omega)]; omega
theorem r_state {c w : Int32} (hn : (f.1 7 0).toInt = (n : Int)) (hn4 : n ≤ 4) : rfc th σ0 m (d + 2) 272 [.ref 0, .int c, .int w] f (fun r f' => ((∃ k : Nat, k < n ∧ c.toInt = ((k + 1 : Nat) : Int) ∧ r = some (.int (R_st f k w))) ∨ (r = some (.int (-1)) ∧ ¬ (1 ≤ c ∧ c ≤ Int32.ofNat n))) ∧ f' = rf_ui f 0 0 0) := by
  have e7 : f.1 7 0 = Int32.ofNat n := i32_eq hn (by omega)
  refine rf_go dt_272 40 [] dt_272_k (by decide +kernel) rfl ?_
  intro C J hC hJ
  conv => whnf
  refine hC _ _ _ _ (r_noPeer.mp ?_)
  rintro r f1 ⟨hcs, hf1⟩
  rw [rf_ui_ne (by simp), e7] at hcs
  rw [hf1]
  rcases hcs with ⟨rfl, h1⟩ | ⟨rfl, h1⟩
  · obtain ⟨k, hk, hck⟩ := i32_1n hn4 h1
    have hq : (c - 1).toInt = (k : Int) := by rw [i32_sub (c := 1) hck (by decide) (by omega) (by omega)]; omega
    have hqn := i32_nat hq
    have hin : jx_in (c - 1) 4 := jx_in_nat hq (by omega)
    conv => whnf
    refine jx_yes (show (0 : Int32) = 0 from rfl) ?_
    conv => whnf
    refine ⟨jx_swx_of (List.forall_mem_cons.mpr ⟨?_, List.forall_mem_cons.mpr ⟨?_, List.forall_mem_cons.mpr ⟨?_, List.forall_mem_cons.mpr ⟨?_, List.forall_mem_cons.mpr ⟨?_, List.forall_mem_cons.mpr ⟨?_, List.forall_mem_cons.mpr ⟨?_, List.forall_mem_cons.mpr ⟨?_, (fun q hq => absurd hq List.not_mem_nil)⟩⟩⟩⟩⟩⟩⟩⟩), ?_⟩
    · intro hw
      conv => whnf
      refine ⟨hin, ?_⟩
      conv => whnf
      refine ⟨Or.inl ⟨k, hk, hck, ?_⟩, rfl⟩
      rw [hqn, show w = 0 from hw]
      rfl
    · intro hw
      conv => whnf
      refine ⟨hin, ?_⟩
      conv => whnf
      refine ⟨Or.inl ⟨k, hk, hck, ?_⟩, rfl⟩
      rw [hqn, show w = 1 from hw]
      rfl
    · intro hw
      conv => whnf
      refine ⟨hin, ?_⟩
      conv => whnf
      refine ⟨Or.inl ⟨k, hk, hck, ?_⟩, rfl⟩
      rw [hqn, show w = 2 from hw]
      rfl
    · intro hw
      conv => whnf
      refine ⟨hin, ?_⟩
      conv => whnf
      refine ⟨Or.inl ⟨k, hk, hck, ?_⟩, rfl⟩
      rw [hqn, show w = 3 from hw]
      rfl
    · intro hw
      conv => whnf
      refine ⟨hin, ?_⟩
      conv => whnf
      try rw [hqn]
      refine ⟨fun (h3 : f.1 16 k = 0) => ?_, fun (h3 : ¬ f.1 16 k = 0) => ?_⟩
      · conv => whnf
        refine ⟨Or.inl ⟨k, hk, hck, ?_⟩, rfl⟩
        rw [show w = 4 from hw, show R_st f k 4 = (if f.1 16 k = 0 then 0 else 1) from rfl, if_pos h3]
      · conv => whnf
        refine ⟨Or.inl ⟨k, hk, hck, ?_⟩, rfl⟩
        rw [show w = 4 from hw, show R_st f k 4 = (if f.1 16 k = 0 then 0 else 1) from rfl, if_neg h3]
    · intro hw
      conv => whnf
      refine ⟨hin, ?_⟩
      conv => whnf
      refine ⟨Or.inl ⟨k, hk, hck, ?_⟩, rfl⟩
      rw [hqn, show w = 5 from hw]
      rfl
    · intro hw
      conv => whnf
      refine ⟨hin, ?_⟩
      conv => whnf
      refine ⟨Or.inl ⟨k, hk, hck, ?_⟩, rfl⟩
      rw [hqn, show w = 6 from hw]
      rfl
    · intro hw
      conv => whnf
      refine ⟨hin, ?_⟩
      conv => whnf
      refine ⟨Or.inl ⟨k, hk, hck, ?_⟩, rfl⟩
      rw [hqn, show w = 7 from hw]
      rfl
    · refine jx_swd_i (fun hn => ?_)
      conv => whnf
      refine ⟨Or.inl ⟨k, hk, hck, ?_⟩, rfl⟩
      unfold R_st
      rw [if_neg (show ¬ w = 0 from hn _ (List.mem_of_getElem? (i := 0) rfl)), if_neg (show ¬ w = 1 from hn _ (List.mem_of_getElem? (i := 1) rfl)), if_neg (show ¬ w = 2 from hn _ (List.mem_of_getElem? (i := 2) rfl)), if_neg (show ¬ w = 3 from hn _ (List.mem_of_getElem? (i := 3) rfl)), if_neg (show ¬ w = 4 from hn _ (List.mem_of_getElem? (i := 4) rfl)), if_neg (show ¬ w = 5 from hn _ (List.mem_of_getElem? (i := 5) rfl)), if_neg (show ¬ w = 6 from hn _ (List.mem_of_getElem? (i := 6) rfl)), if_neg (show ¬ w = 7 from hn _ (List.mem_of_getElem? (i := 7) rfl))]
  · conv => whnf
    refine jx_no (show ¬ (1 : Int32) = 0 by decide) ?_
    conv => whnf
    exact ⟨Or.inr ⟨rfl, h1⟩, rfl⟩
theorem k_peerAt {c : Int32} (hX : σ.1 B = some (cx_e B (fN f) (A 0 0) (G 0 0))) (hn4 : n ≤ 4) (hal : al_at th B σ T (B + 3) (A 70 0) 70 ((List.range n).map (A 6))) (hp : ∀ p, p < n → rl_p1 B σ (fN f) A G T p) : jc th (d + 4) 40 [.ref B, .int c] σ (fun r σ' => ((∃ k : Nat, k < n ∧ c.toInt = ((k + 1 : Nat) : Int) ∧ r = some (.ref (A 6 k))) ∨ (r = some .null ∧ ¬ (1 ≤ c ∧ c ≤ Int32.ofNat n))) ∧ σ' = σ) := by
  have hal0 := hal
  obtain ⟨⟨mc, h1⟩, -⟩ := hal
  rw [List.length_map, List.length_range] at h1
  refine cl_go dt_40 40 [] dt_40_k rfl ?_
  intro C J hC hJ
  conv => whnf
  refine ⟨fun (h2 : c < 1) => ?_, fun (h2 : ¬ c < 1) => ?_⟩
  · conv => whnf
    exact ⟨Or.inr ⟨rfl, fun z => absurd h2 (Int32.not_lt.mpr z.1)⟩, rfl⟩
  · conv => whnf
    refine ⟨_, jx_getF_of hX rfl, ?_⟩
    conv => whnf
    refine ⟨jx_isC_of h1, hC _ _ _ _ (((k_size (d := d) h1).up (by omega)).mp ?_)⟩
    rintro r σ1 ⟨rfl, hs1⟩
    rw [hs1]
    conv => whnf
    refine ⟨fun (h3 : c ≤ Int32.ofNat n) => ?_, fun (h3 : ¬ c ≤ Int32.ofNat n) => ?_⟩
    · obtain ⟨k, hk, hck⟩ := i32_1n hn4 ⟨Int32.not_lt.mp h2, h3⟩
      have hq : (c - 1).toInt = (k : Int) := by rw [i32_sub (c := 1) hck (by decide) (by omega) (by omega)]; omega
      conv => whnf
      refine ⟨_, jx_getF_of hX rfl, ?_⟩
      conv => whnf
      refine ⟨jx_isC_of h1, hC _ _ _ _ ((k_get (d := d) hal0 hq (by simp [hk] : ((List.range n).map (A 6))[k]? = some (A 6 k))).mp ?_)⟩
      rintro r σ2 ⟨rfl, hs2⟩
      rw [hs2]
      conv => whnf
      refine ⟨jx_cast_of (hp k hk).2.1 (by decide +kernel), ?_⟩
      conv => whnf
      exact ⟨Or.inl ⟨k, hk, hck, rfl⟩, rfl⟩
    · conv => whnf
      exact ⟨Or.inr ⟨rfl, fun z => h3 z.2⟩, rfl⟩
theorem k_state {c w : Int32} {k : Nat} (hX : σ.1 B = some (cx_e B (fN f) (A 0 0) (G 0 0))) (hn4 : n ≤ 4) (hal : al_at th B σ T (B + 3) (A 70 0) 70 ((List.range n).map (A 6))) (hp : ∀ p, p < n → rl_p1 B σ (fN f) A G T p) (hCs : ∀ c, c < 8 → σ.1 (B + 14 + 3 * c) = some (cc_e (fN f) A G c)) (hoc : (∃ x : Nat, (f.1 13 k).toInt = (x : Int) ∧ x ≤ 8) ∧ ∃ y : Nat, (f.1 14 k).toInt = (y : Int) ∧ y ≤ 8) (hk : k < n) (hck : c.toInt = ((k + 1 : Nat) : Int)) : jc th (d + 5) 167 [.ref B, .int c, .int w] σ (fun r σ' => r = some (.int (R_st f k w)) ∧ σ' = σ) := by
  have hpk := (hp k hk).2.1
  have hconn : ∀ (x : Int32) (o : Nat), x.toInt = (o : Int) → o ≤ 8 → ¬ x = 0 → va_rf (cc_ref B x) = .ref (B + 14 + 3 * (o - 1)) ∧ o - 1 < 8 ∧ Int32.ofNat (o - 1 + 1) = x := by
    intro x o h1 h2 h3
    have ho : o ≠ 0 := fun z => h3 ((i32_z h1).mpr z)
    refine ⟨?_, by omega, ?_⟩
    · unfold cc_ref
      rw [if_neg h3, i32_nat h1]
      rfl
    · rw [show o - 1 + 1 = o by omega]
      exact (i32_eq h1 (by omega)).symm
  have hnull : ∀ x : Int32, x = 0 → va_rf (cc_ref B x) = .null := by
    intro x h
    unfold cc_ref
    rw [if_pos h]
    rfl
  obtain ⟨⟨x, hx, hx8⟩, y, hy, hy8⟩ := hoc
  refine cl_go dt_167 60 [] dt_167_k rfl ?_
  intro C J hC hJ
  conv => whnf
  refine ⟨jx_isC_of hX, hC _ _ _ _ ((k_peerAt (d := d) hX hn4 hal hp).mp ?_)⟩
  rintro r σ1 ⟨hcs, hs1⟩
  rw [hs1]
  rcases hcs with ⟨k', hk', hck', rfl⟩ | ⟨rfl, hno⟩
  · have ek : k' = k := by omega
    subst ek
    conv => whnf
    refine ⟨jx_swx_of (List.forall_mem_cons.mpr ⟨?_, List.forall_mem_cons.mpr ⟨?_, List.forall_mem_cons.mpr ⟨?_, List.forall_mem_cons.mpr ⟨?_, List.forall_mem_cons.mpr ⟨?_, List.forall_mem_cons.mpr ⟨?_, List.forall_mem_cons.mpr ⟨?_, List.forall_mem_cons.mpr ⟨?_, (fun q hq => absurd hq List.not_mem_nil)⟩⟩⟩⟩⟩⟩⟩⟩), ?_⟩
    · intro hw
      conv => whnf
      refine ⟨_, jx_getF_of hpk rfl, ?_⟩
      conv => whnf
      refine ⟨?_, rfl⟩
      rw [show w = 0 from hw]
      rfl
    · intro hw
      conv => whnf
      by_cases h0 : f.1 13 k' = 0
      · refine ⟨.null, (jx_getF_of hpk rfl).trans (congrArg some (hnull _ h0)), ?_⟩
        conv => whnf
        refine ⟨?_, rfl⟩
        rw [show w = 1 from hw, ← h0]
        rfl
      · obtain ⟨e1, e2, e3⟩ := hconn _ x hx hx8 h0
        refine ⟨_, (jx_getF_of hpk rfl).trans (congrArg some e1), ?_⟩
        conv => whnf
        refine ⟨_, (jx_getF_of hpk rfl).trans (congrArg some e1), ?_⟩
        conv => whnf
        refine ⟨_, jx_getF_of (hCs _ e2) rfl, ?_⟩
        conv => whnf
        refine ⟨?_, rfl⟩
        rw [show w = 1 from hw, e3]
        rfl
    · intro hw
      conv => whnf
      by_cases h0 : f.1 14 k' = 0
      · refine ⟨.null, (jx_getF_of hpk rfl).trans (congrArg some (hnull _ h0)), ?_⟩
        conv => whnf
        refine ⟨?_, rfl⟩
        rw [show w = 2 from hw, ← h0]
        rfl
      · obtain ⟨e1, e2, e3⟩ := hconn _ y hy hy8 h0
        refine ⟨_, (jx_getF_of hpk rfl).trans (congrArg some e1), ?_⟩
        conv => whnf
        refine ⟨_, (jx_getF_of hpk rfl).trans (congrArg some e1), ?_⟩
        conv => whnf
        refine ⟨_, jx_getF_of (hCs _ e2) rfl, ?_⟩
        conv => whnf
        refine ⟨?_, rfl⟩
        rw [show w = 2 from hw, e3]
        rfl
    · intro hw
      conv => whnf
      refine ⟨_, jx_getF_of hpk rfl, ?_⟩
      conv => whnf
      refine ⟨?_, rfl⟩
      rw [show w = 3 from hw]
      rfl
    · intro hw
      conv => whnf
      refine ⟨_, jx_getF_of hpk rfl, ?_⟩
      conv => whnf
      refine ⟨fun (h3 : f.1 16 k' = 0) => ?_, fun (h3 : ¬ f.1 16 k' = 0) => ?_⟩
      · conv => whnf
        refine ⟨?_, rfl⟩
        rw [show w = 4 from hw, show R_st f k' 4 = (if f.1 16 k' = 0 then 0 else 1) from rfl, if_pos h3]
      · conv => whnf
        refine ⟨?_, rfl⟩
        rw [show w = 4 from hw, show R_st f k' 4 = (if f.1 16 k' = 0 then 0 else 1) from rfl, if_neg h3]
    · intro hw
      conv => whnf
      refine ⟨_, jx_getF_of hpk rfl, ?_⟩
      conv => whnf
      refine ⟨?_, rfl⟩
      rw [show w = 5 from hw]
      rfl
    · intro hw
      conv => whnf
      refine ⟨_, jx_getF_of hpk rfl, ?_⟩
      conv => whnf
      refine ⟨?_, rfl⟩
      rw [show w = 6 from hw]
      rfl
    · intro hw
      conv => whnf
      refine ⟨_, jx_getF_of hpk rfl, ?_⟩
      conv => whnf
      refine ⟨?_, rfl⟩
      rw [show w = 7 from hw]
      rfl
    · refine jx_swd_i (fun hn => ?_)
      conv => whnf
      refine ⟨?_, rfl⟩
      unfold R_st
      rw [if_neg (show ¬ w = 0 from hn _ (List.mem_of_getElem? (i := 0) rfl)), if_neg (show ¬ w = 1 from hn _ (List.mem_of_getElem? (i := 1) rfl)), if_neg (show ¬ w = 2 from hn _ (List.mem_of_getElem? (i := 2) rfl)), if_neg (show ¬ w = 3 from hn _ (List.mem_of_getElem? (i := 3) rfl)), if_neg (show ¬ w = 4 from hn _ (List.mem_of_getElem? (i := 4) rfl)), if_neg (show ¬ w = 5 from hn _ (List.mem_of_getElem? (i := 5) rfl)), if_neg (show ¬ w = 6 from hn _ (List.mem_of_getElem? (i := 6) rfl)), if_neg (show ¬ w = 7 from hn _ (List.mem_of_getElem? (i := 7) rfl))]
  · exact absurd (i32_n1 hn4 hk hck) hno
theorem pair_state {k0 : Nat} (hR : Rel th B b xl σ f A G T) (hI : PI (fN f) G k0) (hP : P (rf σ (B + 39) (rf_ui f 0 0 0))) : lawp_14 th b B (B + 39) xl σ P := by
  intro c w
  have hX := hR.2.1.2.2.2.2.2.1
  have hCs := hR.2.2.2.1
  obtain ⟨n, hn, hn4, hal, hp⟩ := hR.2.2.2.2.1
  obtain ⟨n', a, hg, -⟩ := hI
  have hn' : (f.1 7 0).toInt = (n : Int) := hn
  by_cases hc : 1 ≤ c ∧ c ≤ Int32.ofNat n
  · obtain ⟨k, hk, hck⟩ := i32_1n hn4 hc
    refine pair_look (w := R_st f k w) rfl hR hP ((k_state (d := 25) hX hn4 hal hp (fun c hc => (hCs c hc).1) (hg.2.2.2.2.2.2 k (by omega)) hk hck).up (by omega)) (fun σ0 => (r_state (d := 28) hn' hn4).mp ?_)
    rintro r f1 ⟨hcs, hf1⟩
    rcases hcs with ⟨k', hk', hck', rfl⟩ | ⟨rfl, hno⟩
    · have ek : k' = k := by omega
      subst ek
      exact ⟨rfl, hf1⟩
    · exact absurd hc hno
  · refine pair_look (w := -1) rfl hR hP ?_ (fun σ0 => (r_state (d := 28) hn' hn4).mp ?_)
    · refine cl_go dt_167 40 [] dt_167_k rfl ?_
      intro C J hC hJ
      conv => whnf
      refine ⟨jx_isC_of hX, hC _ _ _ _ (((k_peerAt (d := 25) hX hn4 hal hp).up (by omega)).mp ?_)⟩
      rintro r σ1 ⟨hcs, hs1⟩
      rw [hs1]
      rcases hcs with ⟨k, hk, hck, rfl⟩ | ⟨rfl, hno⟩
      · exact absurd (i32_n1 hn4 hk hck) hc
      · conv => whnf
        exact ⟨rfl, rfl⟩
    · rintro r f1 ⟨hcs, hf1⟩
      rcases hcs with ⟨k, hk, hck, rfl⟩ | ⟨rfl, hno⟩
      · exact absurd (i32_n1 hn4 hk hck) hc
      · exact ⟨rfl, hf1⟩
end JxState
