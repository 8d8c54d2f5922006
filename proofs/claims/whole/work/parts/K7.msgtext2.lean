/-! THE CLASS looks up numbers, AUTH, texts -/
section JxMsgtext2
variable {th : Nat → Nat} {d dd X R L k n p s a N t ty : Nat} {σ σ' σ2 : jx_S} {o h g : Nat → Int32} {w z c kv x y rq : Int32} {Q : Option Value → jx_S → Prop} {e : Nat} {ev : Int32} {l : List Int32} {av : Int64}
theorem k_acc_l (hM : MB σ X R L o w z c ev) (hpL : p + 8 + N ≤ L) : ∀ (r i : Nat) (v : Int64), i + r = N → (∀ y, dig o (p + 8) r i v = some y → Q (some (.long y)) σ) → (dig o (p + 8) r i v = none → Q (some (.long 0)) σ) → cl_fj th (dd + 1) 125 27 [(0, .ref X), (1, .int (Int32.ofNat p)), (2, .int (Int32.ofNat N)), (3, .long v), (5, .int (Int32.ofNat i))] [] σ Q
  | 0, i, v, hi, h1, h0 => by
    have h6 := hM.2.1
    refine cl_at dt_125 40 [] dt_125_k ?_
    intro C J hC hJ
    conv => whnf
    refine jx_yes (show Int32.ofNat N ≤ Int32.ofNat i by rw [nle (by omega) (by omega)]; omega) ?_
    conv => whnf
    exact h1 v rfl
  | r + 1, i, v, hi, h1, h0 => by
    have h6 := hM.2.1
    have hpi : (Int32.ofNat p).toInt = (p : Int) := i32_ofNat (by omega)
    have hii : (Int32.ofNat i).toInt = (i : Int) := i32_ofNat (by omega)
    have ed : dig o (p + 8) (r + 1) i v = if ¬ ob o (p + 8 + i) - 48 < 0 ∧ ob o (p + 8 + i) - 48 ≤ 9 then dig o (p + 8) r (i + 1) (v * 10 + (ob o (p + 8 + i) - 48).toInt64) else none := rfl
    rw [ed] at h1 h0
    refine cl_at dt_125 60 [(27, [0, 1, 2, 3, 5])] dt_125_k ?_
    intro C J hC hJ
    conv => whnf
    refine jx_no (show ¬ Int32.ofNat N ≤ Int32.ofNat i by rw [nle (by omega) (by omega)]; omega) ?_
    conv => whnf
    refine ⟨jx_isC_of hM.1, hC _ _ _ _ ((k_octet (d := dd) (k := p + 8 + i) hM (i32_k1 (i32_k1 (j := 8) hpi (by decide) (by omega)) hii (by omega)) (by omega)).mp ?_)⟩
    rintro r' s1 ⟨rfl, hs1⟩
    rw [hs1]
    conv => whnf
    refine ⟨fun (e : ob o (p + 8 + i) - 48 < 0) => ?_, fun (e : ¬ ob o (p + 8 + i) - 48 < 0) => ?_⟩
    · conv => whnf
      rw [if_neg (fun z => z.1 e)] at h0
      exact h0 rfl
    · conv => whnf
      refine ⟨fun (e2 : ob o (p + 8 + i) - 48 ≤ 9) => ?_, fun (e2 : ¬ ob o (p + 8 + i) - 48 ≤ 9) => ?_⟩
      · conv => whnf
        rw [if_pos ⟨e, e2⟩] at h1 h0
        have i1 : Int32.ofNat i + Int32.ofInt 1 = Int32.ofNat (i + 1) := nadd rfl (by omega)
        have ih := k_acc_l hM hpL r (i + 1) _ (by omega) h1 h0
        rw [← i1] at ih
        exact hJ _ _ _ _ ih
      · conv => whnf
        rw [if_neg (fun z => e2 z.2)] at h0
        exact h0 rfl
theorem k_accountAt (hM : MB σ X R L o w z c ev) (hp : p ≠ 0 → p + 8 ≤ L ∧ 8 ≤ sz o p ∧ p + sz o p ≤ L) : jc th (dd + 3) 125 [.ref X, .int (Int32.ofNat p)] σ (fun r σ' => r = some (.long ((acc o p).getD 0)) ∧ σ' = σ) := by
  have h6 := hM.2.1
  have t14 : ∀ N : Nat, N ≤ 600 → (¬ 17 < N → p + 8 + N ≤ L ∨ N = 0) → (17 < N → acc o p = none) → (¬ 17 < N → (acc o p).getD 0 = (dig o (p + 8) N 0 0).getD 0) → cl_fj th (dd + 2) 125 14 [(0, .ref X), (1, .int (Int32.ofNat p)), (2, .int (Int32.ofNat N))] [] σ (fun r σ' => r = some (.long ((acc o p).getD 0)) ∧ σ' = σ) := by
    intro N hN hpl a1 a2
    refine cl_at dt_125 40 [(27, [0, 1, 2, 3, 5])] dt_125_k ?_
    intro C J hC hJ
    conv => whnf
    refine ⟨fun (e : Int32.ofNat N ≤ Int32.ofNat 17) => ?_, fun (e : ¬ Int32.ofNat N ≤ Int32.ofNat 17) => ?_⟩
    · rw [nle (by omega) (by omega)] at e
      have a2 := a2 (by omega)
      conv => whnf
      rcases hpl (by omega) with hpl | hpl
      · refine hJ _ _ _ _ (k_acc_l (dd := dd + 1) hM hpl N 0 0 (by omega) (fun y hy => ⟨?_, rfl⟩) (fun hy => ⟨?_, rfl⟩))
        · rw [a2, hy]; rfl
        · rw [a2, hy]; rfl
      · subst hpl
        refine hJ _ _ _ _ ?_
        refine cl_at dt_125 40 [] dt_125_k ?_
        intro C J hC hJ
        conv => whnf
        refine jx_yes (show Int32.ofNat 0 ≤ Int32.ofNat 0 by decide) ?_
        conv => whnf
        exact ⟨by rw [a2]; rfl, rfl⟩
    · rw [nle (by omega) (by omega)] at e
      conv => whnf
      rw [a1 (by omega)]
      exact ⟨rfl, rfl⟩
  refine cl_go dt_125 40 [(14, [0, 1, 2])] dt_125_k rfl ?_
  intro C J hC hJ
  conv => whnf
  by_cases p0 : p = 0
  · refine jx_no (show ¬ ¬ Int32.ofNat p = 0 by rw [p0]; decide) ?_
    conv => whnf
    refine hJ _ _ _ _ (t14 0 (by omega) (fun _ => Or.inr rfl) (fun z => by omega) (fun _ => ?_))
    unfold acc
    rw [if_pos (Or.inl p0)]
    rfl
  · obtain ⟨q1, q2, q3⟩ := hp p0
    have hpi : (Int32.ofNat p).toInt = (p : Int) := i32_ofNat (by omega)
    refine jx_yes (show ¬ Int32.ofNat p = 0 from ofN_ne p0 (by omega)) ?_
    conv => whnf
    refine ⟨jx_isC_of hM.1, hC _ _ _ _ ((k_dataSize (d := dd) (k := p) hM hpi q1 q2).mp ?_)⟩
    rintro r s1 ⟨rfl, hs1⟩
    rw [hs1]
    conv => whnf
    refine hJ _ _ _ _ (t14 (sz o p - 8) (by omega) (fun _ => Or.inl (by omega)) (fun z => ?_) (fun z => ?_))
    · unfold acc
      rw [if_pos (Or.inr z)]
    · unfold acc
      rw [if_neg (fun y => by rcases y with y | y; exact p0 y; exact z y)]
theorem ga_cons {l : List Nat} : ga o (p :: l) ↔ (hit o 258 p = true ∧ (w4 o (p + 8) = 4 ∨ w4 o (p + 8) = -1)) ∨ ga o l := by
  unfold ga
  constructor
  · rintro ⟨q, h1, h2⟩
    rcases List.mem_cons.mp h1 with rfl | h1
    · exact Or.inl h2
    · exact Or.inr ⟨q, h1, h2⟩
  · rintro (h2 | ⟨q, h1, h2⟩)
    · exact ⟨p, List.mem_cons_self, h2⟩
    · exact ⟨q, List.mem_cons_of_mem _ h1, h2⟩
theorem k_au_l (hM : MB σ X R L o w z c ev) : ∀ (k p : Nat), wf o k p L → L - p < k → p ≤ 1000 → (∀ q, q ∈ tps o k p L → hit o 258 q = true → q + 12 ≤ L) → (ga o (tps o k p L) → Q (some (.int 1)) σ) → (¬ ga o (tps o k p L) → Q (some (.int 0)) σ) → cl_fj th (dd + 1) 105 3 [(0, .ref X), (1, .int (Int32.ofNat p))] [] σ Q
  | 0, p, _, h, _, _, _, _ => by omega
  | k + 1, p, hw, hk, hp, h12, h1, h0 => by
    have hL := hM.2.1
    unfold wf at hw
    by_cases hep : L ≤ p
    · rw [tp_end hep] at h0
      refine cl_at dt_105 60 [] dt_105_k ?_
      intro C J hC hJ
      conv => whnf
      refine ⟨_, jx_getF_of (hM.1) rfl, ?_⟩
      conv => whnf
      refine jx_yes (show Int32.ofNat L ≤ Int32.ofNat p by rw [nle (by omega) (by omega)]; exact hep) ?_
      conv => whnf
      exact ⟨by decide, h0 (fun ⟨q, hq, _⟩ => absurd hq List.not_mem_nil)⟩
    · obtain ⟨a1, a2, a3, a4⟩ := hw.resolve_left hep
      have hpi : (Int32.ofNat p).toInt = (p : Int) := i32_ofNat (by omega)
      have hpd := pad_le (n := sz o p)
      rw [tp_s hep] at h1 h0 h12
      rw [ga_cons] at h1 h0
      have t57 : ¬ (hit o 258 p = true ∧ (w4 o (p + 8) = 4 ∨ w4 o (p + 8) = -1)) → cl_fj th (dd + 1) 105 57 [(0, .ref X), (1, .int (Int32.ofNat p))] [] σ Q := by
        intro hn
        refine cl_at dt_105 60 [(3, [0, 1])] dt_105_k ?_
        intro C J hC hJ
        conv => whnf
        refine ⟨jx_isC_of hM.1, hC _ _ _ _ ((k_word (d := dd) (k := p + 4) hM (i32_k1 (j := 4) hpi (by decide) (by omega)) (by omega)).mp ?_)⟩
        rintro r s1 ⟨rfl, hs⟩
        rw [hs]
        conv => whnf
        have kp := k_padded (th := th) (d := dd) (σ := σ) (n := sz o p) sz_lt
        rw [← w4_sz, if_neg (by omega)] at kp
        refine hC _ _ _ _ (kp.mp ?_)
        rintro r s2 ⟨rfl, hs2⟩
        rw [hs2]
        conv => whnf
        have ea : Int32.ofNat p + Int32.ofNat (pad (sz o p)) = Int32.ofNat (p + pad (sz o p)) := i32_eq (by rw [i32_add hpi (i32_ofNat (by omega)) (by omega) (by omega)]; omega) (by omega)
        rw [show (fun x y : Int32 => x + y) (Int32.ofNat p) (Int32.ofNat (pad (sz o p))) = Int32.ofNat (p + pad (sz o p)) from ea]
        exact hJ _ _ _ _ (k_au_l hM k _ a4 (by omega) (by omega) (fun q hq => h12 q (List.mem_cons_of_mem _ hq)) (fun z => h1 (Or.inr z)) (fun z => h0 (fun y => by rcases y with y | y; exact hn y; exact z y)))
      refine cl_at dt_105 60 [(57, [0, 1])] dt_105_k ?_
      intro C J hC hJ
      conv => whnf
      refine ⟨_, jx_getF_of (hM.1) rfl, ?_⟩
      conv => whnf
      refine jx_no (show ¬ Int32.ofNat L ≤ Int32.ofNat p by rw [nle (by omega) (by omega)]; exact hep) ?_
      conv => whnf
      refine ⟨jx_isC_of hM.1, hC _ _ _ _ ((k_wordY (d := dd) (k := p + 8) hM (i32_k1 (j := 8) hpi (by decide) (by omega))).mp ?_)⟩
      rintro r s1 ⟨⟨v, rfl, hv⟩, hs⟩
      rw [hs]
      conv => whnf
      refine ⟨jx_isC_of hM.1, hC _ _ _ _ ((k_word (d := dd) (k := p) hM hpi (by omega)).mp ?_)⟩
      rintro r s2 ⟨rfl, hs2⟩
      rw [hs2]
      conv => whnf
      refine ⟨fun (e1 : ¬ w4 o p = 258) => ?_, fun (e1 : ¬ ¬ w4 o p = 258) => ?_⟩
      · conv => whnf
        exact hJ _ _ _ _ (t57 (fun y => e1 (hit_i.mp y.1).1))
      have e1 := Decidable.not_not.mp e1
      conv => whnf
      refine ⟨jx_isC_of hM.1, hC _ _ _ _ ((k_octet (d := dd) (k := p + 4) hM (i32_k1 (j := 4) hpi (by decide) (by omega)) (by omega)).mp ?_)⟩
      rintro r s3 ⟨rfl, hs3⟩
      rw [hs3]
      conv => whnf
      refine ⟨fun (e2 : ¬ ob o (p + 4) &&& 128 = 0) => ?_, fun (e2 : ¬ ¬ ob o (p + 4) &&& 128 = 0) => ?_⟩
      · conv => whnf
        exact hJ _ _ _ _ (t57 (fun y => e2 (hit_i.mp y.1).2))
      have e2 := Decidable.not_not.mp e2
      have hh : hit o 258 p = true := hit_i.mpr ⟨e1, e2⟩
      have ev := hv (by have := h12 p List.mem_cons_self hh; omega)
      rw [← ev] at h1 t57
      conv => whnf
      refine ⟨fun (e3 : v = 4) => ?_, fun (e3 : ¬ v = 4) => ?_⟩
      · conv => whnf
        exact ⟨by decide, h1 (Or.inl ⟨hh, Or.inl e3⟩)⟩
      · conv => whnf
        refine ⟨fun (e4 : ¬ v = -1) => ?_, fun (e4 : ¬ ¬ v = -1) => ?_⟩
        · conv => whnf
          exact hJ _ _ _ _ (t57 (fun y => by rcases y.2 with y | y; exact e3 y; exact e4 y))
        · conv => whnf
          exact ⟨by decide, h1 (Or.inl ⟨hh, Or.inr (Decidable.not_not.mp e4)⟩)⟩
theorem k_hasRightAuth (hM : MB σ X R L o w z c ev) (hw : wf o 700 20 L) (h12 : ∀ q, q ∈ top o L → hit o 258 q = true → q + 12 ≤ L) : jc th (dd + 2) 105 [.ref X] σ (fun r σ' => ((r = some (.int 1) ∧ ga o (top o L)) ∨ (r = some (.int 0) ∧ ¬ ga o (top o L))) ∧ σ' = σ) := by
  have h6 := hM.2.1
  refine cl_go dt_105 20 [(3, [0, 1])] dt_105_k rfl ?_
  intro C J hC hJ
  conv => whnf
  exact hJ _ _ _ _ (k_au_l (dd := dd) hM 700 20 hw (by omega) (by omega) h12 (fun y => ⟨Or.inl ⟨rfl, y⟩, rfl⟩) (fun y => ⟨Or.inr ⟨rfl, y⟩, rfl⟩))
end JxMsgtext2
