/-! PAIRS OF CALLS THAT ONLY LOOK: connection, lost -/
section JxLooks2
variable {th : Nat → Nat} {B b d : Nat} {xl : List Int32} {σ : jx_S} {f : jx_F} {A : Nat → Nat → Nat} {G : Nat → Nat → Int32} {T : Nat → Nat} {P : jx_S → Prop}
theorem k_connection {c w : Int32} {k n : Nat} (hX : σ.1 B = some (cx_e B (fN f) (A 0 0) (G 0 0))) (hCA : cl_ca B σ) (hC1 : σ.1 (B + 14 + 3 * k) = some (cc_e (fN f) A G k)) (hk : k < 8) (hck : c.toInt = ((k + 1 : Nat) : Int)) (hq : ∃ q : Nat, (f.1 27 (k + 1)).toInt = (q : Int) ∧ q ≤ n) (hn4 : n ≤ 4) (hp : ∀ p, p < n → rl_p1 B σ (fN f) A G T p) : jc th (d + 2) 166 [.ref B, .int c, .int w] σ (fun r σ' => r = some (.int (R_cnn f (k + 1) w)) ∧ σ' = σ) := by
  obtain ⟨q, hq1, hq2⟩ := hq
  refine cl_go dt_166 60 [] dt_166_k rfl ?_
  intro C J hC hJ
  conv => whnf
  refine ⟨jx_isC_of hX, hC _ _ _ _ ((k_connAt (d := d) hX hCA).mp ?_)⟩
  rintro r σ1 ⟨hcs, hs1⟩
  rw [hs1]
  rcases hcs with ⟨k', hk', hck', rfl⟩ | ⟨hn, rfl⟩
  · have ek : k' = k := by omega
    subst ek
    conv => whnf
    refine ⟨jx_swx_of (List.forall_mem_cons.mpr ⟨?_, List.forall_mem_cons.mpr ⟨?_, List.forall_mem_cons.mpr ⟨?_, List.forall_mem_cons.mpr ⟨?_, (fun q hq => absurd hq List.not_mem_nil)⟩⟩⟩⟩), ?_⟩
    · intro hw
      conv => whnf
      refine ⟨_, jx_getF_of hC1 rfl, ?_⟩
      conv => whnf
      refine ⟨?_, rfl⟩
      rw [show w = 0 from hw]
      rfl
    · intro hw
      conv => whnf
      by_cases h0 : f.1 27 (k' + 1) = 0
      · have ea : va_rf (cp_ref A ((fN f).1 27 (k' + 1))) = .null := by
          unfold cp_ref
          rw [if_pos (show (fN f).1 27 (k' + 1) = 0 from h0)]
          rfl
        refine ⟨.null, (jx_getF_of hC1 rfl).trans (congrArg some ea), ?_⟩
        conv => whnf
        refine ⟨?_, rfl⟩
        rw [show w = 1 from hw, ← h0]
        rfl
      · have hq0 : q ≠ 0 := fun z => h0 ((i32_z hq1).mpr z)
        have ea : va_rf (cp_ref A ((fN f).1 27 (k' + 1))) = .ref (A 6 (q - 1)) := by
          unfold cp_ref
          rw [if_neg (show ¬ (fN f).1 27 (k' + 1) = 0 from h0), show ((fN f).1 27 (k' + 1)).toNatClampNeg = q from i32_nat hq1]
          rfl
        refine ⟨.ref (A 6 (q - 1)), (jx_getF_of hC1 rfl).trans (congrArg some ea), ?_⟩
        conv => whnf
        refine ⟨.ref (A 6 (q - 1)), (jx_getF_of hC1 rfl).trans (congrArg some ea), ?_⟩
        conv => whnf
        refine ⟨_, jx_getF_of (hp (q - 1) (by omega)).2.1 rfl, ?_⟩
        conv => whnf
        refine ⟨?_, rfl⟩
        rw [show w = 1 from hw, show q - 1 + 1 = q by omega, ← i32_eq hq1 (by omega)]
        rfl
    · intro hw
      conv => whnf
      refine ⟨_, jx_getF_of hC1 rfl, ?_⟩
      conv => whnf
      refine ⟨?_, rfl⟩
      rw [show w = 2 from hw]
      rfl
    · intro hw
      conv => whnf
      refine ⟨_, jx_getF_of hC1 rfl, ?_⟩
      conv => whnf
      refine ⟨?_, rfl⟩
      rw [show w = 3 from hw]
      rfl
    · refine jx_swd_i (fun hn => ?_)
      conv => whnf
      refine ⟨?_, rfl⟩
      unfold R_cnn
      rw [if_neg (show ¬ w = 0 from hn _ (List.mem_of_getElem? (i := 0) rfl)), if_neg (show ¬ w = 1 from hn _ (List.mem_of_getElem? (i := 1) rfl)), if_neg (show ¬ w = 2 from hn _ (List.mem_of_getElem? (i := 2) rfl)), if_neg (show ¬ w = 3 from hn _ (List.mem_of_getElem? (i := 3) rfl))]
  · refine absurd ⟨?_, ?_⟩ hn
    · rw [Int32.le_iff_toInt_le, hck]; simp; omega
    · rw [Int32.le_iff_toInt_le, hck]; simp; omega
theorem i32_18 {c : Int32} (h : 1 ≤ c ∧ c ≤ 8) : ∃ k : Nat, k < 8 ∧ c.toInt = ((k + 1 : Nat) : Int) := by
  have h1 := Int32.le_iff_toInt_le.mp h.1
  have h2 := Int32.le_iff_toInt_le.mp h.2
  have e1 : (1 : Int32).toInt = 1 := by decide
  have e8 : (8 : Int32).toInt = 8 := by decide
  exact ⟨(c.toInt - 1).toNat, by omega, by omega⟩
theorem pair_connection {k0 : Nat} (hR : Rel th B b xl σ f A G T) (hI : PI (fN f) G k0) (hP : P (rf σ (B + 39) (rf_ui f 0 0 0))) : lawp_13 th b B (B + 39) xl σ P := by
  intro c w
  have hX := hR.2.1.2.2.2.2.2.1
  have hCA := hR.2.1.2.2.2.2.2.2.2.2.1
  have hCs := hR.2.2.2.1
  obtain ⟨np, hnp, hnp4, -, hp⟩ := hR.2.2.2.2.1
  obtain ⟨n, a, hg, hc1, -⟩ := hI
  have hnn : n = np := by
    have h1 := hg.2.1
    have h2 : ((fN f).1 7 0).toInt = (np : Int) := hnp
    omega
  subst hnn
  by_cases hc : 1 ≤ c ∧ c ≤ 8
  · obtain ⟨k, hk, hck⟩ := i32_18 hc
    obtain ⟨s, q, r, -, hq, -⟩ := hc1 (k + 1) (by omega) (by omega)
    refine pair_look (w := R_cnn f (k + 1) w) rfl hR hP ((k_connection (d := 28) hX hCA (hCs k hk).1 hk hck ⟨q, hq⟩ hnp4 hp).up (by omega)) (fun σ0 => (r_connection (d := 28)).mp ?_)
    rintro r f1 ⟨hcs, hf1⟩
    rcases hcs with ⟨rfl, -⟩ | ⟨-, hn⟩
    · rw [i32_nat hck]
      exact ⟨rfl, hf1⟩
    · exact absurd hc hn
  · refine pair_look (w := -1) rfl hR hP ?_ (fun σ0 => (r_connection (d := 28)).mp ?_)
    · refine cl_go dt_166 40 [] dt_166_k rfl ?_
      intro C J hC hJ
      conv => whnf
      refine ⟨jx_isC_of hX, hC _ _ _ _ (((k_connAt (d := 28) hX hCA).up (by omega)).mp ?_)⟩
      rintro r σ1 ⟨hcs, hs1⟩
      rw [hs1]
      rcases hcs with ⟨k, hk, hck, rfl⟩ | ⟨hn, rfl⟩
      · refine absurd ⟨?_, ?_⟩ hc
        · rw [Int32.le_iff_toInt_le, hck]; simp; omega
        · rw [Int32.le_iff_toInt_le, hck]; simp; omega
      · conv => whnf
        exact ⟨rfl, rfl⟩
    · rintro r f1 ⟨hcs, hf1⟩
      rcases hcs with ⟨-, hn⟩ | ⟨rfl, -⟩
      · exact absurd hn hc
      · exact ⟨rfl, hf1⟩
theorem k_lost_l {Q : Option Value → jx_S → Prop} (hX : σ.1 B = some (cx_e B f (A 0 0) (G 0 0))) (hCA : cl_ca B σ) (hCs : ∀ c, c < 8 → σ.1 (B + 14 + 3 * c) = some (cc_e f A G c)) (hQ : Q (some (.int (lsum G 8))) σ) : ∀ (r c : Nat) (i : Int32), i.toInt = (c : Int) → c + r = 8 → cl_fj th d 179 7 [(0, .ref B), (1, .int (lsum G c)), (2, .int i)] [] σ Q
  | 0, c, i, hi, hc => by
    obtain ⟨g, hg, hgi⟩ := hCA
    have e8 : c = 8 := by omega
    subst e8
    refine cl_at dt_179 40 [] dt_179_k ?_
    intro C J hC hJ
    conv => whnf
    refine ⟨_, jx_getF_of hX rfl, ?_⟩
    conv => whnf
    refine ⟨_, jx_al_of hg, ?_⟩
    conv => whnf
    refine jx_yes (show Int32.ofNat 8 ≤ i by rw [Int32.le_iff_toInt_le, i32_ofNat (by omega)]; omega) ?_
    conv => whnf
    exact hQ
  | r + 1, c, i, hi, hc => by
    have hCA0 := hCA
    obtain ⟨g, hg, hgi⟩ := hCA
    refine cl_at dt_179 40 [(7, [0, 1, 2])] dt_179_k ?_
    intro C J hC hJ
    conv => whnf
    refine ⟨_, jx_getF_of hX rfl, ?_⟩
    conv => whnf
    refine ⟨_, jx_al_of hg, ?_⟩
    conv => whnf
    refine jx_no (show ¬ Int32.ofNat 8 ≤ i by rw [Int32.le_iff_toInt_le, i32_ofNat (by omega)]; omega) ?_
    conv => whnf
    refine ⟨_, jx_getF_of hX rfl, ?_⟩
    conv => whnf
    refine ⟨_, jx_ald_of hg (Or.inr rfl) hi (show c < 8 by omega), ?_⟩
    rw [hgi c (by omega)]
    conv => whnf
    refine ⟨_, jx_getF_of (hCs c (by omega)) rfl, ?_⟩
    conv => whnf
    have hi1 : (i + Int32.ofInt 1).toInt = ((c + 1 : Nat) : Int) := by rw [i32_add (c := 1) hi (by decide) (by omega) (by omega)]; omega
    exact hJ _ _ _ _ (k_lost_l hX hCA0 hCs hQ r (c + 1) _ hi1 (by omega))
theorem pair_lost {k0 : Nat} (hR : Rel th B b xl σ f A G T) (hI : PI (fN f) G k0) (hP : P (rf σ (B + 39) (rf_ui f 0 0 0))) : lawp_23 th b B (B + 39) xl σ P := by
  have hX := hR.2.1.2.2.2.2.2.1
  have hCA := hR.2.1.2.2.2.2.2.2.2.2.1
  have hCs := hR.2.2.2.1
  obtain ⟨n, a, -, -, -, -, -, -, hl, -⟩ := hI
  have hl : f.1 2 0 = lsum G 8 := hl
  refine pair_look (w := f.1 2 0) rfl hR hP ?_ (fun σ0 => (r_lost (d := 29)).up (by omega))
  refine cl_go dt_179 20 [(7, [0, 1, 2])] dt_179_k rfl ?_
  intro C J hC hJ
  conv => whnf
  refine ⟨_, jx_getF_of hX rfl, ?_⟩
  conv => whnf
  exact hJ _ _ _ _ (k_lost_l hX hCA (fun c hc => (hCs c hc).1) ⟨by rw [hl], rfl⟩ 8 0 0 (by decide) (by omega))
end JxLooks2
