/-! THE REFERENCE: a PEER's ASKS are given over -/
theorem lg_cmp_z {x y : Int64} : lg_cmp x y = 0 ↔ x = y := by
  unfold lg_cmp
  constructor
  · intro h
    split at h
    · exact absurd h (by decide)
    · split at h
      · rename_i e; exact e
      · exact absurd h (by decide)
  · intro h
    subst h
    simp
noncomputable def R_gv1 (f : jx_F) (n p i : Nat) : jx_F := if ¬ f.1 54 i = Int32.ofNat p ∨ ¬ f.2 53 i = 0 then f else if ¬ R_lu f n 0 = 4 then R_sendAsk f i (R_lu f n 0) else if f.1 15 p = 2 then f else rf_ul f 53 i 3002
noncomputable def R_gvl (n p : Nat) : Nat → Nat → jx_F → jx_F
  | 0, _, f => f
  | r + 1, k, f => R_gvl n p r (k + 1) (R_gv1 f n p k)
noncomputable def R_gv (f : jx_F) (n a p : Nat) : jx_F := R_gvl n p a 0 (R_inc f 18 p)
def R_gok (f : jx_F) (n a : Nat) : Prop := R_ok f ∧ (f.1 7 0).toInt = (n : Int) ∧ n ≤ 4 ∧ (f.1 49 0).toInt = (a : Int) ∧ a ≤ 64 ∧ (∀ i, i < a → R_qok f i) ∧ ∀ q, q < 4 → (∃ x : Nat, (f.1 13 q).toInt = (x : Int) ∧ x ≤ 8) ∧ ∃ y : Nat, (f.1 14 q).toInt = (y : Int) ∧ y ≤ 8
section JxRefgive
variable {th : Nat → Nat} {σ0 : jx_S} {m d : Nat} {f : jx_F} {Q : Option Value → jx_F → Prop} {n a p : Nat}
theorem R_gok.cn (h : R_gok f n a) {q : Nat} (hq : q < 4) : ∃ cN : Nat, (R_conn f q).toInt = (cN : Int) ∧ cN ≤ 8 := by
  unfold R_conn
  split
  · exact (h.2.2.2.2.2.2 q hq).1
  · exact (h.2.2.2.2.2.2 q hq).2
theorem R_gok.of {f' : jx_F} (h : R_gok f n a) (ho : R_ok f') (hk : ∀ k j, k ∈ [7, 49, 50, 51, 52, 13, 14] → f'.1 k j = f.1 k j) : R_gok f' n a := by
  obtain ⟨-, h7, hn, h49, ha, hq, hu⟩ := h
  refine ⟨ho, by rw [hk 7 0 (by decide)]; exact h7, hn, by rw [hk 49 0 (by decide)]; exact h49, ha, fun i hi k hkk => ?_, fun q hq' => ?_⟩
  · obtain ⟨x, h1, h2⟩ := hq i hi k hkk
    refine ⟨x, ?_, h2⟩
    rw [hk k _ (by rcases hkk with rfl | rfl | rfl <;> decide)]
    exact h1
  · rw [hk 13 q (by decide), hk 14 q (by decide)]
    exact hu q hq'
theorem R_sendAsk_gok {i q cN : Nat} (h : R_gok f n a) (hi : i < a) (hc : (R_conn f q).toInt = (cN : Int)) (hc8 : cN ≤ 8) : R_gok (R_sendAsk f i q) n a := by
  refine h.of (R_sendAsk_ok h.1 (h.2.2.2.2.2.1 i hi) hc hc8) (fun k j hk => R_sendAsk_o ?_)
  simp only [List.mem_cons, List.not_mem_nil, or_false] at hk
  rcases hk with rfl | rfl | rfl | rfl | rfl | rfl | rfl <;> rfl
theorem R_lu_us : ∀ (r k : Nat), R_lu f r k ≠ 4 → k ≤ R_lu f r k ∧ R_lu f r k < k + r ∧ R_us f (R_lu f r k)
  | 0, k, h => absurd rfl h
  | r + 1, k, h => by
    by_cases hu : R_us f k
    · have e : R_lu f (r + 1) k = k := if_pos hu
      rw [e]
      exact ⟨Nat.le_refl _, by omega, hu⟩
    · have e : R_lu f (r + 1) k = R_lu f r (k + 1) := if_neg hu
      rw [e] at h ⊢
      obtain ⟨h1, h2, h3⟩ := R_lu_us r (k + 1) h
      exact ⟨by omega, by omega, h3⟩
theorem R_gv1_gok {i : Nat} (h : R_gok f n a) (hi : i < a) : R_gok (R_gv1 f n p i) n a := by
  unfold R_gv1
  split
  · exact h
  · split
    · rename_i hl
      obtain ⟨h1, h2, h3⟩ := R_lu_us n 0 hl
      have h4 := h.2.2.1
      obtain ⟨cN, hc, hc8⟩ := h.cn (q := R_lu f n 0) (by omega)
      exact R_sendAsk_gok h hi hc hc8
    · split
      · exact h
      · exact h.of h.1 (fun _ _ _ => rfl)
theorem r_give_l {pv : Int32} (hp : pv.toInt = (p : Int)) (hp4 : p < 4) : ∀ (r k : Nat) (i : Int32) (f : jx_F), i.toInt = (k : Int) → k + r = a → R_gok f n a → Q none (R_gvl n p r k f) → jx_fj th (rf_g m) (rf σ0 m) (d + 5) 201 12 [(0, .ref 0), (1, .int pv), (2, .int i)] [] f Q
  | 0, k, i, f, hi, hk, hg, h => by
    have h49 := hg.2.2.2.1
    refine rf_at dt_201 60 [] dt_201_k (by decide +kernel) ?_
    intro C J hC hJ
    conv => whnf
    refine jx_yes (show f.1 49 0 ≤ i by rw [Int32.le_iff_toInt_le]; omega) ?_
    conv => whnf
    exact h
  | r + 1, k, i, f, hi, hk, hg, h => by
    have hg0 := hg
    obtain ⟨ho, h7, hn, h49, ha, hq, hu⟩ := hg
    have hin := i32_nat hi
    have hii : jx_in i 64 := jx_in_nat hi (show k < 64 by omega)
    have hpn := i32_nat hp
    have hpi : jx_in pv 4 := jx_in_nat hp hp4
    have hpp : pv = Int32.ofNat p := Int32.toInt_inj.mp (by rw [i32_ofNat (by omega), hp])
    have hi1 : (i + Int32.ofInt 1).toInt = ((k + 1 : Nat) : Int) := by rw [i32_add (c := 1) hi (by decide) (by omega) (by omega)]; omega
    have hnext : ∀ f', f' = R_gv1 f n p k → jx_fj th (rf_g m) (rf σ0 m) (d + 5) 201 12 [(0, .ref 0), (1, .int pv), (2, .int (i + Int32.ofInt 1))] [] f' Q := fun f' hf' => r_give_l hp hp4 r (k + 1) _ f' hi1 (by omega) (by rw [hf']; exact R_gv1_gok hg0 (by omega)) (by rw [hf']; exact h)
    refine rf_at dt_201 60 [(12, [0, 1, 2])] dt_201_k (by decide +kernel) ?_
    intro C J hC hJ
    conv => whnf
    refine jx_no (show ¬ f.1 49 0 ≤ i by rw [Int32.le_iff_toInt_le]; omega) ?_
    conv => whnf
    refine ⟨hii, ?_⟩
    conv => whnf
    try rw [hin]
    refine ⟨fun (h1 : ¬ f.1 54 k = pv) => ?_, fun (h1 : ¬ ¬ f.1 54 k = pv) => ?_⟩
    · conv => whnf
      refine hJ _ _ _ _ (hnext f ?_)
      unfold R_gv1
      rw [if_pos (Or.inl (by rw [← hpp]; exact h1))]
    · have h1 := Decidable.not_not.mp h1
      conv => whnf
      refine ⟨hii, ?_⟩
      conv => whnf
      try rw [hin]
      refine ⟨fun (h2 : lg_cmp (f.2 53 k) 0 = 0) => ?_, fun (h2 : ¬ lg_cmp (f.2 53 k) 0 = 0) => ?_⟩
      · have h2 := lg_cmp_z.mp h2
        have hno : ¬ (¬ f.1 54 k = Int32.ofNat p ∨ ¬ f.2 53 k = 0) := fun z => z.elim (fun z => z (by rw [← hpp]; exact h1)) (fun z => z h2)
        conv => whnf
        refine hC _ _ _ _ (((r_leastUsable h7 hn).up (show d + 2 ≤ d + 5 by omega)).mp ?_)
        rintro r' f' ⟨hcs, hf'⟩
        have hf' := hf'.symm
        subst hf'
        rcases hcs with ⟨hl, hl2, hus, rfl⟩ | ⟨hl, rfl⟩
        · obtain ⟨cN, hc, hc8⟩ := hg0.cn (q := R_lu f n 0) (by omega)
          have hby : (Int32.ofNat (R_lu f n 0)).toInt = ((R_lu f n 0 : Nat) : Int) := i32_ofNat (by omega)
          conv => whnf
          refine jx_no (show ¬ Int32.ofNat (R_lu f n 0) < 0 by rw [Int32.lt_iff_toInt_lt, hby]; simp) ?_
          conv => whnf
          refine hC _ _ _ _ ((r_sendAsk hi (by omega) hby (by omega) ho (hq k (by omega)) hc hc8).mp ?_)
          rintro r' f1 ⟨rfl, hf1⟩
          conv => whnf
          refine hJ _ _ _ _ (hnext f1 ?_)
          rw [hf1]
          unfold R_gv1
          rw [if_neg hno, if_pos hl]
        · conv => whnf
          refine jx_yes (show (-1 : Int32) < 0 by decide) ?_
          conv => whnf
          refine ⟨hpi, ?_⟩
          conv => whnf
          try rw [hpn]
          refine ⟨fun (h3 : f.1 15 p = 2) => ?_, fun (h3 : ¬ f.1 15 p = 2) => ?_⟩
          · conv => whnf
            refine hJ _ _ _ _ (hnext f ?_)
            unfold R_gv1
            rw [if_neg hno, if_neg (fun z => z hl), if_pos h3]
          · conv => whnf
            refine ⟨hii, ?_⟩
            conv => whnf
            try rw [hin]
            refine hJ _ _ _ _ (hnext _ ?_)
            unfold R_gv1
            rw [if_neg hno, if_neg (fun z => z hl), if_neg h3]
      · conv => whnf
        refine hJ _ _ _ _ (hnext f ?_)
        unfold R_gv1
        rw [if_pos (Or.inr (fun z => h2 (lg_cmp_z.mpr z)))]
theorem r_giveOver {pv : Int32} (hp : pv.toInt = (p : Int)) (hp4 : p < 4) (hg : R_gok f n a) : rfc th σ0 m (d + 6) 201 [.ref 0, .int pv] f (fun r f' => r = none ∧ f' = R_gv f n a p) := by
  have hpn := i32_nat hp
  have hpi : jx_in pv 4 := jx_in_nat hp hp4
  refine rf_go dt_201 60 [(12, [0, 1, 2])] dt_201_k (by decide +kernel) rfl ?_
  intro C J hC hJ
  conv => whnf
  refine ⟨hpi, ?_⟩
  conv => whnf
  refine ⟨hpi, ?_⟩
  conv => whnf
  try rw [hpn]
  refine hJ _ _ _ _ (r_give_l (n := n) (a := a) hp hp4 a 0 0 (R_inc f 18 p) (by decide) (by omega) (hg.of (hg.1.of (rf_ui_ne (by simp)) (fun _ => rf_ui_ne (by simp)) (fun _ => rf_ui_ne (by simp))) (fun k j hk => rf_ui_ne (fun e => by rw [e.1] at hk; revert hk; decide))) ⟨rfl, rfl⟩)
end JxRefgive
