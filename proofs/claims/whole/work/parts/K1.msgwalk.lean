/-! THE CLASS goes through the message that came -/
/-- what one attribute brings -/
def one (o : Nat → Int32) (k d p e s : Nat) : Option (Int32 × Int32) × Nat := match ck1 o d p e with
  | some x => (some x, s)
  | none => if knd o p = 5 then scs o k (d + 1) (p + 8) (p + sz o p) s else (none, if knd o p ≠ 0 ∧ w4 o p = 263 ∧ d = 0 ∧ s = 0 then p else s)
/-- what the class knows after it -/
def RS (X R L : Nat) (o : Nat → Int32) (σ : jx_S) (r : Option (Int32 × Int32) × Nat) (σ' : jx_S) : Prop := (∃ w z c : Int32, ((r.1 = none ∧ w = 0 ∧ z = 0 ∧ c = 0) ∨ (∃ x, r.1 = some x ∧ w = x.1 ∧ z = 1 ∧ c = x.2)) ∧ MB σ' X R L o w z c (Int32.ofNat r.2)) ∧ (∀ q, q ≠ X → σ'.1 q = σ.1 q) ∧ σ'.2 = σ.2
section JxMsgwalk
variable {th : Nat → Nat} {d dd X R L k n p s : Nat} {σ σ' σ2 : jx_S} {o h : Nat → Int32} {w z c kv x y : Int32} {Q : Option Value → jx_S → Prop} {e : Nat} {ev : Int32}
theorem k_find_l (hM : MB σ X R L o w z c ev) (he : e ≤ L) : ∀ (k p : Nat), wf o k p e → e - p < k → p ≤ 1000 → Q (some (.int (Int32.ofNat (fst o x (tps o k p e))))) σ → cl_fj th (dd + 1) 93 3 [(0, .ref X), (1, .int x), (3, .int (Int32.ofNat e)), (4, .int (Int32.ofNat p))] [] σ Q
  | 0, p, _, h, _, _ => by omega
  | k + 1, p, hw, hk, hp, hQ => by
    have hL := hM.2.1
    unfold wf at hw
    by_cases hep : e ≤ p
    · rw [tp_end hep] at hQ
      refine cl_at dt_93 60 [] dt_93_k ?_
      intro C J hC hJ
      conv => whnf
      refine jx_yes (show Int32.ofNat e ≤ Int32.ofNat p by rw [nle (by omega) (by omega)]; exact hep) ?_
      conv => whnf
      exact hQ
    · obtain ⟨a1, a2, a3, a4⟩ := hw.resolve_left hep
      have hpi : (Int32.ofNat p).toInt = (p : Int) := i32_ofNat (by omega)
      have hpd := pad_le (n := sz o p)
      rw [tp_s hep] at hQ
      have t37 : hit o x p = false → cl_fj th (dd + 1) 93 37 [(0, .ref X), (1, .int x), (3, .int (Int32.ofNat e)), (4, .int (Int32.ofNat p))] [] σ Q := by
        intro hn
        rw [fst_cons, hn, if_neg (by simp)] at hQ
        refine cl_at dt_93 60 [(3, [0, 1, 3, 4])] dt_93_k ?_
        intro C J hC hJ
        conv => whnf
        refine ⟨jx_isC_of hM.1, hC _ _ _ _ ((k_word (d := dd) (k := p + 4) hM (i32_k1 (j := 4) hpi (by decide) (by omega)) (by omega)).mp ?_)⟩
        rintro r s1 ⟨rfl, hs⟩
        rw [hs]
        conv => whnf
        have kp := k_padded (th := th) (d := dd) (σ := σ) (n := sz o p) sz_lt
        rw [← w4_sz, if_neg (by omega)] at kp
        refine hC _ _ _ _ (kp.mp ?_)
        rintro r s2 ⟨rfl, hs2⟩
        rw [hs2]
        conv => whnf
        have ea : Int32.ofNat p + Int32.ofNat (pad (sz o p)) = Int32.ofNat (p + pad (sz o p)) := i32_eq (by rw [i32_add hpi (i32_ofNat (by omega)) (by omega) (by omega)]; omega) (by omega)
        rw [show (fun x y : Int32 => x + y) (Int32.ofNat p) (Int32.ofNat (pad (sz o p))) = Int32.ofNat (p + pad (sz o p)) from ea]
        exact hJ _ _ _ _ (k_find_l hM he k _ a4 (by omega) (by omega) hQ)
      refine cl_at dt_93 60 [(37, [0, 1, 3, 4])] dt_93_k ?_
      intro C J hC hJ
      conv => whnf
      refine jx_no (show ¬ Int32.ofNat e ≤ Int32.ofNat p by rw [nle (by omega) (by omega)]; exact hep) ?_
      conv => whnf
      refine ⟨jx_isC_of hM.1, hC _ _ _ _ ((k_word (d := dd) (k := p) hM hpi (by omega)).mp ?_)⟩
      rintro r s1 ⟨rfl, hs⟩
      rw [hs]
      conv => whnf
      refine ⟨fun (h1 : ¬ w4 o p = x) => ?_, fun (h1 : ¬ ¬ w4 o p = x) => ?_⟩
      · conv => whnf
        exact hJ _ _ _ _ (t37 (by cases z : hit o x p with | false => rfl | true => exact absurd (hit_i.mp z).1 h1))
      have h1 := Decidable.not_not.mp h1
      conv => whnf
      refine ⟨jx_isC_of hM.1, hC _ _ _ _ ((k_octet (d := dd) (k := p + 4) hM (i32_k1 (j := 4) hpi (by decide) (by omega)) (by omega)).mp ?_)⟩
      rintro r s2 ⟨rfl, hs2⟩
      rw [hs2]
      conv => whnf
      refine ⟨fun (h2 : ¬ ob o (p + 4) &&& 128 = 0) => ?_, fun (h2 : ¬ ¬ ob o (p + 4) &&& 128 = 0) => ?_⟩
      · conv => whnf
        exact hJ _ _ _ _ (t37 (by cases z : hit o x p with | false => rfl | true => exact absurd (hit_i.mp z).2 h2))
      have h2 := Decidable.not_not.mp h2
      conv => whnf
      rw [fst_cons, if_pos (hit_i.mpr ⟨h1, h2⟩)] at hQ
      exact hQ
theorem k_find (hM : MB σ X R L o w z c ev) (he : e ≤ L) (hw : wf o k p e) (hk : e - p < k) (hp : p ≤ 1000) : jc th (dd + 2) 93 [.ref X, .int x, .int (Int32.ofNat p), .int (Int32.ofNat e)] σ (fun r σ' => r = some (.int (Int32.ofNat (fst o x (tps o k p e)))) ∧ σ' = σ) := by
  refine cl_go dt_93 20 [(3, [0, 1, 3, 4])] dt_93_k rfl ?_
  intro C J hC hJ
  conv => whnf
  exact hJ _ _ _ _ (k_find_l hM he k p hw hk hp ⟨rfl, rfl⟩)
theorem scs_one (h : ¬ e ≤ p) : scs o (k + 1) d p e s = if (one o k d p e s).1 = none then scs o k d (p + pad (sz o p)) e (one o k d p e s).2 else one o k d p e s := by
  unfold one
  cases hx : ck1 o d p e with
  | some y =>
    rw [ss_flt h hx]
    exact (if_neg (by simp)).symm
  | none =>
    by_cases h5 : knd o p = 5
    · show _ = if (if _ then _ else _ : Option (Int32 × Int32) × Nat).1 = none then scs o k d (p + pad (sz o p)) e (if _ then _ else _ : Option (Int32 × Int32) × Nat).2 else (if _ then _ else _)
      rw [if_pos h5]
      by_cases ht : (scs o k (d + 1) (p + 8) (p + sz o p) s).1 = none
      · rw [ss_n5n h hx h5 ht, if_pos ht]
      · rw [ss_n5s h hx h5 ht, if_neg ht]
    · show _ = if (if _ then _ else _ : Option (Int32 × Int32) × Nat).1 = none then scs o k d (p + pad (sz o p)) e (if _ then _ else _ : Option (Int32 × Int32) × Nat).2 else (if _ then _ else _)
      rw [if_neg h5, ss_nk h hx h5, if_pos rfl]
theorem one_n (h : (one o k d p e s).1 = none) : ck1 o d p e = none := by
  unfold one at h
  split at h
  · exact absurd h (by simp)
  · rename_i hx; exact hx
theorem RS.tr {r r' : Option (Int32 × Int32) × Nat} (h1 : RS X R L o σ r σ') (h2 : RS X R L o σ' r' σ2) : RS X R L o σ r' σ2 := ⟨h2.1, fun q hq => by rw [h2.2.1 q hq, h1.2.1 q hq], by rw [h2.2.2, h1.2.2]⟩
theorem and24_ex (x : Int32) : ∃ n, n < 16777216 ∧ x &&& 16777215 = Int32.ofNat n := by
  have h := and24 x
  refine ⟨(x &&& 16777215).toBitVec.toNat, by omega, ?_⟩
  exact i32_eq (i32_small (by omega)) (by omega)
end JxMsgwalk
