/-! THE CHOICE: which name is later -/
/-- r octets are left to be compared, from k on -/
def R_lat (f : jx_F) (p n m : Nat) : Nat → Nat → Prop
  | 0, _ => m < n
  | r + 1, k => if f.1 5 k = f.1 8 (40 * p + k) then R_lat f p n m r (k + 1) else f.1 8 (40 * p + k) < f.1 5 k
def R_later (f : jx_F) (p : Nat) : Prop := R_lat f p (f.1 6 0).toNatClampNeg (f.1 9 p).toNatClampNeg (min (f.1 6 0).toNatClampNeg (f.1 9 p).toNatClampNeg) 0
section JxLater
variable {th : Nat → Nat} {σ0 σ : jx_S} {d m0 B b p n m : Nat} {xl : List Int32} {f f' : jx_F} {A : Nat → Nat → Nat} {G : Nat → Nat → Int32} {T : Nat → Nat}
theorem R_lat_eq {n m : Nat} (h5 : ∀ j, f'.1 5 j = f.1 5 j) (h8 : ∀ j, f'.1 8 j = f.1 8 j) : ∀ r k, R_lat f' p n m r k ↔ R_lat f p n m r k
  | 0, _ => Iff.rfl
  | r + 1, k => by
    unfold R_lat
    rw [h5, h8]
    split
    · exact R_lat_eq h5 h8 r (k + 1)
    · exact Iff.rfl
theorem R_later_eq (h5 : ∀ j, f'.1 5 j = f.1 5 j) (h8 : ∀ j, f'.1 8 j = f.1 8 j) (h6 : f'.1 6 0 = f.1 6 0) (h9 : f'.1 9 p = f.1 9 p) : R_later f' p ↔ R_later f p := by
  unfold R_later
  rw [h6, h9]
  exact R_lat_eq h5 h8 _ _
theorem r_lat_l {pv : Int32} {Q : Option Value → jx_F → Prop} (hp : pv.toInt = (p : Int)) (hp4 : p < 4) (hn : (f.1 6 0).toInt = (n : Int)) (hn4 : n ≤ 40) (hm : (f.1 9 p).toInt = (m : Int)) (hm4 : m ≤ 40) : ∀ (r k : Nat) (iv : Int32), iv.toInt = (k : Int) → k + r = min n m → (R_lat f p n m r k → Q (some (.int 1)) f) → (¬ R_lat f p n m r k → Q (some (.int 0)) f) → jx_fj th (rf_g m0) (rf σ0 m0) d 215 2 [(0, .ref 0), (1, .int pv), (2, .int iv)] [] f Q
  | 0, k, iv, hv, hk, h1, h2 => by
    have hpn := i32_nat hp
    have hpi : jx_in pv 4 := jx_in_nat hp hp4
    have fin : jx_fj th (rf_g m0) (rf σ0 m0) d 215 72 [(0, .ref 0), (1, .int pv)] [] f Q := by
      refine rf_at dt_215 60 [] dt_215_k (by decide +kernel) ?_
      intro C J hC hJ
      conv => whnf
      refine ⟨hpi, ?_⟩
      conv => whnf
      rw [hpn]
      refine ⟨fun (h : f.1 6 0 ≤ f.1 9 p) => ?_, fun (h : ¬ f.1 6 0 ≤ f.1 9 p) => ?_⟩
      · rw [Int32.le_iff_toInt_le, hn, hm] at h
        conv => whnf
        exact ⟨Or.inl rfl, h2 (fun z => by unfold R_lat at z; omega)⟩
      · rw [Int32.le_iff_toInt_le, hn, hm] at h
        conv => whnf
        exact ⟨Or.inr rfl, h1 (by unfold R_lat; omega)⟩
    refine rf_at dt_215 60 [(72, [0, 1])] dt_215_k (by decide +kernel) ?_
    intro C J hC hJ
    conv => whnf
    refine ⟨fun (h : f.1 6 0 ≤ iv) => ?_, fun (h : ¬ f.1 6 0 ≤ iv) => ?_⟩
    · conv => whnf
      exact hJ _ _ _ _ fin
    · rw [Int32.le_iff_toInt_le, hn, hv] at h
      conv => whnf
      refine ⟨hpi, ?_⟩
      conv => whnf
      rw [hpn]
      refine jx_yes (show f.1 9 p ≤ iv by rw [Int32.le_iff_toInt_le, hm, hv]; omega) ?_
      conv => whnf
      exact hJ _ _ _ _ fin
  | r + 1, k, iv, hv, hk, h1, h2 => by
    have hpn := i32_nat hp
    have hpi : jx_in pv 4 := jx_in_nat hp hp4
    have hvn := i32_nat hv
    have hvi : jx_in iv 40 := jx_in_nat hv (show k < 40 by omega)
    have hx : (40 * pv + iv).toInt = ((40 * p + k : Nat) : Int) := by
      have h3 : (40 * pv).toInt = ((40 * p : Nat) : Int) := by rw [i32_mul (a := 40) (by decide) hp (by omega) (by omega)]; omega
      rw [i32_add h3 hv (by omega) (by omega)]; omega
    have hxn := i32_nat hx
    have hxi : jx_in (40 * pv + iv) 160 := jx_in_nat hx (by omega)
    refine rf_at dt_215 60 [(2, [0, 1, 2])] dt_215_k (by decide +kernel) ?_
    intro C J hC hJ
    conv => whnf
    refine jx_no (show ¬ f.1 6 0 ≤ iv by rw [Int32.le_iff_toInt_le, hn, hv]; omega) ?_
    conv => whnf
    refine ⟨hpi, ?_⟩
    conv => whnf
    rw [hpn]
    refine jx_no (show ¬ f.1 9 p ≤ iv by rw [Int32.le_iff_toInt_le, hm, hv]; omega) ?_
    conv => whnf
    refine ⟨hvi, ?_⟩
    conv => whnf
    refine ⟨hxi, ?_⟩
    conv => whnf
    rw [hvn, hxn]
    refine ⟨fun (h : f.1 5 k = f.1 8 (40 * p + k)) => ?_, fun (h : ¬ f.1 5 k = f.1 8 (40 * p + k)) => ?_⟩
    · conv => whnf
      have e : R_lat f p n m (r + 1) k = R_lat f p n m r (k + 1) := if_pos h
      rw [e] at h1 h2
      refine hJ _ _ _ _ (r_lat_l hp hp4 hn hn4 hm hm4 r (k + 1) _ ?_ (by omega) h1 h2)
      rw [i32_add (c := 1) hv (by decide) (by omega) (by omega)]; omega
    · have e : R_lat f p n m (r + 1) k = (f.1 8 (40 * p + k) < f.1 5 k) := if_neg h
      rw [e] at h1 h2
      conv => whnf
      refine ⟨hvi, ?_⟩
      conv => whnf
      refine ⟨hxi, ?_⟩
      conv => whnf
      rw [hvn, hxn]
      refine ⟨fun (h : f.1 5 k ≤ f.1 8 (40 * p + k)) => ?_, fun (h : ¬ f.1 5 k ≤ f.1 8 (40 * p + k)) => ?_⟩
      · conv => whnf
        exact ⟨Or.inl rfl, h2 (Int32.not_lt.mpr h)⟩
      · conv => whnf
        exact ⟨Or.inr rfl, h1 (Int32.not_le.mp h)⟩
theorem r_isLater {pv : Int32} (hp : pv.toInt = (p : Int)) (hp4 : p < 4) (hn : (f.1 6 0).toInt = (n : Int)) (hn4 : n ≤ 40) (hm : (f.1 9 p).toInt = (m : Int)) (hm4 : m ≤ 40) : rfc th σ0 m0 (d + 1) 215 [.ref 0, .int pv] f (fun r f' => ((r = some (.int 1) ∧ R_later f p) ∨ (r = some (.int 0) ∧ ¬ R_later f p)) ∧ f' = f) := by
  have e : R_later f p = R_lat f p n m (min n m) 0 := by unfold R_later; rw [i32_nat hn, i32_nat hm]
  rw [e]
  refine rf_go dt_215 20 [(2, [0, 1, 2])] dt_215_k (by decide +kernel) rfl ?_
  intro C J hC hJ
  conv => whnf
  exact hJ _ _ _ _ (r_lat_l hp hp4 hn hn4 hm hm4 (min n m) 0 0 (by decide) (by omega) (fun h => ⟨Or.inl ⟨rfl, h⟩, rfl⟩) (fun h => ⟨Or.inr ⟨rfl, h⟩, rfl⟩))
theorem k_lat_l {H N ty : Nat} {h1 h2 : Nat → Int32} {Q : Option Value → jx_S → Prop} {bv : Int32} (hX : σ.1 B = some (cx_e B f H (G 0 0))) (hty : ty ∈ [0, 3, 100]) (hH : σ.1 H = some (.inl (ty, n, .inl h1))) (hN : σ.1 N = some (.inl (0, m, .inl h2))) (e1 : ∀ j, j < n → h1 j = f.1 5 j) (e2 : ∀ j, j < m → h2 j = f.1 8 (40 * p + j)) (hn4 : n ≤ 40) (hm4 : m ≤ 40) (hb : bv.toInt = ((min n m : Nat) : Int)) : ∀ (r k : Nat) (iv : Int32), iv.toInt = (k : Int) → k + r = min n m → (R_lat f p n m r k → Q (some (.int 1)) σ) → (¬ R_lat f p n m r k → Q (some (.int 0)) σ) → cl_fj th d 56 13 [(0, .ref B), (1, .ref N), (2, .int bv), (3, .int iv)] [] σ Q
  | 0, k, iv, hv, hk, q1, q2 => by
    refine cl_at dt_56 60 [] dt_56_k ?_
    intro C J hC hJ
    conv => whnf
    refine jx_yes (show bv ≤ iv by rw [Int32.le_iff_toInt_le, hb, hv]; omega) ?_
    conv => whnf
    refine ⟨_, jx_getF_of (hX) rfl, ?_⟩
    conv => whnf
    refine ⟨_, jx_al_of (hH), ?_⟩
    conv => whnf
    refine ⟨_, jx_al_of (hN), ?_⟩
    conv => whnf
    refine ⟨fun (h : Int32.ofNat n ≤ Int32.ofNat m) => ?_, fun (h : ¬ Int32.ofNat n ≤ Int32.ofNat m) => ?_⟩
    · rw [nle (by omega) (by omega)] at h
      conv => whnf
      exact ⟨Or.inl rfl, q2 (fun z => by unfold R_lat at z; omega)⟩
    · rw [nle (by omega) (by omega)] at h
      conv => whnf
      exact ⟨Or.inr rfl, q1 (by unfold R_lat; omega)⟩
  | r + 1, k, iv, hv, hk, q1, q2 => by
    refine cl_at dt_56 60 [(13, [0, 1, 2, 3])] dt_56_k ?_
    intro C J hC hJ
    conv => whnf
    refine jx_no (show ¬ bv ≤ iv by rw [Int32.le_iff_toInt_le, hb, hv]; omega) ?_
    conv => whnf
    refine ⟨_, jx_getF_of (hX) rfl, ?_⟩
    conv => whnf
    refine ⟨_, jx_ild_of hH hty hv (by omega), ?_⟩
    conv => whnf
    refine ⟨_, jx_ild_of hN (by decide) hv (by omega), ?_⟩
    conv => whnf
    rw [e1 k (by omega), e2 k (by omega)]
    refine ⟨fun (h : f.1 5 k = f.1 8 (40 * p + k)) => ?_, fun (h : ¬ f.1 5 k = f.1 8 (40 * p + k)) => ?_⟩
    · conv => whnf
      have e : R_lat f p n m (r + 1) k = R_lat f p n m r (k + 1) := if_pos h
      rw [e] at q1 q2
      refine hJ _ _ _ _ (k_lat_l hX hty hH hN e1 e2 hn4 hm4 hb r (k + 1) _ ?_ (by omega) q1 q2)
      rw [i32_add (c := 1) hv (by decide) (by omega) (by omega)]; omega
    · have e : R_lat f p n m (r + 1) k = (f.1 8 (40 * p + k) < f.1 5 k) := if_neg h
      rw [e] at q1 q2
      conv => whnf
      refine ⟨_, jx_getF_of (hX) rfl, ?_⟩
      conv => whnf
      refine ⟨_, jx_ild_of hH hty hv (by omega), ?_⟩
      conv => whnf
      refine ⟨_, jx_ild_of hN (by decide) hv (by omega), ?_⟩
      conv => whnf
      rw [e1 k (by omega), e2 k (by omega)]
      refine ⟨fun (h : f.1 5 k ≤ f.1 8 (40 * p + k)) => ?_, fun (h : ¬ f.1 5 k ≤ f.1 8 (40 * p + k)) => ?_⟩
      · conv => whnf
        exact ⟨Or.inl rfl, q2 (Int32.not_lt.mpr h)⟩
      · conv => whnf
        exact ⟨Or.inr rfl, q1 (Int32.not_le.mp h)⟩
theorem k_later (hR : RelC th B b xl σ f A G T) (hp : (p : Int) < (f.1 7 0).toInt) : jc th (d + 1) 56 [.ref B, .ref (A 60 p)] σ (fun r σ' => ((r = some (.int 1) ∧ R_later f p) ∨ (r = some (.int 0) ∧ ¬ R_later f p)) ∧ σ' = σ) := by
  obtain ⟨n, hn, hn4, h1, hH, e1⟩ := hR.1.2.2.2.2.2.2.2.1
  obtain ⟨ty, hty, hH⟩ : ∃ ty, ty ∈ [0, 3, 100] ∧ σ.1 (A 0 0) = some (.inl (ty, n, .inl h1)) := by
    rcases hH with ⟨-, z⟩ | ⟨-, z⟩
    · exact ⟨100, by decide, z⟩
    · exact ⟨0, by decide, z⟩
  obtain ⟨-, -, ⟨m, hm, hm4, -, h2, hN, e2⟩, -⟩ := hR.pe hp
  have hX := hR.X
  have e : R_later f p = R_lat f p n m (min n m) 0 := by unfold R_later; rw [i32_nat hn, i32_nat hm]
  rw [e]
  refine cl_go dt_56 40 [(13, [0, 1, 2, 3])] dt_56_k rfl ?_
  intro C J hC hJ
  conv => whnf
  refine ⟨_, jx_getF_of (hX) rfl, ?_⟩
  conv => whnf
  refine ⟨_, jx_al_of (hH), ?_⟩
  conv => whnf
  refine ⟨_, jx_al_of (hN), ?_⟩
  conv => whnf
  have hb : (if Int32.ofNat m < Int32.ofNat n then Int32.ofNat m else Int32.ofNat n).toInt = ((min n m : Nat) : Int) := by
    split
    · rename_i h
      rw [nlt (by omega) (by omega)] at h
      rw [i32_ofNat (by omega)]
      omega
    · rename_i h
      rw [nlt (by omega) (by omega)] at h
      rw [i32_ofNat (by omega)]
      omega
  exact hJ _ _ _ _ (k_lat_l hX hty hH hN e1 (fun j hj => (e2 j hj).1) hn4 hm4 hb (min n m) 0 0 (by decide) (by omega) (fun h => ⟨Or.inl ⟨rfl, h⟩, rfl⟩) (fun h => ⟨Or.inr ⟨rfl, h⟩, rfl⟩))
end JxLater
