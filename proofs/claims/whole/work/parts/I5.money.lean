/-! WHAT IS RESERVED stays the sum of the grants -/
section JxMoney
variable {f f' : jx_F} {n a i m s : Nat}
theorem msum_s : msum f i (m + 1) = msum f i m + if (f.1 44 m).toInt = (i : Int) then (f.2 45 m).toInt else 0 := rfl
/-- a SESSION goes: the sum is less by its grant -/
theorem msum_rm (h44 : ∀ j, j < s → f'.1 44 j = f.1 44 j) (h45 : ∀ j, j < s → f'.2 45 j = f.2 45 j) : ∀ r, (∀ j, s ≤ j → j < s + r → f'.1 44 j = f.1 44 (j + 1) ∧ f'.2 45 j = f.2 45 (j + 1)) → msum f' i (s + r) = msum f i (s + r + 1) - if (f.1 44 s).toInt = (i : Int) then (f.2 45 s).toInt else 0
  | 0, _ => by
    have e : msum f' i s = msum f i s := msum_eq h44 h45
    rw [Nat.add_zero, e, msum_s]
    omega
  | r + 1, h => by
    have ih := msum_rm h44 h45 r (fun j j1 j2 => h j j1 (by omega))
    obtain ⟨e1, e2⟩ := h (s + r) (by omega) (by omega)
    rw [show s + (r + 1) = s + r + 1 by omega, msum_s (f := f'), msum_s (m := s + r + 1), ih, e1, e2]
    omega
/-- the grant of one SESSION changes -/
theorem msum_set (h44 : ∀ j, f'.1 44 j = f.1 44 j) (h45 : ∀ j, j ≠ s → f'.2 45 j = f.2 45 j) : ∀ m, msum f' i m = msum f i m + if s < m ∧ (f.1 44 s).toInt = (i : Int) then (f'.2 45 s).toInt - (f.2 45 s).toInt else 0
  | 0 => by
    rw [if_neg (by omega)]
    rfl
  | m + 1 => by
    have ih := msum_set h44 h45 m
    rw [msum_s, msum_s, ih, h44]
    by_cases e : m = s
    · rw [e]
      by_cases e2 : (f.1 44 s).toInt = (i : Int)
      · rw [if_neg (by omega), if_pos e2, if_pos e2, if_pos ⟨by omega, e2⟩]
        omega
      · rw [if_neg (by omega), if_neg e2, if_neg e2, if_neg (by omega)]
    · rw [h45 m e]
      have e3 : (if s < m ∧ (f.1 44 s).toInt = (i : Int) then (f'.2 45 s).toInt - (f.2 45 s).toInt else 0) = (if s < m + 1 ∧ (f.1 44 s).toInt = (i : Int) then (f'.2 45 s).toInt - (f.2 45 s).toInt else 0) := by
        by_cases e2 : s < m ∧ (f.1 44 s).toInt = (i : Int)
        · rw [if_pos e2, if_pos (by omega)]
        · rw [if_neg e2, if_neg (by omega)]
      rw [e3]
      omega
theorem msum_nn (h : ∀ j, j < m → 0 ≤ (f.2 45 j).toInt) : 0 ≤ msum f i m ∧ ∀ j, j < m → (f.1 44 j).toInt = (i : Int) → (f.2 45 j).toInt ≤ msum f i m := by
  induction m with
  | zero => exact ⟨Int.le_refl _, fun j hj => by omega⟩
  | succ m ih =>
    obtain ⟨i1, i2⟩ := ih (fun j hj => h j (by omega))
    have hm := h m (by omega)
    have e : msum f i (m + 1) = msum f i m + if (f.1 44 m).toInt = (i : Int) then (f.2 45 m).toInt else 0 := rfl
    rw [e]
    refine ⟨?_, fun j hj hj2 => ?_⟩
    · split <;> omega
    · by_cases ej : j = m
      · rw [ej] at hj2 ⊢
        rw [if_pos hj2]
        omega
      · have := i2 j (by omega) hj2
        split <;> omega
def MI (f : jx_F) : Prop := PJ_m f ∧ (f.1 35 0).toInt ≤ 16 ∧ (f.1 40 0).toInt ≤ 16
theorem MI.of (h : MI f) (h35 : f'.1 35 0 = f.1 35 0) (h40 : f'.1 40 0 = f.1 40 0) (h44 : ∀ s, f'.1 44 s = f.1 44 s) (hl : ∀ q j, q = 37 ∨ q = 38 ∨ q = 45 → f'.2 q j = f.2 q j) : MI f' := ⟨h.1.of h35 h40 (fun s _ => h44 s) (fun s _ => hl 45 s (by omega)) (fun i _ => ⟨hl 37 i (by omega), hl 38 i (by omega)⟩), by rw [h35]; exact h.2.1, by rw [h40]; exact h.2.2⟩
theorem MI.ac (h : MI f) (hm : (f.1 40 0).toInt = (m : Int)) (hs : s < m) : ∃ x : Nat, (f.1 35 0).toInt = (x : Int) ∧ x ≤ 16 ∧ R_acn f s < x ∧ (f.1 44 s).toInt = ((R_acn f s : Nat) : Int) := by
  obtain ⟨⟨x, m', x1, m1, h1, -⟩, h2, -⟩ := h
  obtain ⟨i, i1, i2, -⟩ := h1 s (by omega)
  have e : R_acn f s = i := i32_nat i1
  exact ⟨x, x1, by omega, by omega, by rw [e]; exact i1⟩
/-- the grant of one SESSION is free -/
theorem rsv_v (h : MI f) (hm : (f.1 40 0).toInt = (m : Int)) (hs : s < m) : ((R_rsv f s).2 38 (R_acn f s)).toInt = (f.2 38 (R_acn f s)).toInt - (f.2 45 s).toInt ∧ 0 ≤ (f.2 45 s).toInt ∧ (f.2 45 s).toInt ≤ (f.2 38 (R_acn f s)).toInt ∧ (f.2 38 (R_acn f s)).toInt ≤ 1152921504606846976 := by
  obtain ⟨x, x1, x2, x3, x4⟩ := h.ac hm hs
  obtain ⟨⟨x', m', e1, e2, h1, h2⟩, -, -⟩ := h
  have ex : x' = x := by omega
  have em : m' = m := by omega
  rw [ex] at h2
  rw [em] at h1 h2
  obtain ⟨i, -, -, i3, i4⟩ := h1 s hs
  obtain ⟨j1, j2, j3, j4⟩ := h2 (R_acn f s) x3
  have := (msum_nn (f := f) (i := R_acn f s) (m := m) (fun j hj => by obtain ⟨_, _, _, z, _⟩ := h1 j hj; exact z)).2 s hs x4
  refine ⟨?_, i3, by omega, by omega⟩
  unfold R_rsv
  rw [rf_ul_eq]
  exact i64_sub rfl rfl (by omega) (by omega)
theorem MI.ets (h : MI f) (hm : (f.1 40 0).toInt = (m : Int)) (hs : s < m) : MI (R_forget (R_rsv f s) m s) := by
  obtain ⟨x, x1, x2, x3, x4⟩ := h.ac hm hs
  obtain ⟨w1, w2, w3, w4⟩ := rsv_v h hm hs
  have h16 := h.2.2
  obtain ⟨⟨x', m', e1, e2, h1, h2⟩, -, -⟩ := h
  have ex : x' = x := by omega
  have em : m' = m := by omega
  rw [ex] at h1 h2
  rw [em] at h1 h2
  obtain ⟨F, hF⟩ : ∃ F, F = R_forget (R_rsv f s) m s := ⟨_, rfl⟩
  rw [← hF]
  have o1 : (R_rsv f s).1 = f.1 := rfl
  have l1 : ∀ q j, ¬ (q = 38 ∧ j = R_acn f s) → (R_rsv f s).2 q j = f.2 q j := fun q j z => rf_ul_ne z
  have F35 : F.1 35 0 = f.1 35 0 := by rw [hF, fg_o (by omega), o1]
  have F40 : (F.1 40 0).toInt = ((m - 1 : Nat) : Int) := by
    rw [hF, fg_40, o1]
    exact i32_59 (n := m - 1) (by rw [hm]; omega)
  have F44 : ∀ j, j + 1 < m → s ≤ j → F.1 44 j = f.1 44 (j + 1) := fun j j1 j2 => by rw [hF, fg_i (by omega) j2 j1, o1]
  have F44o : ∀ j, j < s → F.1 44 j = f.1 44 j := fun j j1 => by rw [hF, fg_io (by omega) j1, o1]
  have F45 : ∀ j, j + 1 < m → s ≤ j → F.2 45 j = f.2 45 (j + 1) := fun j j1 j2 => by rw [hF, fg_2 (by omega) j2 j1, l1 _ _ (by omega)]
  have F45o : ∀ j, j < s → F.2 45 j = f.2 45 j := fun j j1 => by rw [hF, fg_2o (by omega) j1, l1 _ _ (by omega)]
  have F37 : ∀ j, F.2 37 j = f.2 37 j := fun j => by rw [hF, fg_l (by omega), l1 _ _ (by omega)]
  have F38 : ∀ j, F.2 38 j = (R_rsv f s).2 38 j := fun j => by rw [hF, fg_l (by omega)]
  refine ⟨⟨x, m - 1, by rw [F35]; exact x1, F40, fun j hj => ?_, fun i hi => ?_⟩, by rw [F35]; omega, by rw [F40]; omega⟩
  · by_cases z : s ≤ j
    · rw [F44 j (by omega) z, F45 j (by omega) z]
      exact h1 (j + 1) (by omega)
    · rw [F44o j (by omega), F45o j (by omega)]
      exact h1 j (by omega)
  · have ms : msum F i (m - 1) = msum f i m - if (f.1 44 s).toInt = (i : Int) then (f.2 45 s).toInt else 0 := by
      have := msum_rm (f := f) (f' := F) (i := i) (s := s) F44o F45o (m - 1 - s) (fun j j1 j2 => ⟨F44 j (by omega) j1, F45 j (by omega) j1⟩)
      rwa [show s + (m - 1 - s) = m - 1 by omega, show m - 1 + 1 = m by omega] at this
    obtain ⟨k1, k2, k3, k4⟩ := h2 i hi
    rw [F37, F38, ms]
    by_cases e : i = R_acn f s
    · rw [e] at k1 k2 k3 k4 ⊢
      rw [if_pos x4, w1, k3]
      rw [k3] at k4
      refine ⟨k1, k2, rfl, by omega⟩
    · rw [l1 38 i (by omega), if_neg (by omega)]
      exact ⟨k1, k2, by omega, k4⟩
end JxMoney
