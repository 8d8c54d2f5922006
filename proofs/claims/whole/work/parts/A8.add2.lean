/-! THE JDK'S LISTS: a longer row -/
section JxAdd2
variable {th : Nat → Nat} {d L E : Nat} {σ : jx_S}
/-- all that stand in the row are objects that a list may bear, made before -/
def els (σ : jx_S) (g : Nat → Option Nat) (n : Nat) : Prop := ∀ i, i < n → ∃ (y ci : Nat) (fs : List Value), g i = some y ∧ y < σ.2.1 ∧ σ.1 y = some (.inr (ci, fs)) ∧ ci ∈ [6, 8, 9, 10, 11]
theorem jx_copyr_of {D n n' : Nat} {g g0 : Nat → Option Nat} {m : Int32} (hE : σ.1 E = some (.inl (4, n, .inr (.inr (.inr (.inr g)))))) (hD : σ.1 D = some (.inl (4, n', .inr (.inr (.inr (.inr g0)))))) (hm : m.toInt = (n : Int)) (hn : n ≤ n') (hel : ∀ i, i < n → ∃ (y ci : Nat) (fs : List Value), g i = some y ∧ σ.1 y = some (.inr (ci, fs)) ∧ ci ∈ [6, 8, 9, 10, 11]) : jx_copy σ E 0 D 0 m = some (jx_up σ D (.inl (4, n', .inr (.inr (.inr (.inr (va_cpy g g0 0 0 n))))))) := by
  unfold jx_copy
  rw [hE, hD]
  have hmn := i32_nat hm
  have h0 : (0 : Int32).toNatClampNeg = 0 := by decide
  have hm0 : ¬ m < 0 := by rw [Int32.lt_iff_toInt_lt, hm]; simp
  simp only [h0, hmn]
  rw [if_pos]
  refine ⟨trivial, trivial, ⟨by decide, by decide, hm0⟩, ⟨by omega, by omega⟩, fun i hi => ?_⟩
  obtain ⟨y, ci, fs, e1, e2, e3⟩ := hel i hi
  rw [Nat.zero_add, e1]
  simp only
  rw [e2]
  simp only
  exact decide_eq_true e3
theorem k_copy3 {n n' : Nat} {g : Nat → Option Nat} (hE : σ.1 E = some (.inl (4, n, .inr (.inr (.inr (.inr g)))))) (hl : E < σ.2.1) (hn : n ≤ n') (hn' : n' ≤ 1000) (hel : els σ g n) : jc th (d + 1) 38 [.ref E, .int (Int32.ofNat n'), .ref (th 100)] σ (fun r σ' => r = some (.ref σ.2.1) ∧ σ' = jx_up (jx_mk σ (.inl (4, n', jx_emp 4)) n') σ.2.1 (.inl (4, n', .inr (.inr (.inr (.inr (va_cpy g (fun _ => none) 0 0 n))))))) := by
  have hi : (Int32.ofNat n').toInt = (n' : Int) := i32_ofNat (by omega)
  have hin := i32_nat hi
  have hmk : (jx_mk σ (.inl (4, n', jx_emp 4)) n').1 E = some (.inl (4, n, .inr (.inr (.inr (.inr g))))) := by rw [jx_mk_ne (by omega)]; exact hE
  refine cl_go dt_38 60 [] dt_38_k rfl ?_
  intro C J hC hJ
  conv => whnf
  refine jx_yes (show th 100 = th 100 from rfl) ?_
  conv => whnf
  refine ⟨fun z => ?_, ?_⟩
  · rcases z with z | z
    · rw [Int32.lt_iff_toInt_lt, hi] at z
      simp at z
      omega
    · rw [hin] at z
      omega
  rw [hin]
  conv => whnf
  refine ⟨_, jx_al_of hmk, ?_⟩
  conv => whnf
  have emin : (if Int32.ofNat n' < Int32.ofNat n then Int32.ofNat n' else Int32.ofNat n) = Int32.ofNat n := if_neg (fun z => by
    rw [Int32.lt_iff_toInt_lt, hi, i32_ofNat (by omega)] at z
    omega)
  rw [emin]
  refine ⟨_, jx_copyr_of hmk jx_mk_eq (i32_ofNat (by omega)) hn (fun i hi => ?_), ?_⟩
  · obtain ⟨y, ci, fs, e1, e2, e3, e4⟩ := hel i hi
    exact ⟨y, ci, fs, e1, by rw [jx_mk_ne (by omega)]; exact e3, e4⟩
  conv => whnf
  exact ⟨rfl, rfl⟩
theorem k_copy2 {n n' : Nat} {g : Nat → Option Nat} (hE : σ.1 E = some (.inl (4, n, .inr (.inr (.inr (.inr g)))))) (hl : E < σ.2.1) (hn : n ≤ n') (hn' : n' ≤ 1000) (hel : els σ g n) : jc th (d + 2) 37 [.ref E, .int (Int32.ofNat n')] σ (fun r σ' => r = some (.ref σ.2.1) ∧ σ' = jx_up (jx_mk σ (.inl (4, n', jx_emp 4)) n') σ.2.1 (.inl (4, n', .inr (.inr (.inr (.inr (va_cpy g (fun _ => none) 0 0 n))))))) := by
  refine cl_go dt_37 40 [] dt_37_k rfl ?_
  intro C J hC hJ
  conv => whnf
  refine ⟨_, hE, ?_⟩
  conv => whnf
  refine hC _ _ _ _ ((k_copy3 hE hl hn hn' hel).mp ?_)
  rintro r σ1 ⟨rfl, hs1⟩
  conv => whnf
  exact ⟨rfl, hs1⟩
end JxAdd2
