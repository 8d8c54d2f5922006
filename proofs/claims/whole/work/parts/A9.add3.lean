/-! THE JDK'S LISTS: add -/
section JxAdd3
variable {th : Nat → Nat} {d B L E t : Nat} {σ : jx_S} {T : Nat → Nat} {xs : List Nat}
theorem k_grow1 {n : Nat} {g : Nat → Option Nat} {mc : Value} (hL : σ.1 L = some (.inr (1, [.ref E, .int (Int32.ofNat n), mc]))) (hE : σ.1 E = some (.inl (4, n, .inr (.inr (.inr (.inr g)))))) (hl : L < σ.2.1) (hl2 : E < σ.2.1) (hn : n ∈ [10, 15, 22, 33, 49]) (hel : els σ g n) : jc th (d + 4) 33 [.ref L] σ (fun r σ' => r = some (.ref σ.2.1) ∧ σ' = jx_up (jx_up (jx_mk σ (.inl (4, cap' n, jx_emp 4)) (cap' n)) σ.2.1 (.inl (4, cap' n, .inr (.inr (.inr (.inr (va_cpy g (fun _ => none) 0 0 n))))))) L (.inr (1, [.ref σ.2.1, .int (Int32.ofNat n), mc]))) := by
  have hb : n ≤ cap' n ∧ cap' n ≤ 1000 ∧ 0 < n := by
    unfold cap'
    simp only [List.mem_cons, List.not_mem_nil, or_false] at hn
    omega
  have e1 : Int32.ofNat n + 1 - Int32.ofNat n = 1 := by rw [Int32.add_comm, Int32.add_sub_cancel]
  have e2 : ((1 : Int32) &&& 31) = 1 := by decide
  have hk : jc th (d + 2) 35 [.int (Int32.ofNat n), .int (Int32.ofNat n + 1 - Int32.ofNat n), .int (Int32.ofNat n >>> ((1 : Int32) &&& 31))] σ (fun r σ' => r = some (.int (Int32.ofNat (cap' n))) ∧ σ' = σ) := by
    rw [e1, e2]
    exact (k_newLength hn).up (show d + 1 ≤ d + 2 by omega)
  have hg : jc th (d + 3) 34 [.ref L, .int (Int32.ofNat n + 1)] σ (fun r σ' => r = some (.ref σ.2.1) ∧ σ' = jx_up (jx_up (jx_mk σ (.inl (4, cap' n, jx_emp 4)) (cap' n)) σ.2.1 (.inl (4, cap' n, .inr (.inr (.inr (.inr (va_cpy g (fun _ => none) 0 0 n))))))) L (.inr (1, [.ref σ.2.1, .int (Int32.ofNat n), mc]))) := by
    refine cl_go dt_34 60 [] dt_34_k rfl ?_
    intro C J hC hJ
    conv => whnf
    refine ⟨_, jx_getF_of hL rfl, ?_⟩
    conv => whnf
    refine ⟨_, jx_al_of hE, ?_⟩
    conv => whnf
    refine jx_yes (show (0 : Int32) < Int32.ofNat n by rw [Int32.lt_iff_toInt_lt, i32_ofNat (by omega)]; simp; omega) ?_
    conv => whnf
    refine hC _ _ _ _ (hk.mp ?_)
    rintro r σ1 ⟨rfl, hs1⟩
    rw [hs1]
    conv => whnf
    refine ⟨_, jx_getF_of hL rfl, ?_⟩
    conv => whnf
    refine hC _ _ _ _ ((k_copy2 hE hl2 hb.1 hb.2.1 hel).mp ?_)
    rintro r σ2 ⟨rfl, hs2⟩
    rw [hs2]
    conv => whnf
    refine ⟨_, jx_putB (by rw [jx_up_ne (by omega), jx_mk_ne (by omega)]; exact hL) rfl (fit_a _ rfl), ?_⟩
    conv => whnf
    exact ⟨rfl, rfl⟩
  refine cl_go dt_33 60 [] dt_33_k rfl ?_
  intro C J hC hJ
  conv => whnf
  refine ⟨_, jx_getF_of hL rfl, ?_⟩
  conv => whnf
  refine ⟨jx_isC_of hL, hC _ _ _ _ (hg.mp ?_)⟩
  rintro r σ1 ⟨rfl, hs1⟩
  conv => whnf
  exact ⟨rfl, hs1⟩
/-- a list behind an addition: its row may be a new one -/
def added (th : Nat → Nat) (B : Nat) (σ σ' : jx_S) (T : Nat → Nat) (L E t : Nat) (ys : List Nat) : Prop := ∃ (E' : Nat) (T' : Nat → Nat), al_at th B σ' T' L E' t ys ∧ chg (fun a => a = L ∨ (a = E ∧ B + 102 ≤ a)) σ σ' T T' ∧ σ'.2.1 ≤ σ.2.1 + 1 ∧ σ'.2.2 ≤ σ.2.2 + 200 ∧ (E' = E ∨ E' = σ.2.1) ∧ ∀ a, a ≠ σ.2.1 → T' a = T a
theorem added_in {n x : Nat} {g : Nat → Option Nat} {mc i : Int32} (hB : B + 102 ≤ σ.2.1) (hLB : L < B + 39) (hd : dy B σ T E t) (hlen : xs.length < n) (hn : n ∈ [10, 15, 22, 33, 49, 73]) (hg : ∀ i x, xs[i]? = some x → g i = some x) (hi : i.toInt = (xs.length : Int)) : added th B σ (jx_up (jx_up σ E (.inl (4, n, .inr (.inr (.inr (.inr (va_up g xs.length (some x)))))))) L (.inr (1, [.ref E, .int (i + 1), .int mc]))) T L E t (xs ++ [x]) := by
  have hLE : L ≠ E := by have := hd.1; omega
  have hn73 : n ≤ 73 := by
    simp only [List.mem_cons, List.not_mem_nil, or_false] at hn
    omega
  refine ⟨E, T, ⟨⟨mc, ?_⟩, Or.inr ⟨hd, n, _, by rw [jx_up_ne (Ne.symm hLE)]; exact jx_up_eq, by rw [List.length_append]; simp; omega, hn, fun j y hy => ?_⟩⟩, ⟨fun a ha hw => ?_, Nat.le_refl _, fun _ _ => rfl⟩, by show σ.2.1 ≤ _; omega, by show σ.2.2 ≤ _; omega, Or.inl rfl, fun _ _ => rfl⟩
  · have e : i + 1 = Int32.ofNat (xs ++ [x]).length := Int32.toInt_inj.mp (by rw [i32_add (c := 1) hi (by decide) (by omega) (by omega), i32_ofNat (by rw [List.length_append]; simp; omega), List.length_append]; simp)
    rw [← e]
    exact jx_up_eq
  · unfold va_up
    by_cases hj : j = xs.length
    · rw [hj] at hy
      rw [if_pos hj]
      simpa using hy
    · rw [if_neg hj]
      refine hg j y ?_
      have hjl : j < xs.length := by
        have := (List.getElem?_eq_some_iff.mp hy).1
        simp at this
        omega
      rw [List.getElem?_append_left hjl] at hy
      exact hy
  · have h1 : a ≠ L := fun e => hw (Or.inl e)
    have h2 : a ≠ E := fun e => hw (Or.inr ⟨e, by rw [e]; exact hd.1⟩)
    rw [jx_up_ne h1, jx_up_ne h2]
end JxAdd3
