/-! THE JDK'S LISTS: one more element -/
def cap' (n : Nat) : Nat := n + n / 2
section JxAdd
variable {th : Nat → Nat} {d B L E t : Nat} {σ : jx_S} {T : Nat → Nat} {xs : List Nat}
theorem k_newLength {n : Nat} (h : n ∈ [10, 15, 22, 33, 49]) : jc th (d + 1) 35 [.int (Int32.ofNat n), .int 1, .int (Int32.ofNat n >>> 1)] σ (fun r σ' => r = some (.int (Int32.ofNat (cap' n))) ∧ σ' = σ) := by
  have hv : ∀ x, x = (Int32.ofNat n + if (1 : Int32) < Int32.ofNat n >>> 1 then Int32.ofNat n >>> 1 else 1) → x = Int32.ofNat (cap' n) ∧ ¬ x ≤ 0 ∧ ¬ (2147483639 : Int32) < x := by
    intro x hx
    subst hx
    simp only [List.mem_cons, List.not_mem_nil, or_false] at h
    rcases h with rfl | rfl | rfl | rfl | rfl <;> decide
  obtain ⟨h1, h2, h3⟩ := hv _ rfl
  refine cl_go dt_35 40 [] dt_35_k rfl ?_
  intro C J hC hJ
  conv => whnf
  refine jx_no h2 ?_
  conv => whnf
  refine jx_no h3 ?_
  conv => whnf
  exact ⟨congrArg (fun x => some (Value.int x)) h1, rfl⟩
theorem k_grow0 {mc : Value} (hL : σ.1 L = some (.inr (1, [.ref (th 1), .int 0, mc]))) (hl : L < σ.2.1) (hS : σ.1 (th 1) = some jx_co) : jc th (d + 2) 33 [.ref L] σ (fun r σ' => r = some (.ref σ.2.1) ∧ σ' = jx_up (jx_mk σ (.inl (4, 10, jx_emp 4)) 10) L (.inr (1, [.ref σ.2.1, .int 0, mc]))) := by
  have hne : (jx_mk σ (.inl (4, 10, jx_emp 4)) 10).1 L = some (.inr (1, [.ref (th 1), .int 0, mc])) := by rw [jx_mk_ne (by omega)]; exact hL
  have hg : jc th (d + 1) 34 [.ref L, .int (0 + 1)] σ (fun r σ' => r = some (.ref σ.2.1) ∧ σ' = jx_up (jx_mk σ (.inl (4, 10, jx_emp 4)) 10) L (.inr (1, [.ref σ.2.1, .int 0, mc]))) := by
    refine cl_go dt_34 60 [] dt_34_k rfl ?_
    intro C J hC hJ
    conv => whnf
    refine ⟨_, jx_getF_of hL rfl, ?_⟩
    conv => whnf
    refine ⟨_, jx_al_of hS, ?_⟩
    conv => whnf
    refine jx_no (show ¬ (0 : Int32) < Int32.ofNat 0 by decide) ?_
    conv => whnf
    refine ⟨_, jx_getF_of hL rfl, ?_⟩
    conv => whnf
    refine jx_yes (show th 1 = th 1 from rfl) ?_
    conv => whnf
    refine ⟨by decide, ?_⟩
    conv => whnf
    refine ⟨_, jx_putB hne rfl (fit_a _ rfl), ?_⟩
    conv => whnf
    exact ⟨rfl, rfl⟩
  refine cl_go dt_33 60 [] dt_33_k rfl ?_
  intro C J hC hJ
  conv => whnf
  refine ⟨_, jx_getF_of hL rfl, ?_⟩
  conv => whnf
  refine ⟨jx_isC_of hL, hC _ _ _ _ (hg.mp ?_)⟩
  rintro r σ1 ⟨rfl, hs1⟩
  conv => whnf
  exact ⟨rfl, hs1⟩
theorem jx_ast_of {a n j2 x ci : Nat} {g : Nat → Option Nat} {fs : List Value} {j : Int32} (h : σ.1 a = some (.inl (4, n, .inr (.inr (.inr (.inr g)))))) (hj : j.toInt = (j2 : Int)) (hk : j2 < n) (hx : σ.1 x = some (.inr (ci, fs))) (hc : ci ∈ [6, 8, 9, 10, 11]) : jx_ast σ a j (.ref x) = some (jx_up σ a (.inl (4, n, .inr (.inr (.inr (.inr (va_up g j2 (some x)))))))) := by
  unfold jx_ast
  rw [h]
  have h0 : ¬ j < 0 := by rw [Int32.lt_iff_toInt_lt, hj]; simp
  simp only
  rw [if_pos ⟨Or.inl trivial, fun z => by rcases z with z | z; exact h0 z; rw [i32_nat hj] at z; omega⟩, hx]
  simp only
  rw [if_pos (Or.inr ⟨trivial, hc⟩), i32_nat hj]
/-- an element is laid where there is room for it, and the size told -/
theorem k_lay {x ci n k : Nat} {g : Nat → Option Nat} {fs : List Value} {sz mc : Value} {i : Int32} (hL : σ.1 L = some (.inr (1, [.ref E, sz, mc]))) (hE : σ.1 E = some (.inl (4, n, .inr (.inr (.inr (.inr g)))))) (hLE : L ≠ E) (hi : i.toInt = (k : Int)) (hk : k < n) (hx : σ.1 x = some (.inr (ci, fs))) (hc : ci ∈ [6, 8, 9, 10, 11]) {Q : Option Value → jx_S → Prop} (hQ : Q none (jx_up (jx_up σ E (.inl (4, n, .inr (.inr (.inr (.inr (va_up g k (some x)))))))) L (.inr (1, [.ref E, .int (i + 1), mc])))) : cl_fj th d 32 11 [(0, .ref L), (1, .ref x), (2, .ref E), (3, .int i)] [] σ Q := by
  refine cl_at dt_32 40 [] dt_32_k ?_
  intro C J hC hJ
  conv => whnf
  refine ⟨_, jx_ast_of hE hi hk hx hc, ?_⟩
  conv => whnf
  refine ⟨_, jx_putB (by rw [jx_up_ne hLE]; exact hL) rfl (fit_i _), ?_⟩
  conv => whnf
  exact hQ
end JxAdd
