/-! THE JDK'S LISTS: their size, their elements -/
theorem jx_swd_i {x : Int32} {P : Prop} : ∀ {sw : List (Int32 × Nat)}, ((∀ q ∈ sw, ¬ x = q.1) → P) → jx_swd sw x P
  | [], h => h (fun q hq => absurd hq List.not_mem_nil)
  | (k, t) :: r, h => fun hk => jx_swd_i (fun h2 => h (List.forall_mem_cons.mpr ⟨hk, h2⟩))
section JxJdk2
variable {th : Nat → Nat} {d B L E t : Nat} {σ : jx_S} {T : Nat → Nat} {xs : List Nat}
theorem k_size {e mc : Value} {n : Int32} (h : σ.1 L = some (.inr (1, [e, .int n, mc]))) : jc th (d + 1) 24 [.ref L] σ (fun r σ' => r = some (.int n) ∧ σ' = σ) := by
  refine cl_go dt_24 20 [] dt_24_k rfl ?_
  intro C J hC hJ
  conv => whnf
  refine ⟨_, jx_getF_of h rfl, ?_⟩
  conv => whnf
  exact ⟨rfl, rfl⟩
theorem k_isEmpty {e mc : Value} {n : Int32} (h : σ.1 L = some (.inr (1, [e, .int n, mc]))) : jc th (d + 1) 18 [.ref L] σ (fun r σ' => ((r = some (.int 1) ∧ n = 0) ∨ (r = some (.int 0) ∧ ¬ n = 0)) ∧ σ' = σ) := by
  refine cl_go dt_18 20 [] dt_18_k rfl ?_
  intro C J hC hJ
  conv => whnf
  refine ⟨_, jx_getF_of h rfl, ?_⟩
  conv => whnf
  refine ⟨fun (h1 : ¬ n = 0) => ?_, fun (h1 : ¬ ¬ n = 0) => ?_⟩
  · conv => whnf
    exact ⟨Or.inl rfl, Or.inr ⟨rfl, h1⟩, rfl⟩
  · conv => whnf
    exact ⟨Or.inr rfl, Or.inl ⟨rfl, Decidable.not_not.mp h1⟩, rfl⟩
theorem k_pre {i n : Int32} (h1 : ¬ i < 0) (h2 : i < n) : jc th (d + 1) 27 [.int i, .int n, .null] σ (fun r σ' => r = some (.int i) ∧ σ' = σ) := by
  refine cl_go dt_27 20 [] dt_27_k rfl ?_
  intro C J hC hJ
  conv => whnf
  refine jx_no h1 ?_
  conv => whnf
  refine jx_yes h2 ?_
  conv => whnf
  exact ⟨rfl, rfl⟩
theorem k_chk {i n : Int32} (h1 : ¬ i < 0) (h2 : i < n) : jc th (d + 2) 26 [.int i, .int n] σ (fun r σ' => r = some (.int i) ∧ σ' = σ) := by
  refine cl_go dt_26 20 [] dt_26_k rfl ?_
  intro C J hC hJ
  conv => whnf
  refine hC _ _ _ _ ((k_pre h1 h2).mp ?_)
  rintro r σ1 ⟨rfl, rfl⟩
  conv => whnf
  exact ⟨rfl, rfl⟩
theorem k_get {i : Int32} {k x : Nat} (h : al_at th B σ T L E t xs) (hi : i.toInt = (k : Int)) (hx : xs[k]? = some x) : jc th (d + 3) 25 [.ref L, .int i] σ (fun r σ' => r = some (.ref x) ∧ σ' = σ) := by
  obtain ⟨⟨mc, h1⟩, h2⟩ := h
  have hk : k < xs.length := (List.getElem?_eq_some_iff.mp hx).1
  rcases h2 with ⟨-, rfl⟩ | ⟨hd, cap, g, h3, h4, h5, h7⟩
  · cases hx
  · have h6 : cap ≤ 73 := by
      simp only [List.mem_cons, List.not_mem_nil, or_false] at h5
      omega
    refine cl_go dt_25 20 [] dt_25_k rfl ?_
    intro C J hC hJ
    conv => whnf
    refine ⟨_, jx_getF_of h1 rfl, ?_⟩
    conv => whnf
    have hi0 : ¬ i < 0 := by rw [Int32.lt_iff_toInt_lt, hi]; simp
    have hin : i < Int32.ofNat xs.length := by
      rw [Int32.lt_iff_toInt_lt, hi, i32_ofNat (by omega)]
      omega
    refine hC _ _ _ _ ((k_chk hi0 hin).mp ?_)
    rintro r σ1 ⟨rfl, hs1⟩
    rw [hs1]
    conv => whnf
    refine ⟨jx_isC_of h1, hC _ _ _ _ ?_⟩
    have he : jc th (d + 2) 28 [.ref L, .int i] σ (fun r σ' => r = some (.ref x) ∧ σ' = σ) := by
      refine jc.up (d := d + 1) ?_ (by omega)
      refine cl_go dt_28 20 [] dt_28_k rfl ?_
      intro C J hC hJ
      conv => whnf
      refine ⟨_, jx_getF_of h1 rfl, ?_⟩
      conv => whnf
      refine ⟨_, jx_ald_of h3 (Or.inl rfl) hi (by omega), ?_⟩
      rw [h7 k x hx]
      conv => whnf
      exact ⟨rfl, rfl⟩
    refine he.mp ?_
    rintro r σ1 ⟨rfl, rfl⟩
    conv => whnf
    exact ⟨rfl, rfl⟩
end JxJdk2
