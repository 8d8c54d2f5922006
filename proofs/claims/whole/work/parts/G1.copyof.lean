/-! THE JDK: Arrays.copyOf of octets, of ints -/
section JxCopyof
variable {th : Nat → Nat} {d X n m : Nat} {σ : jx_S} {h : Nat → Int32} {nv : Int32}
theorem cast_a {a o idx t k : Nat} {y : jx_Y} {σ : jx_S} (hs : σ.1 a = some (.inl (t, k, y))) (ht : t < 2) (hc : tb_ca o idx = some t) : jx_cast σ o idx (.ref a) = true := by
  unfold jx_cast
  simp only
  rw [hs]
  exact decide_eq_true ⟨ht, hc⟩
theorem copy_p {a0 a n0 n1 c t : Nat} {f g : Nat → Int32} {mv : Int32} {σ : jx_S} (h0 : σ.1 a0 = some (.inl (t, n0, .inl f))) (h1 : σ.1 a = some (.inl (t, n1, .inl g))) (ht : t < 2) (hm : mv.toInt = (c : Int)) (hn0 : c ≤ n0) (hn1 : c ≤ n1) : jx_copy σ a0 0 a 0 mv = some (jx_up σ a (.inl (t, n1, .inl (va_cpy f g 0 0 c)))) := by
  unfold jx_copy
  rw [h0, h1]
  have z : ¬ mv < 0 := by rw [Int32.lt_iff_toInt_lt, hm]; simp
  have e0 : (0 : Int32).toNatClampNeg = 0 := by decide
  simp only [i32_nat hm, e0]
  rw [if_pos ⟨trivial, ht, ⟨by decide, by decide, z⟩, by omega, by omega⟩]
theorem min_n (hm : nv.toInt = (m : Int)) (hmn : m ≤ n) (hn : n ≤ 600) : (if nv < Int32.ofNat n then nv else Int32.ofNat n).toInt = (m : Int) := by
  split
  · exact hm
  · rename_i z
    rw [Int32.lt_iff_toInt_lt, hm, i32_ofNat (by omega)] at z
    rw [i32_ofNat (by omega)]
    omega
theorem k_copyOf0 (hX : σ.1 X = some (.inl (0, n, .inl h))) (hXl : X < σ.2.1) (hm : nv.toInt = (m : Int)) (hmn : m ≤ n) (hn : n ≤ 600) : jc th (d + 1) 20 [.ref X, .int nv] σ (fun r σ' => r = some (.ref σ.2.1) ∧ (∃ g : Nat → Int32, σ'.1 σ.2.1 = some (.inl (0, m, .inl g)) ∧ ∀ j, j < m → g j = h j) ∧ (∀ a, a ≠ σ.2.1 → σ'.1 a = σ.1 a) ∧ σ'.2.1 = σ.2.1 + 1 ∧ σ'.2.2 = σ.2.2 + m) := by
  refine cl_go dt_20 60 [] dt_20_k rfl ?_
  intro C J hC hJ
  conv => whnf
  refine ⟨_, jx_al_of (hX), ?_⟩
  conv => whnf
  by_cases e : m = n
  · refine jx_no (show ¬ ¬ nv = Int32.ofNat n from fun z => z (Int32.toInt_inj.mp (by rw [hm, i32_ofNat (by omega), e]))) ?_
    conv => whnf
    refine ⟨(.ref σ.2.1, jx_mk σ (.inl (0, n, .inl h)) n), by unfold jx_clone; rw [hX]; rfl, ?_⟩
    conv => whnf
    refine ⟨cast_a (t := 0) jx_mk_eq (by omega) (by decide +kernel), ?_⟩
    conv => whnf
    exact ⟨rfl, ⟨h, by rw [e]; exact jx_mk_eq, fun _ _ => rfl⟩, fun a ha => jx_mk_ne ha, rfl, by rw [e]; rfl⟩
  · refine jx_yes (show ¬ nv = Int32.ofNat n from fun z => e (by have := congrArg Int32.toInt z; rw [hm, i32_ofNat (by omega)] at this; omega)) ?_
    conv => whnf
    refine ⟨fun z => ?_, ?_⟩
    · rcases z with z | z
      · rw [Int32.lt_iff_toInt_lt, hm] at z
        simp at z
        omega
      · rw [i32_nat hm] at z
        omega
    · conv => whnf
      have hl : nv.toNatClampNeg = m := i32_nat hm
      rw [hl]
      have hX1 : (jx_mk σ (.inl (0, m, jx_emp 0)) m).1 X = some (.inl (0, n, .inl h)) := by rw [jx_mk_ne (by omega)]; exact hX
      have hN1 : (jx_mk σ (.inl (0, m, jx_emp 0)) m).1 σ.2.1 = some (.inl (0, m, .inl (fun _ => 0))) := jx_mk_eq
      refine ⟨_, jx_al_of hX1, ?_⟩
      conv => whnf
      refine ⟨_, copy_p hX1 hN1 (by omega) (min_n hm hmn hn) hmn (Nat.le_refl _), ?_⟩
      conv => whnf
      refine ⟨rfl, ⟨_, jx_up_eq, fun j hj => ?_⟩, fun a ha => by rw [jx_up_ne ha, jx_mk_ne ha], rfl, rfl⟩
      unfold va_cpy
      rw [if_pos ⟨by omega, by omega⟩, Nat.zero_add, Nat.sub_zero]
theorem k_copyOf1 (hX : σ.1 X = some (.inl (1, n, .inl h))) (hXl : X < σ.2.1) (hm : nv.toInt = (m : Int)) (hmn : m ≤ n) (hn : n ≤ 600) : jc th (d + 1) 14 [.ref X, .int nv] σ (fun r σ' => r = some (.ref σ.2.1) ∧ (∃ g : Nat → Int32, σ'.1 σ.2.1 = some (.inl (1, m, .inl g)) ∧ ∀ j, j < m → g j = h j) ∧ (∀ a, a ≠ σ.2.1 → σ'.1 a = σ.1 a) ∧ σ'.2.1 = σ.2.1 + 1 ∧ σ'.2.2 = σ.2.2 + m) := by
  refine cl_go dt_14 60 [] dt_14_k rfl ?_
  intro C J hC hJ
  conv => whnf
  refine ⟨_, jx_al_of (hX), ?_⟩
  conv => whnf
  by_cases e : m = n
  · refine jx_no (show ¬ ¬ nv = Int32.ofNat n from fun z => z (Int32.toInt_inj.mp (by rw [hm, i32_ofNat (by omega), e]))) ?_
    conv => whnf
    refine ⟨(.ref σ.2.1, jx_mk σ (.inl (1, n, .inl h)) n), by unfold jx_clone; rw [hX]; rfl, ?_⟩
    conv => whnf
    refine ⟨cast_a (t := 1) jx_mk_eq (by omega) (by decide +kernel), ?_⟩
    conv => whnf
    exact ⟨rfl, ⟨h, by rw [e]; exact jx_mk_eq, fun _ _ => rfl⟩, fun a ha => jx_mk_ne ha, rfl, by rw [e]; rfl⟩
  · refine jx_yes (show ¬ nv = Int32.ofNat n from fun z => e (by have := congrArg Int32.toInt z; rw [hm, i32_ofNat (by omega)] at this; omega)) ?_
    conv => whnf
    refine ⟨fun z => ?_, ?_⟩
    · rcases z with z | z
      · rw [Int32.lt_iff_toInt_lt, hm] at z
        simp at z
        omega
      · rw [i32_nat hm] at z
        omega
    · conv => whnf
      have hl : nv.toNatClampNeg = m := i32_nat hm
      rw [hl]
      have hX1 : (jx_mk σ (.inl (1, m, jx_emp 1)) m).1 X = some (.inl (1, n, .inl h)) := by rw [jx_mk_ne (by omega)]; exact hX
      have hN1 : (jx_mk σ (.inl (1, m, jx_emp 1)) m).1 σ.2.1 = some (.inl (1, m, .inl (fun _ => 0))) := jx_mk_eq
      refine ⟨_, jx_al_of hX1, ?_⟩
      conv => whnf
      refine ⟨_, copy_p hX1 hN1 (by omega) (min_n hm hmn hn) hmn (Nat.le_refl _), ?_⟩
      conv => whnf
      refine ⟨rfl, ⟨_, jx_up_eq, fun j hj => ?_⟩, fun a ha => by rw [jx_up_ne ha, jx_mk_ne ha], rfl, rfl⟩
      unfold va_cpy
      rw [if_pos ⟨by omega, by omega⟩, Nat.zero_add, Nat.sub_zero]
end JxCopyof
