/-! THE JDK'S LISTS: remove -/
section JxRemove
variable {th : Nat → Nat} {d B L E t : Nat} {σ σ' : jx_S} {T : Nat → Nat} {xs ys : List Nat}
theorem jx_ast_nul {a n j2 : Nat} {g : Nat → Option Nat} {j : Int32} (h : σ.1 a = some (.inl (4, n, .inr (.inr (.inr (.inr g)))))) (hj : j.toInt = (j2 : Int)) (hk : j2 < n) : jx_ast σ a j .null = some (jx_up σ a (.inl (4, n, .inr (.inr (.inr (.inr (va_up g j2 none))))))) := by
  unfold jx_ast
  rw [h]
  have h0 : ¬ j < 0 := by rw [Int32.lt_iff_toInt_lt, hj]; simp
  simp only
  rw [if_pos ⟨Or.inl trivial, fun z => by rcases z with z | z; exact h0 z; rw [i32_nat hj] at z; omega⟩, i32_nat hj]
theorem jx_copys_of {n s e c : Nat} {g : Nat → Option Nat} {i1 i2 m : Int32} (hE : σ.1 E = some (.inl (4, n, .inr (.inr (.inr (.inr g)))))) (h1 : i1.toInt = (s : Int)) (h2 : i2.toInt = (e : Int)) (hm : m.toInt = (c : Int)) (hn : s + c ≤ n) (hn2 : e + c ≤ n) (hel : ∀ i, i < c → ∃ (y ci : Nat) (fs : List Value), g (s + i) = some y ∧ σ.1 y = some (.inr (ci, fs)) ∧ ci ∈ [6, 8, 9, 10, 11]) : jx_copy σ E i1 E i2 m = some (jx_up σ E (.inl (4, n, .inr (.inr (.inr (.inr (va_cpy g g s e c))))))) := by
  unfold jx_copy
  rw [hE]
  have e1 := i32_nat h1
  have e2 := i32_nat h2
  have e3 := i32_nat hm
  have z1 : ¬ i1 < 0 := by rw [Int32.lt_iff_toInt_lt, h1]; simp
  have z2 : ¬ i2 < 0 := by rw [Int32.lt_iff_toInt_lt, h2]; simp
  have z3 : ¬ m < 0 := by rw [Int32.lt_iff_toInt_lt, hm]; simp
  simp only [e1, e2, e3]
  rw [if_pos]
  refine ⟨trivial, trivial, ⟨z1, z2, z3⟩, ⟨by omega, by omega⟩, fun i hi => ?_⟩
  obtain ⟨y, ci, fs, a1, a2, a3⟩ := hel i hi
  rw [a1]
  simp only
  rw [a2]
  simp only
  exact decide_eq_true a3
theorem k_frEnd {n s : Nat} {g : Nat → Option Nat} {sz mc : Value} {i : Int32} (hL : σ.1 L = some (.inr (1, [.ref E, sz, mc]))) (hE : σ.1 E = some (.inl (4, n, .inr (.inr (.inr (.inr g)))))) (hLE : L ≠ E) (hi : i.toInt = (s : Int)) (hk : s < n) {Q : Option Value → jx_S → Prop} (hQ : Q none (jx_up (jx_up σ L (.inr (1, [.ref E, .int i, mc]))) E (.inl (4, n, .inr (.inr (.inr (.inr (va_up g s none)))))))) : cl_fj th d 116 34 [(0, .ref L), (1, .ref E), (3, .int i)] [] σ Q := by
  refine cl_at dt_116 40 [] dt_116_k ?_
  intro C J hC hJ
  conv => whnf
  refine ⟨_, jx_putB hL rfl (fit_i _), ?_⟩
  conv => whnf
  refine ⟨_, jx_ast_nul (by rw [jx_up_ne (Ne.symm hLE)]; exact hE) hi hk, ?_⟩
  conv => whnf
  exact hQ
theorem k_remove {i : Int32} {k x : Nat} (h : al_at th B σ T L E t xs) (hLB : L < B + 39) (hi : i.toInt = (k : Int)) (hx : xs[k]? = some x) (hel : ∀ (i y : Nat), xs[i]? = some y → y ≠ L ∧ ∃ ci fs, σ.1 y = some (.inr (ci, fs)) ∧ ci ∈ [6, 8, 9, 10, 11]) : jc th (d + 3) 115 [.ref L, .int i] σ (fun r σ' => r = some (.ref x) ∧ al_at th B σ' T L E t (xs.eraseIdx k) ∧ (∀ a, a ≠ L → a ≠ E → σ'.1 a = σ.1 a) ∧ σ'.2 = σ.2) := by
  obtain ⟨⟨mc, h1⟩, h2⟩ := h
  have hk : k < xs.length := (List.getElem?_eq_some_iff.mp hx).1
  rcases h2 with ⟨-, rfl⟩ | ⟨hd, cap, g, h3, h4, h5, h7⟩
  · cases hx
  have h6 : cap ≤ 73 := by
    simp only [List.mem_cons, List.not_mem_nil, or_false] at h5
    omega
  have hLE : L ≠ E := by have := hd.1; omega
  obtain ⟨σ1, hs1⟩ : ∃ σ1, σ1 = jx_up σ L (.inr (1, [.ref E, .int (Int32.ofNat xs.length), .int (mc + 1)])) := ⟨_, rfl⟩
  have hL1 : σ1.1 L = some (.inr (1, [.ref E, .int (Int32.ofNat xs.length), .int (mc + 1)])) := by rw [hs1]; exact jx_up_eq
  have hE1 : σ1.1 E = some (.inl (4, cap, .inr (.inr (.inr (.inr g))))) := by rw [hs1, jx_up_ne (Ne.symm hLE)]; exact h3
  have hlen : (Int32.ofNat xs.length).toInt = (xs.length : Int) := i32_ofNat (by omega)
  have hn1 : (Int32.ofNat xs.length - 1).toInt = ((xs.length - 1 : Nat) : Int) := by
    rw [i32_sub (c := 1) hlen (by decide) (by omega) (by omega)]
    omega
  have hlE : (xs.eraseIdx k).length = xs.length - 1 := by
    rw [List.length_eraseIdx]
    rw [if_pos hk]
  have hni : Int32.ofNat xs.length - 1 = Int32.ofNat (xs.eraseIdx k).length := by
    refine Int32.toInt_inj.mp ?_
    rw [hn1, hlE, i32_ofNat (by omega)]
  have hdone : ∀ g' : Nat → Option Nat, (∀ j y, (xs.eraseIdx k)[j]? = some y → g' j = some y) → ∀ σ2 : jx_S, (∀ a, a ≠ L → a ≠ E → σ2.1 a = σ.1 a) → σ2.2 = σ.2 → σ2.1 L = some (.inr (1, [.ref E, .int (Int32.ofNat xs.length - 1), .int (mc + 1)])) → σ2.1 E = some (.inl (4, cap, .inr (.inr (.inr (.inr g'))))) → al_at th B σ2 T L E t (xs.eraseIdx k) := by
    intro g' hg' σ2 _ e2 e3 e4
    refine ⟨⟨mc + 1, by rw [e3, hni]⟩, Or.inr ⟨⟨hd.1, by rw [e2]; exact hd.2.1, hd.2.2⟩, cap, g', e4, by omega, h5, hg'⟩⟩
  have hfr : jc th (d + 2) 116 [.ref L, .ref E, .int i] σ (fun r σ' => r = none ∧ al_at th B σ' T L E t (xs.eraseIdx k) ∧ (∀ a, a ≠ L → a ≠ E → σ'.1 a = σ.1 a) ∧ σ'.2 = σ.2) := by
    refine jc.up (d := d + 1) ?_ (by omega)
    refine cl_go dt_116 60 [(34, [0, 1, 3])] dt_116_k rfl ?_
    intro C J hC hJ
    conv => whnf
    refine ⟨_, jx_getF_of h1 rfl, ?_⟩
    conv => whnf
    refine ⟨σ1, (jx_putB (k := 2) (v := .int (mc + 1)) h1 rfl (fit_i _)).trans (congrArg some hs1.symm), ?_⟩
    conv => whnf
    refine ⟨_, jx_getF_of hL1 rfl, ?_⟩
    conv => whnf
    by_cases hlast : k = xs.length - 1
    · refine jx_yes (show Int32.ofNat xs.length - 1 ≤ i by rw [Int32.le_iff_toInt_le, hn1, hi]; omega) ?_
      conv => whnf
      refine hJ _ _ _ _ (k_frEnd hL1 hE1 hLE hn1 (by omega) ⟨rfl, ?_, ?_, ?_⟩)
      · refine hdone (va_up g (xs.length - 1) none) (fun j y hy => ?_) _ (fun a e1 e2 => ?_) ?_ (by rw [jx_up_ne hLE]; exact jx_up_eq) jx_up_eq
        · have hj : j < xs.length - 1 := by
            have := (List.getElem?_eq_some_iff.mp hy).1
            omega
          unfold va_up
          rw [if_neg (by omega)]
          refine h7 j y ?_
          rw [List.getElem?_eraseIdx, if_pos (by omega)] at hy
          exact hy
        · rw [jx_up_ne e2, jx_up_ne e1, hs1, jx_up_ne e1]
        · rw [hs1]; rfl
      · intro a e1 e2
        rw [jx_up_ne e2, jx_up_ne e1, hs1, jx_up_ne e1]
      · rw [hs1]; rfl
    · refine jx_no (show ¬ Int32.ofNat xs.length - 1 ≤ i by rw [Int32.le_iff_toInt_le, hn1, hi]; omega) ?_
      conv => whnf
      have hs : (i + 1).toInt = ((k + 1 : Nat) : Int) := by
        rw [i32_add (c := 1) hi (by decide) (by omega) (by omega)]
        omega
      have hm : (Int32.ofNat xs.length - 1 - i).toInt = ((xs.length - 1 - k : Nat) : Int) := by
        rw [i32_sub hn1 hi (by omega) (by omega)]
        omega
      refine ⟨_, jx_copys_of hE1 hs hi hm (by omega) (by omega) (fun j hj => ?_), ?_⟩
      · have hj2 : k + 1 + j < xs.length := by omega
        obtain ⟨e1, ci', fs', e2, e3⟩ := hel (k + 1 + j) _ (List.getElem?_eq_getElem hj2)
        exact ⟨_, ci', fs', h7 _ _ (List.getElem?_eq_getElem hj2), by rw [hs1, jx_up_ne e1]; exact e2, e3⟩
      conv => whnf
      refine hJ _ _ _ _ (k_frEnd (by rw [jx_up_ne hLE]; exact hL1) jx_up_eq hLE hn1 (by omega) ⟨rfl, ?_, ?_, ?_⟩)
      · refine hdone (va_up (va_cpy g g (k + 1) k (xs.length - 1 - k)) (xs.length - 1) none) (fun j y hy => ?_) _ (fun a e1 e2 => ?_) ?_ (by rw [jx_up_ne hLE]; exact jx_up_eq) jx_up_eq
        · have hj : j < xs.length - 1 := by
            have := (List.getElem?_eq_some_iff.mp hy).1
            omega
          unfold va_up va_cpy
          rw [if_neg (by omega)]
          rw [List.getElem?_eraseIdx] at hy
          by_cases hjk : j < k
          · rw [if_pos hjk] at hy
            rw [if_neg (by omega)]
            exact h7 j y hy
          · rw [if_neg hjk] at hy
            rw [if_pos ⟨by omega, by omega⟩, show k + 1 + (j - k) = j + 1 by omega]
            exact h7 _ y hy
        · rw [jx_up_ne e2, jx_up_ne e1, jx_up_ne e2, hs1, jx_up_ne e1]
        · rw [hs1]; rfl
      · intro a e1 e2
        rw [jx_up_ne e2, jx_up_ne e1, jx_up_ne e2, hs1, jx_up_ne e1]
      · rw [hs1]; rfl
  refine cl_go dt_115 60 [] dt_115_k rfl ?_
  intro C J hC hJ
  conv => whnf
  refine ⟨_, jx_getF_of h1 rfl, ?_⟩
  conv => whnf
  have hi0 : ¬ i < 0 := by rw [Int32.lt_iff_toInt_lt, hi]; simp
  have hin : i < Int32.ofNat xs.length := by
    rw [Int32.lt_iff_toInt_lt, hi, hlen]
    omega
  refine hC _ _ _ _ ((k_chk hi0 hin).mp ?_)
  rintro r σ2 ⟨rfl, hs2⟩
  rw [hs2]
  conv => whnf
  refine ⟨_, jx_getF_of h1 rfl, ?_⟩
  conv => whnf
  refine ⟨_, jx_ald_of h3 (Or.inl rfl) hi (by omega), ?_⟩
  rw [h7 k x hx]
  conv => whnf
  refine ⟨jx_isC_of h1, hC _ _ _ _ (hfr.mp ?_)⟩
  rintro r σ3 ⟨rfl, e1, e2, e3⟩
  conv => whnf
  exact ⟨rfl, e1, e2, e3⟩
end JxRemove
