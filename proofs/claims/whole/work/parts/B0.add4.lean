/-! THE JDK'S LISTS: add, in one -/
section JxAdd4
variable {th : Nat → Nat} {d B L E t : Nat} {σ σ' : jx_S} {T : Nat → Nat} {xs ys : List Nat}
theorem added_new {n : Nat} {g : Nat → Option Nat} {mc : Int32} (hB : B + 102 ≤ σ.2.1) (hL : σ'.1 L = some (.inr (1, [.ref σ.2.1, .int (Int32.ofNat ys.length), .int mc]))) (hE : σ'.1 σ.2.1 = some (.inl (4, n, .inr (.inr (.inr (.inr g)))))) (hlen : ys.length ≤ n) (hn : n ∈ [10, 15, 22, 33, 49, 73]) (hg : ∀ i x, ys[i]? = some x → g i = some x) (hs : ∀ a, a < σ.2.1 → a ≠ L → σ'.1 a = σ.1 a) (h1 : σ'.2.1 = σ.2.1 + 1) (h2 : σ'.2.2 = σ.2.2 + n) : added th B σ σ' T L E t ys := by
  have hn73 : n ≤ 73 := by
    simp only [List.mem_cons, List.not_mem_nil, or_false] at hn
    omega
  refine ⟨σ.2.1, fun a => if a = σ.2.1 then t else T a, ⟨⟨mc, hL⟩, Or.inr ⟨⟨hB, by omega, if_pos rfl⟩, n, g, hE, hlen, hn, hg⟩⟩, ⟨fun a ha hw => hs a ha (fun e => hw (Or.inl e)), by omega, fun a ha => if_neg (by omega)⟩, by omega, by omega, Or.inr rfl, fun a ha => if_neg ha⟩
theorem added.pre {σ1 : jx_S} (h : added th B σ1 σ' T L E t ys) (h1 : ∀ a, a ≠ L → σ1.1 a = σ.1 a) (h2 : σ1.2 = σ.2) : added th B σ σ' T L E t ys := by
  obtain ⟨E', T', e1, e2, e3, e4, e5, e6⟩ := h
  rw [h2] at e3 e4 e5 e6
  refine ⟨E', T', e1, ⟨fun a ha hw => ?_, by rw [← h2]; exact e2.2.1, fun a ha => e2.2.2 a (by rw [h2]; exact ha)⟩, e3, e4, e5, e6⟩
  rw [e2.1 a (by rw [h2]; exact ha) hw, h1 a (fun e => hw (Or.inl e))]
theorem k_add3 {x ci : Nat} {fs : List Value} (h : al_at th B σ T L E t xs) (hB : B + 102 ≤ σ.2.1) (hLB : L < B + 39) (hS : σ.1 (th 1) = some jx_co) (hx : σ.1 x = some (.inr (ci, fs))) (hxl : x < σ.2.1) (hc : ci ∈ [6, 8, 9, 10, 11]) (hxL : x ≠ L) (hlen : xs.length < 73) (hel : ∀ (i y : Nat), xs[i]? = some y → y < σ.2.1 ∧ ∃ ci fs, σ.1 y = some (.inr (ci, fs)) ∧ ci ∈ [6, 8, 9, 10, 11]) : jc th (d + 5) 32 [.ref L, .ref x, .ref E, .int (Int32.ofNat xs.length)] σ (fun r σ' => r = none ∧ added th B σ σ' T L E t (xs ++ [x])) := by
  obtain ⟨⟨mc, hL⟩, h2⟩ := h
  have hi : (Int32.ofNat xs.length).toInt = (xs.length : Int) := i32_ofNat (by omega)
  have hap : Int32.ofNat xs.length + 1 = Int32.ofNat (xs ++ [x]).length := Int32.toInt_inj.mp (by rw [i32_add (c := 1) hi (by decide) (by omega) (by omega), i32_ofNat (by rw [List.length_append]; simp; omega), List.length_append]; simp)
  rcases h2 with ⟨hE1, hnil⟩ | ⟨hd, cap, g, hE, hle, hcap, hg⟩
  · subst hE1 hnil
    refine cl_go dt_32 40 [(11, [0, 1, 2, 3])] dt_32_k rfl ?_
    intro C J hC hJ
    conv => whnf
    refine ⟨_, jx_al_of hS, ?_⟩
    conv => whnf
    refine jx_no (show ¬ ¬ Int32.ofNat ([] : List Nat).length = Int32.ofNat 0 from fun z => z rfl) ?_
    conv => whnf
    refine ⟨jx_isC_of hL, hC _ _ _ _ (((k_grow0 (d := d) (mc := .int mc) hL (by omega) hS).up (by omega)).mp ?_)⟩
    rintro r σ1 ⟨rfl, hs1⟩
    conv => whnf
    have hEn : σ1.1 σ.2.1 = some (.inl (4, 10, .inr (.inr (.inr (.inr (fun _ => none)))))) := by rw [hs1, jx_up_ne (by omega)]; exact jx_mk_eq
    have hLn : σ1.1 L = some (.inr (1, [.ref σ.2.1, .int 0, .int mc])) := by rw [hs1]; exact jx_up_eq
    have hxn : σ1.1 x = some (.inr (ci, fs)) := by rw [hs1, jx_up_ne hxL, jx_mk_ne (by omega)]; exact hx
    refine hJ _ _ _ _ (k_lay (E := σ.2.1) hLn hEn (by omega) hi (show 0 < 10 by omega) hxn hc ⟨rfl, ?_⟩)
    refine added_new (n := 10) (mc := mc) hB ?_ (by rw [jx_up_ne (by omega)]; exact jx_up_eq) (by simp) (by decide) (fun j y hy => ?_) (fun a ha hne => ?_) ?_ ?_
    · rw [hap]; exact jx_up_eq
    · unfold va_up
      match j, hy with
      | 0, hy => rw [if_pos (show 0 = ([] : List Nat).length from rfl)]; simpa using hy
      | j + 1, hy => simp at hy
    · rw [jx_up_ne hne, jx_up_ne (by omega), hs1, jx_up_ne hne, jx_mk_ne (by omega)]
    · show σ1.2.1 = _; rw [hs1]; rfl
    · show σ1.2.2 = _; rw [hs1]; rfl
  · have hLE : L ≠ E := by have := hd.1; omega
    have hc73 : cap ≤ 73 := by
      simp only [List.mem_cons, List.not_mem_nil, or_false] at hcap
      omega
    refine cl_go dt_32 40 [(11, [0, 1, 2, 3])] dt_32_k rfl ?_
    intro C J hC hJ
    conv => whnf
    refine ⟨_, jx_al_of hE, ?_⟩
    conv => whnf
    by_cases hroom : xs.length < cap
    · refine jx_yes (show ¬ Int32.ofNat xs.length = Int32.ofNat cap from fun z => by
        have := congrArg Int32.toInt z
        rw [hi, i32_ofNat (by omega)] at this
        omega) ?_
      conv => whnf
      exact hJ _ _ _ _ (k_lay hL hE hLE hi hroom hx hc ⟨rfl, added_in hB hLB hd hroom hcap hg hi⟩)
    · have ecap : xs.length = cap := by omega
      refine jx_no (show ¬ ¬ Int32.ofNat xs.length = Int32.ofNat cap from fun z => z (by rw [ecap])) ?_
      conv => whnf
      have hn : xs.length ∈ [10, 15, 22, 33, 49] := by
        rw [ecap]
        simp only [List.mem_cons, List.not_mem_nil, or_false] at hcap ⊢
        omega
      rw [← ecap] at hE
      have hels : els σ g xs.length := by
        intro j hj
        obtain ⟨e1, ci', fs', e2, e3⟩ := hel j _ (List.getElem?_eq_getElem hj)
        exact ⟨_, ci', fs', hg j _ (by rw [List.getElem?_eq_getElem hj]), e1, e2, e3⟩
      refine ⟨jx_isC_of hL, hC _ _ _ _ ((k_grow1 (d := d) hL hE (by omega) hd.2.1 hn hels).mp ?_)⟩
      rintro r σ1 ⟨rfl, hs1⟩
      conv => whnf
      have hEn : σ1.1 σ.2.1 = some (.inl (4, cap' xs.length, .inr (.inr (.inr (.inr (va_cpy g (fun _ => none) 0 0 xs.length)))))) := by rw [hs1, jx_up_ne (by omega)]; exact jx_up_eq
      have hLn : σ1.1 L = some (.inr (1, [.ref σ.2.1, .int (Int32.ofNat xs.length), .int mc])) := by rw [hs1]; exact jx_up_eq
      have hxn : σ1.1 x = some (.inr (ci, fs)) := by rw [hs1, jx_up_ne hxL, jx_up_ne (by omega), jx_mk_ne (by omega)]; exact hx
      have hcc : xs.length < cap' xs.length ∧ cap' xs.length ∈ [10, 15, 22, 33, 49, 73] := by
        unfold cap'
        simp only [List.mem_cons, List.not_mem_nil, or_false] at hn ⊢
        omega
      refine hJ _ _ _ _ (k_lay (E := σ.2.1) hLn hEn (by omega) hi hcc.1 hxn hc ⟨rfl, ?_⟩)
      refine added_new (n := cap' xs.length) (mc := mc) hB ?_ (by rw [jx_up_ne (by omega)]; exact jx_up_eq) (by rw [List.length_append]; simp; omega) hcc.2 (fun j y hy => ?_) (fun a ha hne => ?_) ?_ ?_
      · rw [hap]; exact jx_up_eq
      · unfold va_up va_cpy
        by_cases hj : j = xs.length
        · rw [hj] at hy
          rw [if_pos hj]
          simpa using hy
        · have hjl : j < xs.length := by
            have := (List.getElem?_eq_some_iff.mp hy).1
            simp at this
            omega
          rw [if_neg hj, if_pos ⟨by omega, by omega⟩]
          rw [List.getElem?_append_left hjl] at hy
          simpa using hg j y hy
      · rw [jx_up_ne hne, jx_up_ne (by omega), hs1, jx_up_ne hne, jx_up_ne (by omega), jx_mk_ne (by omega)]
      · show σ1.2.1 = _; rw [hs1]; rfl
      · show σ1.2.2 = _; rw [hs1]; rfl
/-- add: the element stands behind the others -/
theorem k_add {x ci : Nat} {fs : List Value} (h : al_at th B σ T L E t xs) (hB : B + 102 ≤ σ.2.1) (hLB : L < B + 39) (hBL : B ≤ L) (hth : th 1 < B) (hS : σ.1 (th 1) = some jx_co) (hx : σ.1 x = some (.inr (ci, fs))) (hxl : x < σ.2.1) (hc : ci ∈ [6, 8, 9, 10, 11]) (hxL : x ≠ L) (hlen : xs.length < 73) (hel : ∀ (i y : Nat), xs[i]? = some y → y ≠ L ∧ y < σ.2.1 ∧ ∃ ci fs, σ.1 y = some (.inr (ci, fs)) ∧ ci ∈ [6, 8, 9, 10, 11]) : jc th (d + 6) 31 [.ref L, .ref x] σ (fun r σ' => r = some (.int 1) ∧ added th B σ σ' T L E t (xs ++ [x])) := by
  have h0 := h
  obtain ⟨⟨mc, hL⟩, h2⟩ := h
  obtain ⟨σ1, hs1⟩ : ∃ σ1, σ1 = jx_up σ L (.inr (1, [.ref E, .int (Int32.ofNat xs.length), .int (mc + 1)])) := ⟨_, rfl⟩
  have hL1 : σ1.1 L = some (.inr (1, [.ref E, .int (Int32.ofNat xs.length), .int (mc + 1)])) := by rw [hs1]; exact jx_up_eq
  have hne : ∀ a, a ≠ L → σ1.1 a = σ.1 a := fun a ha => by rw [hs1]; exact jx_up_ne ha
  have hs2 : σ1.2 = σ.2 := by rw [hs1]; rfl
  have hal1 : al_at th B σ1 T L E t xs := by
    refine ⟨⟨_, hL1⟩, ?_⟩
    rcases h2 with h2 | ⟨hd, cap, g, h3, h4⟩
    · exact Or.inl h2
    · exact Or.inr ⟨⟨hd.1, by rw [hs2]; exact hd.2.1, hd.2.2⟩, cap, g, by rw [hne E (by have := hd.1; omega)]; exact h3, h4⟩
  refine cl_go dt_31 40 [] dt_31_k rfl ?_
  intro C J hC hJ
  conv => whnf
  refine ⟨_, jx_getF_of hL rfl, ?_⟩
  conv => whnf
  refine ⟨σ1, (jx_putB (k := 2) (v := .int (mc + 1)) hL rfl (fit_i _)).trans (congrArg some hs1.symm), ?_⟩
  conv => whnf
  refine ⟨_, jx_getF_of hL1 rfl, ?_⟩
  conv => whnf
  refine ⟨_, jx_getF_of hL1 rfl, ?_⟩
  conv => whnf
  refine ⟨jx_isC_of hL1, hC _ _ _ _ ((k_add3 (d := d) hal1 (by rw [hs2]; exact hB) hLB (by rw [hne _ (by omega)]; exact hS) (by rw [hne x hxL]; exact hx) (by rw [hs2]; exact hxl) hc hxL hlen (fun i y hy => ?_)).mp ?_)⟩
  · obtain ⟨e1, e2, ci', fs', e3, e4⟩ := hel i y hy
    exact ⟨by rw [hs2]; exact e2, ci', fs', by rw [hne y e1]; exact e3, e4⟩
  · rintro r σ2 ⟨rfl, hadd⟩
    conv => whnf
    exact ⟨Or.inr rfl, rfl, hadd.pre hne hs2⟩
end JxAdd4
