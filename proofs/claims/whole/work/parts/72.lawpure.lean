/-! THE PURE STATEMENT OUT OF WHAT HOLDS BETWEEN THE CALLS -/
/-- the two objects have just been made -/
def st2 (th : Nat → Nat) (base b : Nat) (xl : List Int32) (K : Nat → Option jx_E) (H1 H2 : jx_S) : Prop := jx_KV K th b xl ∧ (∀ a e, K a = some e → a < base) ∧ rl (cn_g th base) base (K, base, 0) cn_2 H1 ∧ rl (cn_g th (base + 39)) (base + 39) H1 cn_m H2
theorem law_pure_of {N : Nat} (hN : N ≤ 5632) (hyp : ∀ (th : Nat → Nat) (base b : Nat) (xl : List Int32) (K : Nat → Option jx_E) (H1 H2 : jx_S), xl.length ≤ N → st2 th base b xl K H1 H2 → ∃ Inv : Nat → jx_S → Prop, Inv 0 H2 ∧ (∀ k σ, Inv k σ → σ.1 b = some (jx_ci xl) ∧ jx_isC σ base 0 = true) ∧ (∀ k σ, Inv k σ → 11 * k + 11 ≤ xl.length → lawp th b base (base + 39) xl σ (Inv (k + 1))) ∧ (∀ k σ, Inv k σ → 11 * k + 11 ≤ xl.length → Inv (k + 1) σ) ∧ (∀ k σ, Inv k σ → 11 * k ≤ xl.length → σ.2.1 ≤ base + 600000 ∧ σ.2.2 ≤ 7302250)) : jx_Pure N := by
  intro th base b xl K hl hKV hlt
  have hth : ∀ z, z < 8 → th z < base := by
    intro z hz
    have hc : z = 0 ∨ z = 1 ∨ 2 ≤ z := by omega
    rcases hc with rfl | rfl | hc
    · exact hlt _ _ hKV.2.1
    · exact hlt _ _ hKV.2.2.1
    · exact hlt _ _ (hKV.2.2.2 z hc hz)
  have hgo : cl_fj th 30 282 0 [(0, .ref b)] [] (K, base, 0) (fun r σ' => r = some (.int 1) ∧ σ'.2.1 ≤ base + 600000 ∧ σ'.2.2 ≤ 7302250) := by
    refine cl_at dtl_h 40 [(18, [0, 1, 2, 3])] dtl_h_k ?_
    intro C J hC hJ
    conv => whnf
    refine hC _ _ _ _ (((bg_class hth rfl ⟨hKV.2.1, hKV.2.2.1, hKV.2.2.2⟩).up (by decide)).mp ?_)
    rintro r H1 ⟨rfl, hR1⟩
    conv => whnf
    have hn1 : H1.2.1 = base + 39 := by
      rw [hR1.2.2.1, cn_2_n]
      exact (cn_G hth).1 49 (by omega)
    have hK1 : bg_K th H1 := by
      refine ⟨?_, ?_, fun z h1 h2 => ?_⟩
      · rw [hR1.2.2.2.2.2 _ (hth 0 (by omega))]; exact hKV.2.1
      · rw [hR1.2.2.2.2.2 _ (hth 1 (by omega))]; exact hKV.2.2.1
      · rw [hR1.2.2.2.2.2 _ (hth z h2)]; exact hKV.2.2.2 z h1 h2
    have hr := bg_ref (th := th) (base := base + 39) (H := H1) (fun z hz => by have := hth z hz; omega) hn1 hK1
    rw [hn1]
    refine hC _ _ _ _ ((hr.up (by decide)).mp ?_)
    rintro r H2 ⟨rfl, hR2⟩
    obtain ⟨Inv, h0, hI, hP, hS, hB⟩ := hyp th base b xl K H1 H2 hl ⟨hKV, hlt, hR1, hR2⟩
    refine hJ _ _ _ _ ?_
    exact law_loop (Inv := Inv) (by omega) hI hP hS (fun k σ hV hk => ⟨rfl, hB k σ hV hk⟩) xl.length 0 _ H2 (by omega) (by omega) (by decide) h0
  have hLr : jx_Lr (fun a => a) [(0, Value.ref b)] [(0, Value.ref b)] := by
    refine ⟨fun q hq => ?_, fun q hq q' hq' _ => ?_⟩
    · rcases List.mem_cons.mp hq with rfl | hq
      · exact List.mem_cons_self ..
      · cases hq
    · rcases List.mem_cons.mp hq with rfl | hq
      · rcases List.mem_cons.mp hq' with rfl | hq'
        · rfl
        · cases hq'
      · cases hq
  obtain ⟨n, r, σ', h1, r', s', e1, e2, e3, e4, e5⟩ := hgo _ hLr
  subst e3
  subst e1
  have e2 : σ' = s' := e2
  subst e2
  exact ⟨n, 30, σ', by omega, h1, e4, e5⟩
