/-! RUNS WITHOUT A SCRIPT: reckoned at addresses of their own, and carried over to where the heap ends -/
def jx_rnE (g : Nat → Nat) (e : jx_E) : jx_E := match e with
  | .inl (t, n, .inr (.inr (.inr (.inr f)))) => .inl (t, n, .inr (.inr (.inr (.inr (fun j => (f j).map g)))))
  | .inl y => .inl y
  | .inr (ci, fs) => .inr (ci, fs.map (jx_rn g))
/-- addresses below 10 stand for what was there before -/
def rl_G (g th0 th : Nat → Nat) (base : Nat) : Prop := (∀ a, 10 ≤ a → g a = base + (a - 10)) ∧ (∀ a, a < 10 → g a < base) ∧ ∀ z, z < 8 → g (th0 z) = th z
def rl (g : Nat → Nat) (base : Nat) (H0 : jx_S) (σ H : jx_S) : Prop := (∀ a e, σ.1 a = some e → H.1 (g a) = some (jx_rnE g e)) ∧ (∀ a e, a < 10 → σ.1 a = some e → ∃ t y, e = .inl (t, y) ∧ 100 ≤ t) ∧ H.2.1 = g σ.2.1 ∧ 10 ≤ σ.2.1 ∧ H.2.2 = H0.2.2 + σ.2.2 ∧ ∀ A, A < base → H.1 A = H0.1 A
section JxReloc
variable {g th0 th : Nat → Nat} {base : Nat} {H0 σ σ' H : jx_S} {a b i len pc : Nat} {e : jx_E} {ins : Instr} {st st' : List Value}
theorem rl_inj (hg : rl_G g th0 th base) (hb : 10 ≤ b) (h : g a = g b) : a = b := by
  have h1 := hg.1 b hb
  rcases Nat.lt_or_ge a 10 with ha | ha
  · have := hg.2.1 a ha
    omega
  · have := hg.1 a ha
    omega
theorem rl.up (h : rl g base H0 σ H) (hg : rl_G g th0 th base) (ha : 10 ≤ a) : rl g base H0 (jx_up σ a e) (jx_up H (g a) (jx_rnE g e)) := by
  obtain ⟨h1, h2, h3, h4, h5, h6⟩ := h
  have hga := hg.1 a ha
  refine ⟨fun b eb hb => ?_, fun b eb hlt hb => ?_, h3, h4, h5, fun A hA => ?_⟩
  · by_cases e1 : b = a
    · subst e1
      rw [jx_up_eq] at hb ⊢
      cases hb
      rfl
    · rw [jx_up_ne e1] at hb
      rw [jx_up_ne (fun z => e1 (rl_inj hg ha z))]
      exact h1 b eb hb
  · rw [jx_up_ne (by omega)] at hb
    exact h2 b eb hlt hb
  · rw [jx_up_ne (by omega)]
    exact h6 A hA
theorem rl.mk (h : rl g base H0 σ H) (hg : rl_G g th0 th base) (n : Nat) : rl g base H0 (jx_mk σ e n) (jx_mk H (jx_rnE g e) n) := by
  obtain ⟨h1, h2, h3, h4, h5, h6⟩ := h
  have hga := hg.1 σ.2.1 h4
  refine ⟨fun b eb hb => ?_, fun b eb hlt hb => ?_, ?_, ?_, ?_, fun A hA => ?_⟩
  · by_cases e1 : b = σ.2.1
    · subst e1
      rw [jx_mk_eq] at hb
      cases hb
      rw [← h3, jx_mk_eq]
    · rw [jx_mk_ne e1] at hb
      rw [jx_mk_ne (fun z => e1 (rl_inj hg h4 (z.trans h3)))]
      exact h1 b eb hb
  · rw [jx_mk_ne (by omega)] at hb
    exact h2 b eb hlt hb
  · show H.2.1 + 1 = g (σ.2.1 + 1)
    rw [h3, hga, hg.1 _ (by omega)]
    omega
  · show 10 ≤ σ.2.1 + 1
    omega
  · show H.2.2 + n = H0.2.2 + (σ.2.2 + n)
    omega
  · rw [jx_mk_ne (by omega)]
    exact h6 A hA
theorem rl.dyn (h : rl g base H0 σ H) (he : σ.1 a = some e) (hn : ∀ t y, e = .inl (t, y) → t < 100) : 10 ≤ a := by
  rcases Nat.lt_or_ge a 10 with ha | ha
  · obtain ⟨t, y, e1, e2⟩ := h.2.1 a e ha he
    have := hn t y e1
    omega
  · exact ha
theorem jx_getF_r {ci k : Nat} {v : Value} (h : rl g base H0 σ H) (hv : jx_getF σ a ci k = some v) : jx_getF H (g a) ci k = some (jx_rn g v) := by
  obtain ⟨fs, e1, e2⟩ := jx_getF_some hv
  exact jx_getF_of (h.1 a _ e1) (by rw [List.getElem?_map, e2]; rfl)
theorem jx_fit_r {ty : FieldType} {v : Value} (h : jx_fit ty v = true) : jx_fit ty (jx_rn g v) = true := by
  cases v with
  | ref x =>
    simp only [jx_fit, Bool.and_eq_true, decide_eq_true_eq] at h ⊢
    cases ty <;> simp_all [jx_rn, narrow, fits]
  | _ => exact h
theorem jx_putF_r {ci k : Nat} {v : Value} (h : rl g base H0 σ H) (hg : rl_G g th0 th base) (hv : jx_putF σ a ci k v = some σ') : ∃ H', jx_putF H (g a) ci k (jx_rn g v) = some H' ∧ rl g base H0 σ' H' := by
  obtain ⟨fs, e1, e2, e3, e4, rfl⟩ := jx_putF_some hv
  refine ⟨_, jx_putF_of (h.1 a _ e1) (by rw [List.length_map]; exact e2) (jx_fit_r (by simp [jx_fit, e3, e4])), ?_⟩
  have := h.up (e := .inr (ci, fs.set k v)) hg (h.dyn e1 (fun t y z => by cases z))
  simpa only [jx_rnE, List.map_set] using this
theorem jx_isC_r {ci : Nat} (h : rl g base H0 σ H) (hv : jx_isC σ a ci = true) : jx_isC H (g a) ci = true := by
  unfold jx_isC at hv
  split at hv
  · rename_i c fs e1
    simp only [decide_eq_true_eq] at hv
    subst hv
    exact jx_isC_of (h.1 a _ e1)
  · cases hv
theorem jx_al_r {n : Int32} (h : rl g base H0 σ H) (hv : jx_al σ a = some n) : jx_al H (g a) = some n := by
  unfold jx_al at hv ⊢
  split at hv
  · rename_i t n y e1
    rw [h.1 a _ e1]
    cases hv
    rcases y with y | y | y | y | y <;> rfl
  · cases hv
theorem jx_ild_r {ts : List Nat} {j : Int32} {v : Value} (h : rl g base H0 σ H) (hv : jx_ild σ ts a j = some v) : jx_ild H ts (g a) j = some (jx_rn g v) := by
  unfold jx_ild at hv ⊢
  split at hv
  · rename_i t n f e1
    rw [h.1 a _ e1]
    split at hv
    · rename_i hc
      cases hv
      simp only [jx_rnE, if_pos hc]
      rfl
    · cases hv
  · cases hv
theorem jx_ist_r {j x : Int32} (h : rl g base H0 σ H) (hg : rl_G g th0 th base) (hv : jx_ist σ a j x = some σ') : ∃ H', jx_ist H (g a) j x = some H' ∧ rl g base H0 σ' H' := by
  unfold jx_ist at hv ⊢
  split at hv
  · rename_i t n f e1
    rw [h.1 a _ e1]
    split at hv
    · rename_i hc
      cases hv
      simp only [jx_rnE, if_pos hc]
      exact ⟨_, rfl, h.up hg (h.dyn e1 (fun t' y z => by cases z; omega))⟩
    · cases hv
  · cases hv
theorem jx_bst_r {j x : Int32} (h : rl g base H0 σ H) (hg : rl_G g th0 th base) (hv : jx_bst σ a j x = some σ') : ∃ H', jx_bst H (g a) j x = some H' ∧ rl g base H0 σ' H' := by
  unfold jx_bst at hv ⊢
  split at hv
  · rename_i t n f e1
    rw [h.1 a _ e1]
    split at hv
    · rename_i hc
      cases hv
      simp only [jx_rnE, if_pos hc]
      exact ⟨_, rfl, h.up hg (h.dyn e1 (fun t' y z => by cases z; omega))⟩
    · rename_i hc0
      split at hv
      · rename_i hc
        cases hv
        simp only [jx_rnE, if_neg hc0, if_pos hc]
        exact ⟨_, rfl, h.up hg (h.dyn e1 (fun t' y z => by cases z; omega))⟩
      · cases hv
  · cases hv
theorem jx_ast_r {j : Int32} {v : Value} (h : rl g base H0 σ H) (hg : rl_G g th0 th base) (hv : jx_ast σ a j v = some σ') : ∃ H', jx_ast H (g a) j (jx_rn g v) = some H' ∧ rl g base H0 σ' H' := by
  unfold jx_ast at hv ⊢
  split at hv
  · rename_i t n f e1
    rw [h.1 a _ e1]
    split at hv
    · rename_i hc
      have hd : 10 ≤ a := h.dyn e1 (fun t' y z => by cases z; omega)
      have key : ∀ o : Option Nat, (fun j' => (va_up f j.toNatClampNeg o j').map g) = va_up (fun j' => (f j').map g) j.toNatClampNeg (o.map g) := by
        intro o
        funext j'
        simp only [va_up]
        split <;> rfl
      split at hv
      · cases hv
        simp only [jx_rnE, if_pos hc, jx_rn]
        refine ⟨_, rfl, ?_⟩
        have := h.up (e := .inl (t, n, .inr (.inr (.inr (.inr (va_up f j.toNatClampNeg none)))))) hg hd
        simpa only [jx_rnE, key, Option.map_none, Option.map_some] using this
      · rename_i b
        split at hv
        · rename_i ci fs e2
          split at hv
          · rename_i hcc
            cases hv
            simp only [jx_rnE, if_pos hc, jx_rn]
            rw [h.1 b _ e2]
            simp only [jx_rnE, if_pos hcc]
            refine ⟨_, rfl, ?_⟩
            have := h.up (e := .inl (t, n, .inr (.inr (.inr (.inr (va_up f j.toNatClampNeg (some b))))))) hg hd
            simpa only [jx_rnE, key, Option.map_none, Option.map_some] using this
          · cases hv
        · cases hv
      · cases hv
    · cases hv
  · cases hv
end JxReloc
