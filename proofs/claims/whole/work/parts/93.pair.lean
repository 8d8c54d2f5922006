/-! A PAIR OF CALLS, out of what each of them does -/
/-- room that a call takes -/
def rm (σ σ1 : jx_S) : Prop := σ.2.1 ≤ σ1.2.1
section JxPair
variable {th : Nat → Nat} {B b jx jm : Nat} {xl : List Int32} {σ : jx_S} {f f' : jx_F} {A : Nat → Nat → Nat} {G : Nat → Nat → Int32} {T : Nat → Nat} {P : jx_S → Prop} {as : List Value}
theorem rm.rf : rm σ σ := Nat.le_refl _
theorem pair_v {v : Value} (hv : jx_rn (rf_g (B + 39)) v = v) (has : as.map (jx_rn (rf_g (B + 39))) = as)
    (hc : jc th 30 jx (.ref B :: as) σ (fun r σ1 => r = some v ∧ σ1 = rf σ1 (B + 39) f ∧ rm σ σ1 ∧ ∃ A' G' T', RelC th B b xl σ1 (fN f') A' G' T' ∧ P (rf σ1 (B + 39) f')))
    (hr : ∀ σ0, rfc th σ0 (B + 39) 30 jm (.ref 0 :: as) f (fun r f'' => r = some v ∧ f'' = f')) :
    jc th 30 jx (.ref B :: as) σ (fun r σ1 => σ1.1 b = some (jx_ci xl) ∧ jx_isC σ1 (B + 39) 12 = true ∧ r = some v ∧ jc th 30 jm (.ref (B + 39) :: as) σ1 (fun r' σ2 => r' = some v ∧ P σ2)) := by
  refine hc.mp ?_
  rintro r σ1 ⟨hv1, hrf, hrm, A', G', T', hR, hP⟩
  refine ⟨hR.1.1, ?_, hv1, ?_⟩
  · rw [hrf]; exact jx_isC_of rf_obj
  · have h := hr σ1
    unfold rfc jx_fc at h
    rw [← hrf, List.map_cons, has] at h
    refine jc.mp h ?_
    rintro r' σ2 ⟨r2, f2, e1, e2, e3, e4⟩
    subst e3 e4
    refine ⟨?_, by rw [e2]; exact hP⟩
    rw [e1, Option.map_some, hv]
theorem pair_i {w : Int32} (has : as.map (jx_rn (rf_g (B + 39))) = as)
    (hc : jc th 30 jx (.ref B :: as) σ (fun r σ1 => r = some (.int w) ∧ σ1 = rf σ1 (B + 39) f ∧ rm σ σ1 ∧ ∃ A' G' T', RelC th B b xl σ1 (fN f') A' G' T' ∧ P (rf σ1 (B + 39) f')))
    (hr : ∀ σ0, rfc th σ0 (B + 39) 30 jm (.ref 0 :: as) f (fun r f'' => r = some (.int w) ∧ f'' = f')) : pcI th b B (B + 39) xl jx jm as σ P :=
  (pair_v rfl has hc hr).mp (fun _ _ h => ⟨h.1, h.2.1, w, h.2.2.1, h.2.2.2⟩)
theorem pair_j {w : Int64} (has : as.map (jx_rn (rf_g (B + 39))) = as)
    (hc : jc th 30 jx (.ref B :: as) σ (fun r σ1 => r = some (.long w) ∧ σ1 = rf σ1 (B + 39) f ∧ rm σ σ1 ∧ ∃ A' G' T', RelC th B b xl σ1 (fN f') A' G' T' ∧ P (rf σ1 (B + 39) f')))
    (hr : ∀ σ0, rfc th σ0 (B + 39) 30 jm (.ref 0 :: as) f (fun r f'' => r = some (.long w) ∧ f'' = f')) : pcJ th b B (B + 39) xl jx jm as σ P :=
  (pair_v rfl has hc hr).mp (fun _ _ h => ⟨h.1, h.2.1, w, h.2.2.1, h.2.2.2⟩)
theorem fN_0 {x : Int32} : fN (rf_ui f 0 0 x) = fN f := fN_eq (fun k j h => rf_ui_ne (fun e => by rw [e.1] at h; exact absurd h (by decide))) (fun _ _ _ => rfl)
/-- a call that only looks -/
theorem pair_look {w : Int32} (has : as.map (jx_rn (rf_g (B + 39))) = as) (hR : Rel th B b xl σ f A G T) (hP : P (rf σ (B + 39) (rf_ui f 0 0 0)))
    (hc : jc th 30 jx (.ref B :: as) σ (fun r σ1 => r = some (.int w) ∧ σ1 = σ)) (hr : ∀ σ0, rfc th σ0 (B + 39) 30 jm (.ref 0 :: as) f (fun r f'' => r = some (.int w) ∧ f'' = rf_ui f 0 0 0)) : pcI th b B (B + 39) xl jx jm as σ P :=
  pair_i has (hc.mp (fun _ _ h => by
    obtain ⟨h1, h2⟩ := h
    subst h2
    exact ⟨h1, hR.1, rm.rf, A, G, T, by rw [fN_0]; exact hR.2, hP⟩)) hr
/-- clock -/
theorem pair_clock (hR : Rel th B b xl σ f A G T) (hP : P (rf σ (B + 39) (rf_ui f 0 0 0))) : lawp_10 th b B (B + 39) xl σ P := by
  have hX := hR.2.1.2.2.2.2.2.1
  refine pair_look (w := f.1 1 0) rfl hR hP ?_ (fun σ0 => (r_clock (d := 29)).up (by omega))
  refine cl_go dt_162 20 [] dt_162_k rfl ?_
  intro C J hC hJ
  conv => whnf
  refine ⟨_, jx_getF_of hX rfl, ?_⟩
  conv => whnf
  exact ⟨rfl, rfl⟩
/-- waiting -/
theorem pair_waiting (hR : Rel th B b xl σ f A G T) (hP : P (rf σ (B + 39) (rf_ui f 0 0 0))) : lawp_12 th b B (B + 39) xl σ P := by
  intro c
  have hX := hR.2.1.2.2.2.2.2.1
  have hCA := hR.2.1.2.2.2.2.2.2.2.2.1
  have hCs := hR.2.2.2.1
  by_cases hc : 1 ≤ c ∧ c ≤ 8
  · refine pair_look (w := f.1 32 c.toNatClampNeg) rfl hR hP ?_ (fun σ0 => (r_waiting (d := 28)).mp ?_)
    · refine cl_go dt_165 40 [] dt_165_k rfl ?_
      intro C J hC hJ
      conv => whnf
      refine ⟨jx_isC_of hX, hC _ _ _ _ (((k_connAt (d := 28) hX hCA).up (by omega)).mp ?_)⟩
      rintro r σ1 ⟨hcs, hs1⟩
      rw [hs1]
      rcases hcs with ⟨k, hk, hck, rfl⟩ | ⟨hn, -⟩
      · conv => whnf
        refine ⟨_, jx_getF_of (hCs k hk).1 rfl, ?_⟩
        conv => whnf
        refine ⟨?_, rfl⟩
        rw [i32_nat hck]
        rfl
      · exact absurd hc hn
    · rintro r f1 ⟨hcs, hf1⟩
      rcases hcs with ⟨rfl, -⟩ | ⟨-, hn⟩
      · exact ⟨rfl, hf1⟩
      · exact absurd hc hn
  · refine pair_look (w := -1) rfl hR hP ?_ (fun σ0 => (r_waiting (d := 28)).mp ?_)
    · refine cl_go dt_165 40 [] dt_165_k rfl ?_
      intro C J hC hJ
      conv => whnf
      refine ⟨jx_isC_of hX, hC _ _ _ _ (((k_connAt (d := 28) hX hCA).up (by omega)).mp ?_)⟩
      rintro r σ1 ⟨hcs, hs1⟩
      rw [hs1]
      rcases hcs with ⟨k, hk, hck, rfl⟩ | ⟨hn, rfl⟩
      · refine absurd ⟨?_, ?_⟩ hc
        · rw [Int32.le_iff_toInt_le, hck]; simp; omega
        · rw [Int32.le_iff_toInt_le, hck]; simp; omega
      · conv => whnf
        exact ⟨rfl, rfl⟩
    · rintro r f1 ⟨hcs, hf1⟩
      rcases hcs with ⟨-, hn⟩ | ⟨rfl, -⟩
      · exact absurd hn hc
      · exact ⟨rfl, hf1⟩
end JxPair
