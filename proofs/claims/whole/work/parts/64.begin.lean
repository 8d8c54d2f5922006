/-! THE TWO OBJECTS AT THEIR BEGINNING, where the heap ends -/
def cn_g (th : Nat → Nat) (base a : Nat) : Nat := if a < 8 then th a else if a < 10 then th 0 else base + (a - 10)
/-- the arrays that nobody writes are there -/
def bg_K (th : Nat → Nat) (H : jx_S) : Prop := H.1 (th 0) = some jx_cb ∧ H.1 (th 1) = some jx_co ∧ ∀ z, 2 ≤ z → z < 8 → H.1 (th z) = some (jx_ci (kl z))
section JxBegin
variable {th : Nat → Nat} {base : Nat} {H : jx_S}
theorem cn_G (hth : ∀ z, z < 8 → th z < base) : rl_G (cn_g th base) cn_th th base := by
  refine ⟨fun a ha => ?_, fun a ha => ?_, fun z hz => ?_⟩
  · unfold cn_g
    rw [if_neg (by omega), if_neg (by omega)]
  · unfold cn_g
    split
    · rename_i h; exact hth a h
    · exact hth 0 (by omega)
  · unfold cn_th
    rw [if_neg (by omega), if_pos hz]
    unfold cn_g
    rw [if_pos hz]
theorem bg_0 (hb : H.2.1 = base) (hK : bg_K th H) : rl (cn_g th base) base H (cn_K, 10, 0) H := by
  refine ⟨fun a e he => ?_, fun a e hlt he => ?_, ?_, Nat.le_refl _, rfl, fun A _ => rfl⟩
  · have hc : a = 0 ∨ a = 1 ∨ (2 ≤ a ∧ a < 8) ∨ 8 ≤ a := by omega
    rcases hc with rfl | rfl | hc | hc
    · cases he; exact hK.1
    · cases he; exact hK.2.1
    · have hz : cn_g th base a = th a := by unfold cn_g; rw [if_pos hc.2]
      rw [hz, hK.2.2 a hc.1 hc.2]
      have : a = 2 ∨ a = 3 ∨ a = 4 ∨ a = 5 ∨ a = 6 ∨ a = 7 := by omega
      rcases this with rfl | rfl | rfl | rfl | rfl | rfl <;> (cases he; rfl)
    · obtain ⟨k, rfl⟩ : ∃ k, a = k + 8 := ⟨a - 8, by omega⟩
      cases he
  · have hc : a = 0 ∨ a = 1 ∨ (2 ≤ a ∧ a < 8) ∨ 8 ≤ a := by omega
    rcases hc with rfl | rfl | hc | hc
    · cases he; exact ⟨_, _, rfl, by decide⟩
    · cases he; exact ⟨_, _, rfl, by decide⟩
    · have : a = 2 ∨ a = 3 ∨ a = 4 ∨ a = 5 ∨ a = 6 ∨ a = 7 := by omega
      rcases this with rfl | rfl | rfl | rfl | rfl | rfl <;> (cases he; exact ⟨_, _, rfl, Nat.le_of_ble_eq_true rfl⟩)
    · obtain ⟨k, rfl⟩ : ∃ k, a = k + 8 := ⟨a - 8, by omega⟩
      cases he
  · rw [hb]
    show base = cn_g th base 10
    unfold cn_g
    rw [if_neg (by omega), if_neg (by omega)]
    omega
theorem cn_r1_eq : cn_r1 = some (none, cn_2) := by
  have h := cn_r1_ok
  unfold cn_2
  cases e : cn_r1 with
  | none => rw [e] at h; cases h
  | some q =>
    rw [e] at h
    obtain ⟨r, s⟩ := q
    simp only [Option.map_some, Option.some.injEq, Prod.mk.injEq] at h
    rw [h.1]
    rfl
theorem cn_2_n : cn_2.2 = (49, 238) := by
  have h := cn_r1_ok
  rw [cn_r1_eq] at h
  simp only [Option.map_some, Option.some.injEq, Prod.mk.injEq] at h
  exact h.2
theorem cn_rm_eq : cn_rm = some (none, cn_m) := by
  have h := cn_rm_ok
  unfold cn_m
  cases e : cn_rm with
  | none => rw [e] at h; cases h
  | some q =>
    rw [e] at h
    obtain ⟨r, s⟩ := q
    simp only [Option.map_some, Option.some.injEq, Prod.mk.injEq] at h
    rw [h.1]
    rfl
theorem cn_m_n : cn_m.2 = (73, 46997) := by
  have h := cn_rm_ok
  rw [cn_rm_eq] at h
  simp only [Option.map_some, Option.some.injEq, Prod.mk.injEq] at h
  exact h.2
theorem bg_class (hth : ∀ z, z < 8 → th z < base) (hb : H.2.1 = base) (hK : bg_K th H) : jc th 20 0 [.ref base] (jx_mk H (.inr (0, tb_df 0)) 13) (fun r H' => r = none ∧ rl (cn_g th base) base H cn_2 H') := by
  have hR := (bg_0 hb hK).mk (e := .inr (0, tb_df 0)) (cn_G hth) 13
  simp only [jx_rnE, tb_df_r] at hR
  have := cn_call_r (cn_G hth) 20 3000 0 [.ref 10] cn_1 none cn_2 _ cn_r1_eq hR
  rw [show [Value.ref 10].map (jx_rn (cn_g th base)) = [.ref base] from rfl] at this
  exact this.mp (fun r H' h => ⟨h.1, h.2⟩)
theorem bg_ref (hth : ∀ z, z < 8 → th z < base) (hb : H.2.1 = base) (hK : bg_K th H) : jc th 20 180 [.ref base] (jx_mk H (.inr (12, tb_df 12)) 92) (fun r H' => r = none ∧ rl (cn_g th base) base H cn_m H') := by
  have hR := (bg_0 hb hK).mk (e := .inr (12, tb_df 12)) (cn_G hth) 92
  simp only [jx_rnE, tb_df_r] at hR
  have := cn_call_r (cn_G hth) 20 3000 180 [.ref 10] cn_m1 none cn_m _ cn_rm_eq hR
  rw [show [Value.ref 10].map (jx_rn (cn_g th base)) = [.ref base] from rfl] at this
  exact this.mp (fun r H' h => ⟨h.1, h.2⟩)
/-- an object, an array at its beginning -/
theorem bg_o {H0 : jx_S} {g : Nat → Nat} {σ : jx_S} (h : rl g base H0 σ H) {a ci : Nat} {fs : List Value} (ho : cn_o σ a = some (ci, fs)) : H.1 (g a) = some (.inr (ci, fs.map (jx_rn g))) := by
  unfold cn_o at ho
  split at ho
  · rename_i o e
    cases ho
    exact h.1 a _ e
  · cases ho
theorem bg_a {H0 : jx_S} {g : Nat → Nat} {σ : jx_S} (h : rl g base H0 σ H) {a t n : Nat} (ho : cn_a σ a = some (t, n, 0)) : H.1 (g a) = some (.inl (t, n, .inl (cn_int σ a))) := by
  unfold cn_a at ho
  split at ho
  · rename_i t' n' f e
    cases ho
    rw [h.1 a _ e, show cn_int σ a = f from funext (fun j => by unfold cn_int; rw [e])]
    rfl
  · cases ho
  · cases ho
  · cases ho
theorem bg_l {H0 : jx_S} {g : Nat → Nat} {σ : jx_S} (h : rl g base H0 σ H) {a t n : Nat} (ho : cn_a σ a = some (t, n, 1)) : H.1 (g a) = some (.inl (t, n, .inr (.inl (cn_lng σ a)))) := by
  unfold cn_a at ho
  split at ho
  · cases ho
  · rename_i t' n' f e
    cases ho
    rw [h.1 a _ e, show cn_lng σ a = f from funext (fun j => by unfold cn_lng; rw [e])]
    rfl
  · cases ho
  · cases ho
theorem rf_v_rn {g : Nat → Nat} (hg : ∀ a, 10 ≤ a → g a = base + (a - 10)) (f : jx_F) (k : Nat) : jx_rn g (rf_v 10 f k) = rf_v base f k := by
  unfold rf_v
  split
  · rfl
  · rfl
  · rfl
  · show Value.ref (g (10 + rf_r.getD k 0)) = _
    rw [hg _ (by omega), show 10 + rf_r.getD k 0 - 10 = rf_r.getD k 0 by omega]
theorem rf_e_i {f : jx_F} {k : Nat} {c : Nat → Int32} (ht : rf_t.getD k 99 ≠ 2) (hc : f.1 k = c) : rf_e f k = .inl (rf_t.getD k 99, rf_n.getD k 0, .inl c) := by
  subst hc
  unfold rf_e
  split
  · rename_i e; exact absurd e ht
  · rfl
theorem rf_e_l {f : jx_F} {k : Nat} {c : Nat → Int64} (ht : rf_t.getD k 99 = 2) (hc : f.2 k = c) : rf_e f k = .inl (rf_t.getD k 99, rf_n.getD k 0, .inr (.inl c)) := by
  subst hc
  unfold rf_e
  rw [ht]
  rfl
theorem rf_0_i {k : Nat} (h : rf_t.getD k 99 < 4) : rf_0.1 k = cn_int cn_m (10 + rf_r.getD k 0) := funext (fun _ => if_pos h)
theorem rf_0_l {k : Nat} (h : rf_t.getD k 99 < 4) : rf_0.2 k = cn_lng cn_m (10 + rf_r.getD k 0) := funext (fun _ => if_pos h)
theorem rf_start {H0 : jx_S} {g : Nat → Nat} (hg : ∀ a, 10 ≤ a → g a = base + (a - 10)) (h : rl g base H0 cn_m H) : H = rf H base rf_0 := by
  have h10 : g 10 = base := by rw [hg 10 (Nat.le_refl _)]; omega
  refine rf_ext rfl (fun a => ?_)
  by_cases e : a = base
  · have h1 := bg_o h cn_mo_ok
    rw [h10, cn_mo_v, List.map_map] at h1
    rw [e, h1, rf_obj, show (jx_rn g ∘ rf_v 10 rf_0) = rf_v base rf_0 from funext (fun k => rf_v_rn hg rf_0 k)]
  · by_cases e1 : base < a ∧ a < base + 63
    · have hi : a - base - 1 < 62 := by omega
      have hs := cn_ma_ok _ hi
      have hv := rf_inv_d _ hi
      have hga : g (11 + (a - base - 1)) = a := by rw [hg _ (by omega)]; omega
      have e10 : 10 + rf_r.getD (rf_i.getD (a - base - 1) 0) 0 = 11 + (a - base - 1) := by rw [hv.1]; omega
      have ha : (rf H base rf_0).1 a = some (rf_e rf_0 (rf_i.getD (a - base - 1) 0)) := by
        show (if _ then _ else _) = _
        rw [if_neg e, if_pos e1]
      rw [ha]
      by_cases ht : rf_t.getD (rf_i.getD (a - base - 1) 0) 99 = 2
      · rw [if_pos ht] at hs
        have h1 := bg_l h hs
        rw [hga] at h1
        rw [h1, rf_e_l ht (rf_0_l hv.2), e10]
      · rw [if_neg ht] at hs
        have h1 := bg_a h hs
        rw [hga] at h1
        rw [h1, rf_e_i ht (rf_0_i hv.2), e10]
    · have ha : (rf H base rf_0).1 a = H.1 a := by
        show (if _ then _ else _) = _
        rw [if_neg e, if_neg e1]
      rw [ha]
end JxBegin
