/-! THE REFERENCE'S STATE, FLAT: what an instruction needs -/
def rf_hp (q : jx_D) (st : List Value) (f : jx_F) (K : List Value → jx_F → Prop) : Prop := match q with
  | (_, _, _, kd, a, b, _, sw, w) => match kd, st with
    | 11, .ref 0 :: r => (match Nat.beq a 12 with
      | true => (match rf_t.getD b 99 with
        | 10 => K (.int (f.1 b 0) :: r) f
        | 12 => K (.int (f.1 b 0) :: r) f
        | 11 => K (.long (f.2 b 0) :: r) f
        | 99 => False
        | _ => K (.ref (b + 1) :: r) f)
      | false => False)
    | 12, v :: .ref 0 :: r => (match Nat.beq a 12 with
      | true => (match rf_t.getD b 99, v with
        | 10, .int x => K r (rf_ui f b 0 x)
        | 12, .int x => (x = 0 ∨ x = 1) ∧ K r (rf_ui f b 0 x)
        | 11, .long x => K r (rf_ul f b 0 x)
        | _, _ => False)
      | false => False)
    | 18, .int j :: .ref (k + 1) :: r => (match rf_t.getD k 99 with
      | 1 => jx_in j (rf_n.getD k 0) ∧ K (.int (f.1 k j.toNatClampNeg) :: r) f
      | _ => False)
    | 19, .int j :: .ref (k + 1) :: r => (match rf_t.getD k 99 with
      | 0 => jx_in j (rf_n.getD k 0) ∧ K (.int (f.1 k j.toNatClampNeg) :: r) f
      | 3 => jx_in j (rf_n.getD k 0) ∧ K (.int (f.1 k j.toNatClampNeg) :: r) f
      | _ => False)
    | 20, .int j :: .ref (k + 1) :: r => (match rf_t.getD k 99 with
      | 2 => jx_in j (rf_n.getD k 0) ∧ K (.long (f.2 k j.toNatClampNeg) :: r) f
      | _ => False)
    | 22, .int x :: .int j :: .ref (k + 1) :: r => (match rf_t.getD k 99 with
      | 1 => jx_in j (rf_n.getD k 0) ∧ K r (rf_ui f k j.toNatClampNeg x)
      | _ => False)
    | 23, .int x :: .int j :: .ref (k + 1) :: r => (match rf_t.getD k 99 with
      | 0 => jx_in j (rf_n.getD k 0) ∧ K r (rf_ui f k j.toNatClampNeg (vp_nar .byte x))
      | 3 => jx_in j (rf_n.getD k 0) ∧ K r (rf_ui f k j.toNatClampNeg (vp_nar .boolean x))
      | _ => False)
    | 24, .long x :: .int j :: .ref (k + 1) :: r => (match rf_t.getD k 99 with
      | 2 => jx_in j (rf_n.getD k 0) ∧ K r (rf_ul f k j.toNatClampNeg x)
      | _ => False)
    | 27, st => (match sw with
      | [(x, _)] => K (.int x :: st) f
      | _ => False)
    | 28, st => K (.long w :: st) f
    | _, _ => False
def rf_rc (_ : jx_F) (o c : Nat) (P : Prop) : Prop := match o, Nat.beq c 12 with
  | 0, true => P
  | _, _ => False
theorem rf_tlt {k t : Nat} (h : rf_t.getD k 99 = t) (ht : t ≠ 99) : k < 92 := by
  rcases Nat.lt_or_ge k 92 with h1 | h1
  · exact h1
  · have e : rf_t.getD k 99 = 99 := by
      rw [List.getD_eq_getElem?_getD, List.getElem?_eq_none (by exact h1)]
      rfl
    exact absurd (h.symm.trans e) ht
theorem rf_arr_d : ∀ k, k < 92 → rf_t.getD k 99 < 4 → (1 ≤ rf_r.getD k 0 ∧ rf_r.getD k 0 < 63) ∧ rf_i.getD (rf_r.getD k 0 - 1) 0 = k := by decide +kernel
theorem rf_inv_d : ∀ i, i < 62 → rf_r.getD (rf_i.getD i 0) 0 = i + 1 ∧ rf_t.getD (rf_i.getD i 0) 99 < 4 := by decide +kernel
theorem rf_tt_d : ∀ k, k < 92 → (rf_t.getD k 99 = 10 → tb_tt 12 k = .int) ∧ (rf_t.getD k 99 = 12 → tb_tt 12 k = .boolean) ∧ (rf_t.getD k 99 = 11 → tb_tt 12 k = .long) := by decide +kernel
section JxFlat
variable {σ0 : jx_S} {m k j : Nat} {f : jx_F} {th : Nat → Nat}
theorem rf_obj : (rf σ0 m f).1 m = some (.inr (12, (List.range 92).map (rf_v m f))) := by simp [rf]
theorem rf_arr (h : rf_t.getD k 99 < 4) : (rf σ0 m f).1 (m + rf_r.getD k 0) = some (rf_e f k) := by
  have hk : k < 92 := rf_tlt rfl (by omega)
  obtain ⟨⟨h1, h2⟩, h3⟩ := rf_arr_d k hk h
  have n1 : ¬ m + rf_r.getD k 0 = m := by omega
  have n2 : m < m + rf_r.getD k 0 ∧ m + rf_r.getD k 0 < m + 63 := by omega
  show (if _ then _ else _) = _
  rw [if_neg n1, if_pos n2, show m + rf_r.getD k 0 - m - 1 = rf_r.getD k 0 - 1 by omega, h3]
theorem rf_getF {v : Value} (hk : k < 92) (hv : rf_v m f k = v) : jx_getF (rf σ0 m f) m 12 k = some v := jx_getF_of rf_obj (by simp [hk, hv])
theorem rf_ext {σ : jx_S} {f' : jx_F} (h1 : σ.2 = σ0.2) (h2 : ∀ a, σ.1 a = (rf σ0 m f').1 a) : σ = rf σ0 m f' := Prod.ext (funext h2) h1
theorem rf_e_ne {k' : Nat} {g1 : Nat → Nat → Int32} {g2 : Nat → Nat → Int64} (h1 : g1 k' = f.1 k') (h2 : g2 k' = f.2 k') : rf_e (g1, g2) k' = rf_e f k' := by
  unfold rf_e
  simp only [h1, h2]
theorem rf_set {v : Value} {f' : jx_F} (hk : k < 92) (ht : 4 ≤ rf_t.getD k 99) (hv : rf_v m f' k = v) (ho : ∀ k', k' ≠ k → f'.1 k' = f.1 k' ∧ f'.2 k' = f.2 k') : jx_up (rf σ0 m f) m (.inr (12, ((List.range 92).map (rf_v m f)).set k v)) = rf σ0 m f' := by
  refine rf_ext rfl (fun a => ?_)
  by_cases ha : a = m
  · subst ha
    rw [jx_up_eq, rf_obj]
    congr 3
    refine List.ext_getElem (by simp) (fun i h1 h2 => ?_)
    by_cases hi : i = k
    · subst hi
      simp [hv]
    · have := ho i hi
      simp [List.getElem_set_ne (Ne.symm hi), rf_v, this.1, this.2]
  · rw [jx_up_ne ha]
    show (if _ then _ else _) = (if _ then _ else _)
    rw [if_neg ha, if_neg ha]
    split
    · rename_i hb
      have := rf_inv_d (a - m - 1) (by omega)
      have hne : rf_i.getD (a - m - 1) 0 ≠ k := fun e => by rw [e] at this; omega
      obtain ⟨e1, e2⟩ := ho _ hne
      rw [show f' = (f'.1, f'.2) from rfl, rf_e_ne e1 e2]
    · rfl
theorem rf_setA {e : jx_E} {f' : jx_F} (ht : rf_t.getD k 99 < 4) (he : rf_e f' k = e) (ho : ∀ k', k' ≠ k → f'.1 k' = f.1 k' ∧ f'.2 k' = f.2 k') : jx_up (rf σ0 m f) (m + rf_r.getD k 0) e = rf σ0 m f' := by
  have hk : k < 92 := rf_tlt rfl (by omega)
  obtain ⟨⟨h1, h2⟩, h3⟩ := rf_arr_d k hk ht
  refine rf_ext rfl (fun a => ?_)
  by_cases ha : a = m + rf_r.getD k 0
  · subst ha
    rw [jx_up_eq, rf_arr ht, he]
  · rw [jx_up_ne ha]
    by_cases hm : a = m
    · subst hm
      rw [rf_obj, rf_obj]
      congr 3
      refine List.map_congr_left (fun k' hk' => ?_)
      unfold rf_v
      by_cases e : k' = k
      · subst e
        split <;> first | omega | rfl
      · rw [(ho k' e).1, (ho k' e).2]
    · show (if _ then _ else _) = (if _ then _ else _)
      rw [if_neg hm, if_neg hm]
      split
      · rename_i hb
        have := rf_inv_d (a - m - 1) (by omega)
        have hne : rf_i.getD (a - m - 1) 0 ≠ k := fun e => by rw [e] at this; omega
        obtain ⟨e1, e2⟩ := ho _ hne
        rw [show f' = (f'.1, f'.2) from rfl, rf_e_ne e1 e2]
      · rfl
theorem rf_ui_o {x : Int32} : ∀ k', k' ≠ k → (rf_ui f k j x).1 k' = f.1 k' ∧ (rf_ui f k j x).2 k' = f.2 k' := fun k' h => ⟨funext fun b => if_neg (fun z => h z.1), rfl⟩
theorem rf_ul_o {x : Int64} : ∀ k', k' ≠ k → (rf_ul f k j x).1 k' = f.1 k' ∧ (rf_ul f k j x).2 k' = f.2 k' := fun k' h => ⟨rfl, funext fun b => if_neg (fun z => h z.1)⟩
theorem rf_ui_k {x : Int32} : (rf_ui f k j x).1 k = upd (f.1 k) j x := by
  funext b
  simp [rf_ui, upd]
theorem rf_ul_k {x : Int64} : (rf_ul f k j x).2 k = vp_updL (f.2 k) j x := by
  funext b
  simp [rf_ul, vp_updL]
theorem rf_rcOK : jx_rcOK (rf_g m) (rf σ0 m) rf_rc := by
  intro s o c P h
  unfold rf_rc at h
  split at h
  · rename_i e
    have := Nat.eq_of_beq_eq_true e
    subst this
    exact ⟨jx_isC_of rf_obj, h⟩
  · exact h.elim
set_option maxHeartbeats 4000000 in
theorem rf_hpOK : jx_hpOK th (rf_g m) (rf σ0 m) rf_hp := by
  intro i q st f K hck hk h
  obtain ⟨pc, ins, len, kd, a, b, c, sw, w⟩ := q
  unfold jx_ck at hck
  simp only [Bool.and_eq_true, decide_eq_true_eq] at hck
  obtain ⟨-, hck⟩ := hck
  unfold rf_hp at h
  simp only at h
  split at h
  · rename_i r
    split at h
    · rename_i _ e
      have := Nat.eq_of_beq_eq_true e
      subst this
      simp only at hck
      split at hck
      · rename_i idx
        simp only [Bool.and_eq_true, decide_eq_true_eq] at hck
        obtain ⟨rfl, hf⟩ := hck
        have key : ∀ v v' : Value, rf_v m f b = v' → v' = jx_rn (rf_g m) v → b < 92 → jx_hp th i (.getfield idx) 3 ((.ref 0 :: r).map (jx_rn (rf_g m))) (rf σ0 m f) = some ((v :: r).map (jx_rn (rf_g m)), rf σ0 m f) := by
          intro v v' h1 h2 h3
          show (if 3 = 3 then (tb_fld (tb_ow i) idx).bind (fun q => (jx_getF (rf σ0 m f) m q.1 q.2).map (fun v => (v :: r.map (jx_rn (rf_g m)), rf σ0 m f))) else none) = _
          rw [if_pos rfl, hf, Option.bind_some]
          simp only
          rw [rf_getF h3 h1, h2]
          rfl
        split at h
        · rename_i _ e
          exact ⟨_, _, key (.int (f.1 b 0)) _ (by unfold rf_v; rw [e]; rfl) rfl (rf_tlt e (by decide)), h⟩
        · rename_i _ e
          exact ⟨_, _, key (.int (f.1 b 0)) _ (by unfold rf_v; rw [e]; rfl) rfl (rf_tlt e (by decide)), h⟩
        · rename_i _ e
          exact ⟨_, _, key (.long (f.2 b 0)) _ (by unfold rf_v; rw [e]; rfl) rfl (rf_tlt e (by decide)), h⟩
        · exact h.elim
        · rename_i n1 n2 n3 n4
          refine ⟨_, _, key (.ref (b + 1)) _ ?_ rfl (rf_tlt rfl (fun z => n4 z)), h⟩
          unfold rf_v
          split
          · rename_i e; exact absurd e n1
          · rename_i e; exact absurd e n2
          · rename_i e; exact absurd e n3
          · rfl
      · cases hck
    · exact h.elim
  · rename_i v r
    split at h
    · rename_i _ e
      have := Nat.eq_of_beq_eq_true e
      subst this
      simp only at hck
      split at hck
      · rename_i idx
        simp only [Bool.and_eq_true, decide_eq_true_eq] at hck
        obtain ⟨⟨rfl, hf⟩, hw⟩ := hck
        have key : ∀ (v' : Value) (f' : jx_F), jx_rn (rf_g m) v = v' → b < 92 → 4 ≤ rf_t.getD b 99 → jx_fit (tb_tt 12 b) v' = true → rf_v m f' b = v' → (∀ k', k' ≠ b → f'.1 k' = f.1 k' ∧ f'.2 k' = f.2 k') → jx_hp th i (.putfield idx) 3 ((v :: .ref 0 :: r).map (jx_rn (rf_g m))) (rf σ0 m f) = some (r.map (jx_rn (rf_g m)), rf σ0 m f') := by
          intro v' f' h1 h2 h3 h4 h5 h6
          show (if 3 = 3 then (tb_fld (tb_ow i) idx).bind (fun q => if jx_wr i q.1 q.2 = true then (jx_putF (rf σ0 m f) m q.1 q.2 (jx_rn (rf_g m) v)).map (fun σ' => (r.map (jx_rn (rf_g m)), σ')) else none) else none) = _
          rw [if_pos rfl, hf, Option.bind_some]
          simp only
          rw [if_pos hw, h1, jx_putF_of rf_obj (by simp [h2]) h4, rf_set h2 h3 h5 h6]
          rfl
        split at h
        · rename_i _ _ x e
          have hb := rf_tlt e (by decide)
          exact ⟨_, _, key _ (rf_ui f b 0 x) rfl hb (by omega) (by rw [(rf_tt_d b hb).1 e]; simp [jx_rn, jx_fit, narrow, fits]) (by unfold rf_v; rw [e]; simp [rf_ui, jx_rn]) rf_ui_o, h⟩
        · rename_i _ _ x e
          have hb := rf_tlt e (by decide)
          refine ⟨_, _, key _ (rf_ui f b 0 x) rfl hb (by omega) (by rw [(rf_tt_d b hb).2.1 e]; rcases h.1 with rfl | rfl <;> rfl) (by unfold rf_v; rw [e]; simp [rf_ui, jx_rn]) rf_ui_o, h.2⟩
        · rename_i _ _ x e
          have hb := rf_tlt e (by decide)
          exact ⟨_, _, key _ (rf_ul f b 0 x) rfl hb (by omega) (by rw [(rf_tt_d b hb).2.2 e]; simp [jx_rn, jx_fit, narrow, fits]) (by unfold rf_v; rw [e]; simp [rf_ul, jx_rn]) rf_ul_o, h⟩
        · exact h.elim
      · cases hck
    · exact h.elim
  · rename_i x k r
    split at h
    · rename_i _ e
      simp only [Bool.and_eq_true, decide_eq_true_eq] at hck
      obtain ⟨rfl, rfl⟩ := hck
      refine ⟨_, _, ?_, h.2⟩
      have ha := rf_arr (σ0 := σ0) (m := m) (f := f) (k := k) (by omega)
      simp only [jx_hp, List.map_cons, jx_rn, rf_g, if_true]
      unfold jx_ild
      rw [ha]
      simp only [rf_e, e]
      rw [if_pos ⟨by decide, h.1⟩]
      rfl
    · exact h.elim
  · rename_i x k r
    split at h
    · rename_i _ e
      simp only [Bool.and_eq_true, decide_eq_true_eq] at hck
      obtain ⟨rfl, rfl⟩ := hck
      refine ⟨_, _, ?_, h.2⟩
      have ha := rf_arr (σ0 := σ0) (m := m) (f := f) (k := k) (by omega)
      simp only [jx_hp, List.map_cons, jx_rn, rf_g, if_true]
      unfold jx_ild
      rw [ha]
      simp only [rf_e, e]
      rw [if_pos ⟨by decide, h.1⟩]
      rfl
    · rename_i _ e
      simp only [Bool.and_eq_true, decide_eq_true_eq] at hck
      obtain ⟨rfl, rfl⟩ := hck
      refine ⟨_, _, ?_, h.2⟩
      have ha := rf_arr (σ0 := σ0) (m := m) (f := f) (k := k) (by omega)
      simp only [jx_hp, List.map_cons, jx_rn, rf_g, if_true]
      unfold jx_ild
      rw [ha]
      simp only [rf_e, e]
      rw [if_pos ⟨by decide, h.1⟩]
      rfl
    · exact h.elim
  · rename_i x k r
    split at h
    · rename_i _ e
      simp only [Bool.and_eq_true, decide_eq_true_eq] at hck
      obtain ⟨rfl, rfl⟩ := hck
      refine ⟨_, _, ?_, h.2⟩
      have ha := rf_arr (σ0 := σ0) (m := m) (f := f) (k := k) (by omega)
      simp only [jx_hp, List.map_cons, jx_rn, rf_g, if_true]
      unfold jx_lld1
      rw [ha]
      simp only [rf_e, e]
      rw [if_pos ⟨trivial, h.1⟩]
      rfl
    · exact h.elim
  · rename_i x y k r
    split at h
    · rename_i _ e
      simp only [Bool.and_eq_true, decide_eq_true_eq] at hck
      obtain ⟨rfl, rfl⟩ := hck
      refine ⟨_, _, ?_, h.2⟩
      have ha := rf_arr (σ0 := σ0) (m := m) (f := f) (k := k) (by omega)
      simp only [jx_hp, List.map_cons, jx_rn, rf_g, if_true]
      unfold jx_ist
      rw [ha]
      simp only [rf_e, e]
      rw [if_pos ⟨trivial, h.1⟩, rf_setA (f' := rf_ui f k y.toNatClampNeg x) (by omega) (by unfold rf_e; rw [e]; simp only [rf_ui_k]) rf_ui_o]
      rfl
    · exact h.elim
  · rename_i x y k r
    split at h
    · rename_i _ e
      simp only [Bool.and_eq_true, decide_eq_true_eq] at hck
      obtain ⟨rfl, rfl⟩ := hck
      refine ⟨_, _, ?_, h.2⟩
      have ha := rf_arr (σ0 := σ0) (m := m) (f := f) (k := k) (by omega)
      simp only [jx_hp, List.map_cons, jx_rn, rf_g, if_true]
      unfold jx_bst
      rw [ha]
      simp only [rf_e, e]
      rw [if_pos ⟨trivial, h.1⟩, rf_setA (f' := rf_ui f k y.toNatClampNeg (vp_nar .byte x)) (by omega) (by unfold rf_e; rw [e]; simp only [rf_ui_k]) rf_ui_o]
      rfl
    · rename_i _ e
      simp only [Bool.and_eq_true, decide_eq_true_eq] at hck
      obtain ⟨rfl, rfl⟩ := hck
      refine ⟨_, _, ?_, h.2⟩
      have ha := rf_arr (σ0 := σ0) (m := m) (f := f) (k := k) (by omega)
      simp only [jx_hp, List.map_cons, jx_rn, rf_g, if_true]
      unfold jx_bst
      rw [ha]
      simp only [rf_e, e]
      rw [if_neg (by simp), if_pos ⟨trivial, h.1⟩, rf_setA (f' := rf_ui f k y.toNatClampNeg (vp_nar .boolean x)) (by omega) (by unfold rf_e; rw [e]; simp only [rf_ui_k]) rf_ui_o]
      rfl
    · exact h.elim
  · rename_i x y k r
    split at h
    · rename_i _ e
      simp only [Bool.and_eq_true, decide_eq_true_eq] at hck
      obtain ⟨rfl, rfl⟩ := hck
      refine ⟨_, _, ?_, h.2⟩
      have ha := rf_arr (σ0 := σ0) (m := m) (f := f) (k := k) (by omega)
      simp only [jx_hp, List.map_cons, jx_rn, rf_g, if_true]
      unfold jx_lst
      rw [ha]
      simp only [rf_e, e]
      rw [if_pos ⟨trivial, h.1⟩, rf_setA (f' := rf_ul f k y.toNatClampNeg x) (by omega) (by unfold rf_e; rw [e]; simp only [rf_ul_k]) rf_ul_o]
      rfl
    · exact h.elim
  · split at h
    · rename_i x y
      simp only at hck
      split at hck
      · rename_i idx x' _ e
        cases e
        simp only [Bool.and_eq_true, decide_eq_true_eq] at hck
        obtain ⟨rfl, hl⟩ := hck
        refine ⟨_, _, ?_, h⟩
        simp only [jx_hp, if_true, hl]
        rfl
      · rename_i idx x' _ e
        cases e
        simp only [Bool.and_eq_true, decide_eq_true_eq] at hck
        obtain ⟨rfl, hl⟩ := hck
        refine ⟨_, _, ?_, h⟩
        simp only [jx_hp, if_true, hl]
        rfl
      · cases hck
    · exact h.elim
  · simp only at hck
    split at hck
    · simp only [Bool.and_eq_true, decide_eq_true_eq] at hck
      obtain ⟨rfl, hl⟩ := hck
      refine ⟨_, _, ?_, h⟩
      simp only [jx_hp, if_true, hl]
      rfl
    · cases hck
  · exact h.elim
end JxFlat
