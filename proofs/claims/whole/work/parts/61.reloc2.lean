/-! RUNS WITHOUT A SCRIPT, carried over: instructions, calls, the whole run -/
section JxReloc2
variable {g th0 th : Nat → Nat} {base : Nat} {H0 σ σ' H : jx_S} {a b i len pc : Nat} {ins : Instr} {st st' : List Value}
theorem jx_copy_r {a0 t n0 : Nat} {sp dp n : Int32} {f : Nat → Int32} (h : rl g base H0 σ H) (hg : rl_G g th0 th base) (h0 : σ.1 a0 = some (.inl (t, n0, .inl f))) (hv : jx_copy σ a0 sp a dp n = some σ') : ∃ H', jx_copy H (g a0) sp (g a) dp n = some H' ∧ rl g base H0 σ' H' := by
  unfold jx_copy at hv ⊢
  rw [h0] at hv
  rw [h.1 a0 _ h0]
  split at hv
  · rename_i t0 n0' f' t1 n1 g1 e0 e1
    cases e0
    rw [h.1 a _ e1]
    split at hv
    · rename_i hc
      cases hv
      simp only [jx_rnE, if_pos hc]
      exact ⟨_, rfl, h.up hg (h.dyn e1 (fun t' y z => by cases z; omega))⟩
    · cases hv
  · rename_i e0 e1
    cases e0
  · cases hv
theorem tb_df_r (ci : Nat) : (tb_df ci).map (jx_rn g) = tb_df ci := by
  unfold tb_df
  split
  · rw [List.map_map]
    refine List.map_congr_left (fun k _ => ?_)
    simp only [Function.comp]
    unfold jx_dflt
    split <;> rfl
  · rfl
theorem jx_emp_r (t n : Nat) : jx_rnE g (.inl (t, n, jx_emp t)) = .inl (t, n, jx_emp t) := by
  unfold jx_emp
  split <;> rfl
theorem tb_sta_d : tb_staL.all (fun q => Nat.blt q.2.2.1 8) = true := by decide +kernel
theorem tb_sta_lt {o idx z : Nat} (h : tb_sta o idx = some z) : z < 8 := by
  unfold tb_sta at h
  obtain ⟨q, hq, rfl⟩ := Option.map_eq_some_iff.mp h
  exact Nat.le_of_ble_eq_true (List.all_eq_true.mp tb_sta_d q (List.mem_of_find?_eq_some hq))
set_option maxHeartbeats 4000000 in
theorem cn_hp_r (h : rl g base H0 σ H) (hg : rl_G g th0 th base) (hv : cn_hp th0 i ins len st σ = some (st', σ')) : ∃ H', jx_hp th i ins len (st.map (jx_rn g)) H = some (st'.map (jx_rn g), H') ∧ rl g base H0 σ' H' := by
  unfold cn_hp at hv
  split at hv
  · simp only [jx_hp] at hv
    split at hv
    · split at hv
      · rename_i h3
        obtain ⟨q, hq, hv⟩ := Option.bind_eq_some_iff.mp hv
        obtain ⟨v, hv1, e⟩ := Option.map_eq_some_iff.mp hv
        cases e
        refine ⟨H, ?_, h⟩
        show (if len = 3 then (tb_fld (tb_ow i) _).bind (fun q => (jx_getF H (g _) q.1 q.2).map (fun v => (v :: List.map (jx_rn g) _, H))) else none) = _
        rw [if_pos h3, hq, Option.bind_some, jx_getF_r h hv1]
        rfl
      · cases hv
    · cases hv
  · simp only [jx_hp] at hv
    split at hv
    · split at hv
      · rename_i h3
        obtain ⟨q, hq, hv⟩ := Option.bind_eq_some_iff.mp hv
        split at hv
        · rename_i hw
          obtain ⟨s1, hv, e⟩ := Option.map_eq_some_iff.mp hv
          cases e
          obtain ⟨H', e1, e2⟩ := jx_putF_r h hg hv
          refine ⟨H', ?_, e2⟩
          show (if len = 3 then (tb_fld (tb_ow i) _).bind (fun q => if jx_wr i q.1 q.2 = true then (jx_putF H (g _) q.1 q.2 (jx_rn g _)).map (fun σ' => (List.map (jx_rn g) _, σ')) else none) else none) = _
          rw [if_pos h3, hq, Option.bind_some, if_pos hw, e1]
          rfl
        · cases hv
      · cases hv
    · cases hv
  · simp only [jx_hp] at hv
    split at hv
    · rename_i h3
      obtain ⟨z, hz, e⟩ := Option.map_eq_some_iff.mp hv
      cases e
      exact ⟨H, by simp only [jx_hp, if_pos h3, hz, Option.map_some, List.map_cons, jx_rn, hg.2.2 z (tb_sta_lt hz)], h⟩
    · cases hv
  · simp only [jx_hp] at hv
    split at hv
    · rename_i h3
      obtain ⟨z, hz, hv⟩ := Option.bind_eq_some_iff.mp hv
      obtain ⟨q, hq, e⟩ := Option.map_eq_some_iff.mp hv
      cases e
      unfold jx_newo at hq
      split at hq
      · rename_i r e1
        cases hq
        have := h.mk (e := .inr (z, tb_df z)) hg r.2.2
        simp only [jx_rnE, tb_df_r] at this
        refine ⟨_, ?_, this⟩
        simp only [jx_hp, if_pos h3, hz, Option.bind_some, jx_newo, e1, Option.map_some, List.map_cons, jx_rn, h.2.2.1]
      · cases hq
    · cases hv
  · simp only [jx_hp] at hv
    split at hv
    · rename_i n r
      split at hv
      · rename_i h3
        obtain ⟨z, hz, hv⟩ := Option.bind_eq_some_iff.mp hv
        obtain ⟨q, hq, e⟩ := Option.map_eq_some_iff.mp hv
        cases e
        unfold jx_newa at hq
        split at hq
        · cases hq
        · rename_i hn
          cases hq
          have := h.mk (e := .inl (z, n.toNatClampNeg, jx_emp z)) hg n.toNatClampNeg
          rw [jx_emp_r] at this
          refine ⟨_, ?_, this⟩
          simp only [jx_hp, List.map_cons, jx_rn, if_pos h3, hz, Option.bind_some, jx_newa, if_neg hn, Option.map_some, h.2.2.1]
      · cases hv
    · cases hv
  · simp only [jx_hp] at hv
    split at hv
    · rename_i n r
      split at hv
      · rename_i h3
        obtain ⟨z, hz, hv⟩ := Option.bind_eq_some_iff.mp hv
        obtain ⟨q, hq, e⟩ := Option.map_eq_some_iff.mp hv
        cases e
        unfold jx_newa at hq
        split at hq
        · cases hq
        · rename_i hn
          cases hq
          have := h.mk (e := .inl (z, n.toNatClampNeg, jx_emp z)) hg n.toNatClampNeg
          rw [jx_emp_r] at this
          refine ⟨_, ?_, this⟩
          simp only [jx_hp, List.map_cons, jx_rn, if_pos h3, hz, Option.bind_some, jx_newa, if_neg hn, Option.map_some, h.2.2.1]
      · cases hv
    · cases hv
  · simp only [jx_hp] at hv
    split at hv
    · split at hv
      · rename_i h3
        obtain ⟨z, hz, e⟩ := Option.map_eq_some_iff.mp hv
        cases e
        exact ⟨H, by simp only [jx_hp, List.map_cons, jx_rn, if_pos h3, jx_al_r h hz, Option.map_some], h⟩
      · cases hv
    · cases hv
  · simp only [jx_hp] at hv
    split at hv
    · split at hv
      · rename_i h3
        obtain ⟨z, hz, e⟩ := Option.map_eq_some_iff.mp hv
        cases e
        exact ⟨H, by simp only [jx_hp, List.map_cons, jx_rn, if_pos h3, jx_ild_r h hz, Option.map_some], h⟩
      · cases hv
    · cases hv
  · simp only [jx_hp] at hv
    split at hv
    · split at hv
      · rename_i h3
        obtain ⟨z, hz, e⟩ := Option.map_eq_some_iff.mp hv
        cases e
        exact ⟨H, by simp only [jx_hp, List.map_cons, jx_rn, if_pos h3, jx_ild_r h hz, Option.map_some], h⟩
      · cases hv
    · cases hv
  · simp only [jx_hp] at hv
    split at hv
    · split at hv
      · rename_i h3
        obtain ⟨z, hz, e⟩ := Option.map_eq_some_iff.mp hv
        cases e
        obtain ⟨H', e1, e2⟩ := jx_ist_r h hg hz
        exact ⟨H', by simp only [jx_hp, List.map_cons, jx_rn, if_pos h3, e1, Option.map_some], e2⟩
      · cases hv
    · cases hv
  · simp only [jx_hp] at hv
    split at hv
    · split at hv
      · rename_i h3
        obtain ⟨z, hz, e⟩ := Option.map_eq_some_iff.mp hv
        cases e
        obtain ⟨H', e1, e2⟩ := jx_bst_r h hg hz
        exact ⟨H', by simp only [jx_hp, List.map_cons, jx_rn, if_pos h3, e1, Option.map_some], e2⟩
      · cases hv
    · cases hv
  · simp only [jx_hp] at hv
    split at hv
    · rename_i v j o r
      split at hv
      · rename_i h3
        obtain ⟨z, hz, e⟩ := Option.map_eq_some_iff.mp hv
        cases e
        obtain ⟨H', e1, e2⟩ := jx_ast_r h hg hz
        refine ⟨H', ?_, e2⟩
        show (if len = 1 then (jx_ast H (g o) j (jx_rn g v)).map (fun σ' => (List.map (jx_rn g) st', σ')) else none) = _
        rw [if_pos h3, e1]
        rfl
      · cases hv
    · cases hv
  · rename_i idx
    split at hv
    · cases hv
    · rename_i hl
      simp only [jx_hp] at hv
      split at hv
      · rename_i h3
        split at hv
        · rename_i x hx
          cases hv
          exact ⟨H, by simp only [jx_hp, if_pos h3, hx, List.map_cons, jx_rn], h⟩
        · rename_i hx
          exact absurd hx hl
      · cases hv
  · rename_i idx
    split at hv
    · rename_i y x r hb
      simp only [jx_hp] at hv
      split at hv
      · rename_i h3
        rw [hb, Option.bind_some] at hv
        simp only [jx_bs] at hv
        split at hv
        · rename_i hs
          cases hv
          refine ⟨H, ?_, h⟩
          simp only [jx_hp, if_pos h3, hb, Option.bind_some, List.map_cons, jx_rn, jx_bs, jx_sm_rn, if_pos hs]
        · cases hv
      · cases hv
    · rename_i y x r hb
      simp only [jx_hp] at hv
      split at hv
      · rename_i h3
        rw [hb, Option.bind_some] at hv
        simp only [jx_bs] at hv
        split at hv
        · rename_i hs
          cases hv
          refine ⟨H, ?_, h⟩
          simp only [jx_hp, if_pos h3, hb, Option.bind_some, List.map_cons, jx_rn, jx_bs, jx_sm_rn, if_pos hs]
        · cases hv
      · cases hv
    · rename_i n dp a1 sp a0 r hb
      split at hv
      · rename_i e0
        simp only [jx_hp] at hv
        split at hv
        · rename_i h3
          rw [hb, Option.bind_some] at hv
          simp only [jx_bs] at hv
          split at hv
          · rename_i hs
            obtain ⟨s1, hz, e⟩ := Option.map_eq_some_iff.mp hv
            cases e
            obtain ⟨H', e1, e2⟩ := jx_copy_r h hg e0 hz
            refine ⟨H', ?_, e2⟩
            simp only [jx_hp, if_pos h3, hb, Option.bind_some, List.map_cons, jx_rn, jx_bs, jx_sm_rn, if_pos hs, e1, Option.map_some]
          · cases hv
        · cases hv
      · cases hv
    · cases hv
  · simp only [jx_hp] at hv
    split at hv
    · split at hv
      · rename_i hc
        cases hv
        exact ⟨H, by simp only [jx_hp, List.map_cons, jx_rn, jx_sm_rn, if_pos hc], h⟩
      · cases hv
    · cases hv
  · cases hv
theorem cn_br_r {t : Nat} (hv : cn_br ins len pc st = some (t, st')) : jx_br ins len pc (st.map (jx_rn g)) = some (t, st'.map (jx_rn g)) := by
  unfold cn_br at hv
  split at hv
  · simp only [jx_br] at hv ⊢
    split at hv
    · rename_i h3
      obtain ⟨z, hz, e⟩ := Option.map_eq_some_iff.mp hv
      cases e
      rw [if_pos h3, hz]
      rfl
    · cases hv
  · simp only [jx_br] at hv ⊢
    split at hv
    · split at hv
      · rename_i h3
        unfold jx_if at hv
        split at hv
        · rename_i e
          cases hv
          simp only [List.map_cons, jx_rn, if_pos h3]
          unfold jx_if
          rw [e]
        · cases hv
      · cases hv
    · cases hv
  · simp only [jx_br] at hv ⊢
    split at hv
    · split at hv
      · rename_i h3
        unfold jx_if at hv
        split at hv
        · rename_i e
          cases hv
          simp only [List.map_cons, jx_rn, if_pos h3]
          unfold jx_if
          rw [e]
        · cases hv
      · cases hv
    · cases hv
  · cases hv
theorem jx_ret_r {rt : Option FieldType} {r : Option Value} (hv : jx_ret rt ins len st = some r) : jx_ret rt ins len (st.map (jx_rn g)) = some (r.map (jx_rn g)) := by
  unfold jx_ret at hv ⊢
  split at hv
  · split at hv
    · rename_i hc
      cases hv
      obtain ⟨h1, h2, rfl⟩ := hc
      simp only [List.map_nil, h1, h2, and_self, if_true, Option.map_none]
    · cases hv
  · split at hv
    · split at hv
      · rename_i hc
        cases hv
        simp only [List.map_cons, List.map_nil, jx_rn, if_pos hc, Option.map_some]
      · cases hv
    · cases hv
  · split at hv
    · split at hv
      · rename_i hc
        cases hv
        simp only [List.map_cons, List.map_nil, jx_rn, if_pos hc, Option.map_some]
      · cases hv
    · cases hv
  · split at hv
    · split at hv
      · rename_i hc
        cases hv
        simp only [List.map_cons, List.map_nil, jx_rn_R, if_pos hc, Option.map_some]
      · cases hv
    · split at hv
      · rename_i hc
        cases hv
        simp only [List.map_cons, List.map_nil, jx_rn_R, if_pos hc, Option.map_some]
      · cases hv
    · cases hv
  · cases hv
set_option maxHeartbeats 4000000 in
/-- the run at its own addresses is the run where the heap ends -/
theorem cn_loop_r (hg : rl_G g th0 th base) {call : Nat → List Value → jx_S → Option (Option Value × jx_S)} {d : Nat} (hcall : ∀ j as σ r σ' H, call j as σ = some (r, σ') → rl g base H0 σ H → jc th d j (as.map (jx_rn g)) H (fun r' H' => r' = r.map (jx_rn g) ∧ rl g base H0 σ' H')) :
    ∀ (n pc : Nat) (l : jx_L) (st : List Value) (σ : jx_S) (r : Option Value) (σ' : jx_S), cn_loop th0 call n i pc l st σ = some (r, σ') → ∀ (L : jx_L) (H : jx_S), jx_Lr g l L → rl g base H0 σ H → jw th d i pc L (st.map (jx_rn g)) H (fun r' H' => r' = r.map (jx_rn g) ∧ rl g base H0 σ' H') := by
  intro n
  induction n with
  | zero => intro pc l st σ r σ' h; cases h
  | succ n ih =>
    intro pc l st σ r σ' h L H hL hR
    unfold cn_loop at h
    split at h
    · rename_i ins len hd
      split at h
      · rename_i r0 e
        cases h
        exact jw_ret hd (jx_ret_r e) ⟨rfl, hR⟩
      · split at h
        · rename_i q e
          split at e
          · rename_i hl
            obtain ⟨L', e', hL'⟩ := jx_pure_r e hL
            exact jw_pure hd hl e' (ih _ _ _ _ _ _ h L' H hL' hR)
          · cases e
        · split at h
          · rename_i q e
            exact jw_br hd (cn_br_r e) (ih _ _ _ _ _ _ h L H hL hR)
          · split at h
            · rename_i q e
              obtain ⟨H', e1, e2⟩ := cn_hp_r hR hg e
              exact jw_hp hd e1 (ih _ _ _ _ _ _ h L H' hL e2)
            · split at h
              · rename_i q e
                split at h
                · rename_i w hw
                  have kk : jc th d q.1 (q.2.1.map (jx_rn g)) H (fun v H' => jw th d i (pc + len) L (v.toList ++ q.2.2.map (jx_rn g)) H' (fun r' H' => r' = r.map (jx_rn g) ∧ rl g base H0 σ' H')) := by
                    refine jc.mp (hcall _ _ _ w.1 w.2 H hw hR) (fun v H' ⟨e1, e2⟩ => ?_)
                    subst e1
                    rw [jx_toL]
                    exact ih _ _ _ _ _ _ h L H' hL e2
                  unfold cn_cl at e
                  split at e
                  · split at e
                    · rename_i hc
                      obtain ⟨rfl, hno⟩ := hc
                      split at e
                      · rename_i kd j n' ci hi
                        split at e
                        · rename_i hk
                          split at e
                          · rename_i b r0 hdp
                            split at e
                            · rename_i hs
                              cases e
                              obtain ⟨e1, e2⟩ := jx_drop_eq hdp
                              have est : st.map (jx_rn g) = (st.take n').map (jx_rn g) ++ .ref (g b) :: r0.map (jx_rn g) := by
                                have := congrArg (List.map (jx_rn g)) e1
                                simpa only [List.map_append, List.map_cons, jx_rn] using this
                              have eas : (Value.ref b :: (st.take n').reverse).map (jx_rn g) = .ref (g b) :: ((st.take n').map (jx_rn g)).reverse := by
                                rw [List.map_cons, List.map_reverse]
                                rfl
                              have hlen : ((st.take n').map (jx_rn g)).length = n' := by rw [List.length_map]; exact e2
                              simp only at kk
                              rw [eas] at kk
                              rw [est]
                              exact jw_callv hd rfl hno (by rw [hlen]; exact hi) hk (by rw [jx_sm_rn]; exact hs.1) (jx_isC_r hR hs.2) kk
                            · cases e
                          · cases e
                        · cases e
                      · cases e
                    · cases e
                  · split at e
                    · rename_i hc
                      obtain ⟨rfl, hno⟩ := hc
                      split at e
                      · rename_i kd j n' ci hi
                        split at e
                        · rename_i hk
                          split at e
                          · rename_i b r0 hdp
                            split at e
                            · rename_i hs
                              cases e
                              obtain ⟨e1, e2⟩ := jx_drop_eq hdp
                              have est : st.map (jx_rn g) = (st.take n').map (jx_rn g) ++ .ref (g b) :: r0.map (jx_rn g) := by
                                have := congrArg (List.map (jx_rn g)) e1
                                simpa only [List.map_append, List.map_cons, jx_rn] using this
                              have eas : (Value.ref b :: (st.take n').reverse).map (jx_rn g) = .ref (g b) :: ((st.take n').map (jx_rn g)).reverse := by
                                rw [List.map_cons, List.map_reverse]
                                rfl
                              have hlen : ((st.take n').map (jx_rn g)).length = n' := by rw [List.length_map]; exact e2
                              simp only at kk
                              rw [eas] at kk
                              rw [est]
                              exact jw_calli hd rfl hno (by rw [hlen]; exact hi) hk.1 hk.2 (by rw [jx_sm_rn]; exact hs) kk
                            · cases e
                          · cases e
                        · cases e
                      · cases e
                    · cases e
                  · split at e
                    · rename_i hc
                      obtain ⟨rfl, hno⟩ := hc
                      split at e
                      · rename_i kd j n' ci hi
                        split at e
                        · rename_i hk
                          cases e
                          obtain ⟨rfl, hb, hs⟩ := hk
                          have est : st.map (jx_rn g) = (st.take n').map (jx_rn g) ++ (st.drop n').map (jx_rn g) := by
                            rw [← List.map_append, List.take_append_drop]
                          have hlen : ((st.take n').map (jx_rn g)).length = n' := by rw [List.length_map, List.length_take]; omega
                          simp only [List.map_reverse] at kk
                          rw [est]
                          exact jw_calls hd rfl hno (by rw [hlen]; exact hi) (by rw [jx_sm_rn]; exact hs) kk
                        · cases e
                      · cases e
                    · cases e
                  · cases e
                · cases h
              · cases h
    · cases h
theorem cn_call_r (hg : rl_G g th0 th base) : ∀ (d n j : Nat) (as : List Value) (σ : jx_S) (r : Option Value) (σ' : jx_S) (H : jx_S), cn_call th0 d n j as σ = some (r, σ') → rl g base H0 σ H → jc th d j (as.map (jx_rn g)) H (fun r' H' => r' = r.map (jx_rn g) ∧ rl g base H0 σ' H') := by
  intro d
  induction d with
  | zero => intro n j as σ r σ' H h; cases h
  | succ d ih =>
    intro n j as σ r σ' H h hR
    unfold cn_call at h
    split at h
    · rename_i hl
      exact jc.of (by rw [jx_sl_rn]; exact hl) (cn_loop_r hg (fun j as σ r σ' H h1 h2 => ih n j as σ r σ' H h1 h2) n 0 _ _ _ _ _ h _ H (jx_args_r as 0) hR)
    · cases h
end JxReloc2
