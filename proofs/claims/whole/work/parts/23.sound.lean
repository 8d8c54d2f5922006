/-! THE INTERPRETER is right: what it says of a method, the machine does -/
section JxLoop
variable {p : Program} {l : Launch} {e : Env} {R : Room} {s : State} {m : MethodId} {args : Array Value} {below : List Frame} {meth : Method} {c : Code} {Q : State → Prop}
variable {th : Nat → Nat} {D : va_G} {dA : Nat → ClassId} {base : Nat} {K : Nat → Option jx_E} {i d : Nat}
theorem jx_ret_ok {H : Heap} {locs : List Loc} {cells slots pc len : Nat} {ls : Array Slot} {st : List Value} {r : Option Value} {ins : Instr} {Qc : Array Value → State → Outcome → State → Prop} {free : Addr → Prop} (hx : p.tables.exec = Jvm.exec) (hb : c.code = tb_code i) (hr : meth.sig.returnType = tb_ret i) (hlocks : meth.locks = false) (h : jx_ret (tb_ret i) ins len st = some r) (hdg : decode (tb_code i) pc = .ok (ins, len))
    (hq : ∀ t : State, t.heap = H → s.WarmedH t.vm → Qc args s (.returned r) t) (hf : ∀ q ∈ locs, free q.base) : W p l e R s m args below meth c H locs cells slots (MQ below Qc args s cells slots free) (F0 m pc ls st) := by
  unfold jx_ret at h
  split at h
  · split at h
    · rename_i hh
      obtain ⟨rfl, hrt, rfl⟩ := hh
      cases h
      exact W.vret hx hb (hr.trans hrt) hq hf hdg hlocks
    · cases h
  · split at h
    · rename_i ty v hrt
      split at h
      · rename_i hh
        obtain ⟨rfl, hn⟩ := hh
        cases h
        exact W.zret hx hb (hr.trans hrt) hn hq hf hdg hlocks
      · cases h
    · cases h
  · split at h
    · split at h
      · rename_i hh
        obtain ⟨rfl, hrt⟩ := hh
        cases h
        exact W.lret hx hb (hr.trans hrt) hq hf hdg hlocks
      · cases h
    · cases h
  · split at h
    · rename_i C v hrt
      split at h
      · rename_i hh
        obtain ⟨rfl, hv⟩ := hh
        cases h
        exact W.aret hx hb (hr.trans hrt) (Or.inl ⟨_, rfl⟩) (jx_isR_ex hv) hq hf hdg hlocks
      · cases h
    · rename_i C v hrt
      split at h
      · rename_i hh
        obtain ⟨rfl, hv⟩ := hh
        cases h
        exact W.aret hx hb (hr.trans hrt) (Or.inr ⟨_, rfl⟩) (jx_isR_ex hv) hq hf hdg hlocks
      · cases h
    · cases h
  · cases h
set_option maxHeartbeats 4000000 in
theorem jx_loop_ok {call : Nat → List Value → jx_S → Option (Option Value × jx_S)} (C0 : jx_Cx p s m args c i) (hml : c.maxLocals = tb_nl i) (hnm : (tb_y i).name = "<init>" → meth.name = "<init>") (hKx : jx_Kx th D dA base K s) (hfr : d + 1 ≤ R.frames) (hlo : 40 * (d + 1) ≤ R.locals)
    (hcall : ∀ (j : Nat) (as : List Value) (σ : jx_S) (r : Option Value) (σ' : jx_S), call j as σ = some (r, σ') → j < 282 → plainName (tb_y j).cls = true → (σ.2.1 ≤ σ'.2.1 ∧ σ.2.2 ≤ σ'.2.2) ∧ ∃ d' : Nat, d = d' + 1 ∧ jx_Met l th D dA base K d' j as σ r σ') :
    ∀ (n pc : Nat) (lv : jx_L) (st : List Value) (σ : jx_S) (r : Option Value) (σ' : jx_S), jx_loop th call n i pc lv st σ = some (r, σ') → (σ.2.1 ≤ σ'.2.1 ∧ σ.2.2 ≤ σ'.2.2) ∧
      ∀ (H : Heap) (locs : List Loc) (cells slots : Nat) (ls : Array Slot), jx_Rep D dA base K σ H → va_S (jx_A base) s.heap H locs → lv_has ls (tb_nl i) lv → cells + (σ'.2.1 - σ.2.1) ≤ R.cells → slots + (σ'.2.2 - σ.2.2) ≤ R.slots →
        (∀ (H1 : Heap) (locs1 : List Loc) (pc1 len1 : Nat) (ins1 : Instr) (ls1 : Array Slot) (st1 : List Value), jx_Rep D dA base K σ' H1 → va_S (jx_A base) s.heap H1 locs1 → decode (tb_code i) pc1 = .ok (ins1, len1) → jx_ret (tb_ret i) ins1 len1 st1 = some r → W p l e R s m args below meth c H1 locs1 (cells + (σ'.2.1 - σ.2.1)) (slots + (σ'.2.2 - σ.2.2)) Q (F0 m pc1 ls1 st1)) →
        W p l e R s m args below meth c H locs cells slots Q (F0 m pc ls st) := by
  intro n
  induction n with
  | zero => intro pc lv st σ r σ' h; cases h
  | succ n ih =>
    intro pc lv st σ r σ' h
    unfold jx_loop at h
    split at h
    · rename_i ins len hdg
      split at h
      · rename_i r' hret
        cases h
        refine ⟨⟨Nat.le_refl _, Nat.le_refl _⟩, ?_⟩
        intro H locs cells slots ls hR hS hl hcells hslots hend
        have := hend H locs pc len ins ls st hR hS hdg hret
        simpa only [Nat.sub_self, Nat.add_zero] using this
      · split at h
        · rename_i q hq
          split at hq
          · rename_i hlen
            obtain ⟨hm, hk⟩ := ih _ _ _ _ _ _ h
            refine ⟨hm, ?_⟩
            intro H locs cells slots ls hR hS hl hcells hslots hend
            rw [hlen] at hdg hk
            exact jx_pure_ok C0.1 C0.2.1 hdg hq hl (fun ls' hl' => hk H locs cells slots ls' hR hS hl' hcells hslots hend)
          · cases hq
        · split at h
          · rename_i q hq
            obtain ⟨hm, hk⟩ := ih _ _ _ _ _ _ h
            refine ⟨hm, ?_⟩
            intro H locs cells slots ls hR hS hl hcells hslots hend
            exact jx_br_ok C0.1 C0.2.1 hdg hq (hk H locs cells slots ls hR hS hl hcells hslots hend)
          · split at h
            · rename_i q hq
              obtain ⟨hm, hk⟩ := ih _ _ _ _ _ _ h
              obtain ⟨st2, σ2⟩ := q
              have hm2 := jx_hp_mono hq
              simp only at hm hk hm2
              refine ⟨⟨Nat.le_trans hm2.1 hm.1, Nat.le_trans hm2.2 hm.2⟩, ?_⟩
              intro H locs cells slots ls hR hS hl hcells hslots hend
              refine jx_hp_ok C0 (hml.trans hl.1.symm) hnm hKx hR hS (by omega) (by omega) hq (by omega) (by omega) hdg (fun H1 locs1 hR1 hS1 => ?_)
              refine hk H1 locs1 _ _ ls hR1 hS1 hl (by omega) (by omega) ?_
              rw [show cells + (σ2.2.1 - σ.2.1) + (σ'.2.1 - σ2.2.1) = cells + (σ'.2.1 - σ.2.1) by omega, show slots + (σ2.2.2 - σ.2.2) + (σ'.2.2 - σ2.2.2) = slots + (σ'.2.2 - σ.2.2) by omega]
              exact hend
            · split at h
              · rename_i q hq
                split at h
                · rename_i w hw
                  obtain ⟨j, as, rest⟩ := q
                  obtain ⟨r2, σ2⟩ := w
                  obtain ⟨hm, hk⟩ := ih _ _ _ _ _ _ h
                  obtain ⟨hj, hpl⟩ := jx_cl_lt hq
                  obtain ⟨hm2, d', rfl, hM⟩ := hcall _ _ _ _ _ hw hj hpl
                  simp only at hm hk hm2
                  refine ⟨⟨Nat.le_trans hm2.1 hm.1, Nat.le_trans hm2.2 hm.2⟩, ?_⟩
                  intro H locs cells slots ls hR hS hl hcells hslots hend
                  refine jx_cl_ok C0 (hml.trans hl.1.symm) hKx hR hS (by omega) (by omega) hq hM (by omega) (by omega) hdg (fun H1 locs1 hR1 hS1 => ?_)
                  refine hk H1 locs1 _ _ ls hR1 hS1 hl (by omega) (by omega) ?_
                  rw [show cells + (σ2.2.1 - σ.2.1) + (σ'.2.1 - σ2.2.1) = cells + (σ'.2.1 - σ.2.1) by omega, show slots + (σ2.2.2 - σ.2.2) + (σ'.2.2 - σ2.2.2) = slots + (σ'.2.2 - σ.2.2) by omega]
                  exact hend
                · cases h
              · cases h
    · cases h
end JxLoop
theorem jx_loop_mono {th : Nat → Nat} {call : Nat → List Value → jx_S → Option (Option Value × jx_S)} {i : Nat} (hcall : ∀ (j : Nat) (as : List Value) (σ : jx_S) (r : Option Value) (σ' : jx_S), call j as σ = some (r, σ') → σ.2.1 ≤ σ'.2.1 ∧ σ.2.2 ≤ σ'.2.2) :
    ∀ (n pc : Nat) (lv : jx_L) (st : List Value) (σ : jx_S) (r : Option Value) (σ' : jx_S), jx_loop th call n i pc lv st σ = some (r, σ') → σ.2.1 ≤ σ'.2.1 ∧ σ.2.2 ≤ σ'.2.2 := by
  intro n
  induction n with
  | zero => intro pc lv st σ r σ' h; cases h
  | succ n ih =>
    intro pc lv st σ r σ' h
    unfold jx_loop at h
    split at h
    · split at h
      · cases h
        exact ⟨Nat.le_refl _, Nat.le_refl _⟩
      · split at h
        · exact ih _ _ _ _ _ _ h
        · split at h
          · exact ih _ _ _ _ _ _ h
          · split at h
            · rename_i q hq
              have hm := ih _ _ _ _ _ _ h
              have hm2 := jx_hp_mono hq
              exact ⟨Nat.le_trans hm2.1 hm.1, Nat.le_trans hm2.2 hm.2⟩
            · split at h
              · split at h
                · rename_i w hw
                  have hm := ih _ _ _ _ _ _ h
                  have hm2 := hcall _ _ _ _ _ hw
                  exact ⟨Nat.le_trans hm2.1 hm.1, Nat.le_trans hm2.2 hm.2⟩
                · cases h
              · cases h
    · cases h
theorem jx_call_mono (th : Nat → Nat) (n : Nat) : ∀ (d j : Nat) (as : List Value) (σ : jx_S) (r : Option Value) (σ' : jx_S), jx_call th d n j as σ = some (r, σ') → σ.2.1 ≤ σ'.2.1 ∧ σ.2.2 ≤ σ'.2.2
  | 0, j, as, σ, r, σ', h => by cases h
  | d + 1, j, as, σ, r, σ', h => by
    unfold jx_call at h
    split at h
    · exact jx_loop_mono (jx_call_mono th n d) _ _ _ _ _ _ _ h
    · cases h
set_option maxHeartbeats 4000000 in
theorem jx_met_of {l : Launch} {th : Nat → Nat} {D : va_G} {dA : Nat → ClassId} {base : Nat} {K : Nat → Option jx_E} {d n j : Nat} {as : List Value} {σ σ' : jx_S} {r : Option Value} {call : Nat → List Value → jx_S → Option (Option Value × jx_S)}
    (hcall : ∀ (j : Nat) (as : List Value) (σ : jx_S) (r : Option Value) (σ' : jx_S), call j as σ = some (r, σ') → j < 282 → plainName (tb_y j).cls = true → (σ.2.1 ≤ σ'.2.1 ∧ σ.2.2 ≤ σ'.2.2) ∧ ∃ d' : Nat, d = d' + 1 ∧ jx_Met l th D dA base K d' j as σ r σ')
    (hlen : (lg_sl as).length ≤ tb_nl j) (hj : j < 282) (hpl : plainName (tb_y j).cls = true) (h : jx_loop th call n j 0 (lv_args 0 as) [] σ = some (r, σ')) : jx_Met l th D dA base K d j as σ r σ' := by
  unfold jx_Met
  refine Met.ofW (cc := tb_code j) (maxL := tb_nl j) (ret := tb_ret j) hpl rfl ?_
  intro p e s m args below meth c s₁ B hml hv
  obtain ⟨rfl, hKx, hR⟩ := hv
  have hts := atoms_spec (ws := jx_ws j) B.pre
  have hown : s.vm.findClass (tb_Rn (tb_ow j)) = some m.cls := by rw [(jx_mK hj).2.1]; exact findClass_of_methodNamed B.named
  have C0 : jx_Cx p s m as.toArray c j := ⟨B.exec, B.bytes, hown, fun w hw => hts w (List.mem_cons_of_mem _ hw)⟩
  have hnm : (tb_y j).name = "<init>" → meth.name = "<init>" := fun z => (name_of_methodNamed B.named B.method).1.trans z
  have hl := lv_entry as (n := tb_nl j) hlen
  rw [lg_entry_eq]
  generalize (lg_sl as ++ List.replicate (tb_nl j - (lg_sl as).length) Slot.unset).toArray = ls at hl ⊢
  obtain ⟨hm, hk⟩ := jx_loop_ok (l := l) (e := e) (R := (headSpec (jx_ws j) (jx_rm d (σ'.2.1 - σ.2.1) (σ'.2.2 - σ.2.2))).room) (below := below) (meth := meth) (Q := MQ below (jx_Q D dA base K r σ') as.toArray s (σ'.2.1 - σ.2.1) (σ'.2.2 - σ.2.2) (jx_A base)) C0 hml hnm hKx (d := d) (Nat.le_refl _) (Nat.le_refl _) hcall n 0 _ _ _ _ _ h
  refine hk s.heap [] 0 0 ls hR va_S.rf hl (by rw [Nat.zero_add]; exact Nat.le_refl _) (by rw [Nat.zero_add]; exact Nat.le_refl _) ?_
  intro H1 locs1 pc1 len1 ins1 ls1 st1 hR1 hS1 hdg hret
  rw [Nat.zero_add, Nat.zero_add]
  exact jx_ret_ok B.exec B.bytes B.returns B.notSynchronized hret hdg (fun t ht hW => ⟨rfl, by rw [ht]; exact hR1, hS1.F ht⟩) hS1.2.2
/-- what the interpreter says of a method's call, the machine does: at every launch, from every state that holds the entries -/
theorem jx_call_ok (l : Launch) (th : Nat → Nat) (D : va_G) (dA : Nat → ClassId) (base : Nat) (K : Nat → Option jx_E) (n : Nat) : ∀ (d j : Nat) (as : List Value) (σ : jx_S) (r : Option Value) (σ' : jx_S), jx_call th (d + 1) n j as σ = some (r, σ') → j < 282 → plainName (tb_y j).cls = true → jx_Met l th D dA base K d j as σ r σ'
  | 0, j, as, σ, r, σ', h, hj, hpl => by
    unfold jx_call at h
    split at h
    · rename_i hlen
      exact jx_met_of (fun j as σ r σ' h => by unfold jx_call at h; cases h) hlen hj hpl h
    · cases h
  | d + 1, j, as, σ, r, σ', h, hj, hpl => by
    unfold jx_call at h
    split at h
    · rename_i hlen
      exact jx_met_of (fun j as σ r σ' h hj hpl => ⟨jx_call_mono th n (d + 1) j as σ r σ' h, d, rfl, jx_call_ok l th D dA base K n d j as σ r σ' h hj hpl⟩) hlen hj hpl h
    · cases h
