/-! THE INTERPRETER is right: the heap's instructions -/
theorem jx_putF_sz {σ σ' : jx_S} {a ci k : Nat} {v : Value} (h : jx_putF σ a ci k v = some σ') : σ'.2 = σ.2 := by
  obtain ⟨_, _, _, _, _, rfl⟩ := jx_putF_some h
  rfl
theorem jx_ist_sz {σ σ' : jx_S} {a : Nat} {j x : Int32} (h : jx_ist σ a j x = some σ') : σ'.2 = σ.2 := by
  unfold jx_ist at h
  split at h
  · split at h
    · cases h; rfl
    · cases h
  · cases h
theorem jx_bst_sz {σ σ' : jx_S} {a : Nat} {j x : Int32} (h : jx_bst σ a j x = some σ') : σ'.2 = σ.2 := by
  unfold jx_bst at h
  split at h
  · split at h
    · cases h; rfl
    · split at h
      · cases h; rfl
      · cases h
  · cases h
theorem jx_lst_sz {σ σ' : jx_S} {a : Nat} {j : Int32} {x : Int64} (h : jx_lst σ a j x = some σ') : σ'.2 = σ.2 := by
  unfold jx_lst at h
  split at h
  · split at h
    · cases h; rfl
    · cases h
  · cases h
theorem jx_ast_sz {σ σ' : jx_S} {a : Nat} {j : Int32} {v : Value} (h : jx_ast σ a j v = some σ') : σ'.2 = σ.2 := by
  unfold jx_ast at h
  split at h
  · split at h
    · split at h
      · cases h; rfl
      · split at h
        · split at h
          · cases h; rfl
          · cases h
        · cases h
      · cases h
    · cases h
  · cases h
theorem jx_copy_sz {σ σ' : jx_S} {a0 a : Nat} {sp dp n : Int32} (h : jx_copy σ a0 sp a dp n = some σ') : σ'.2 = σ.2 := by
  unfold jx_copy at h
  split at h
  · split at h
    · cases h; rfl
    · cases h
  · split at h
    · cases h; rfl
    · cases h
  · cases h
section JxHp
variable {p : Program} {l : Launch} {e : Env} {R : Room} {s : State} {m : MethodId} {args : Array Value} {below : List Frame} {meth : Method} {c : Code} {H : Heap} {locs : List Loc} {cells slots : Nat} {Q : State → Prop}
variable {th : Nat → Nat} {D : va_G} {dA : Nat → ClassId} {base : Nat} {K : Nat → Option jx_E} {σ σ' : jx_S} {i pc len : Nat} {ls : Array Slot} {st st' : List Value}
theorem jx_wr_fin {i ci k : Nat} {nm : String} (h : jx_wr i ci k = true) (hnm : (tb_y i).name = "<init>" → nm = "<init>") : ∀ q, tb_cl[ci]? = some q → (q.2.1 k).2.2.2 = false ∨ (nm = "<init>" ∧ (q.2.1 k).1 = tb_Rn (tb_ow i)) := by
  intro q hq
  unfold jx_wr at h
  rw [hq] at h
  simp only [Bool.or_eq_true, Bool.not_eq_true', Bool.and_eq_true, beq_iff_eq] at h
  rcases h with h | h
  · exact Or.inl h
  · exact Or.inr ⟨hnm h.1, h.2⟩
set_option maxHeartbeats 4000000 in
theorem jx_bs_ok (C0 : jx_Cx p s m args c i) (hml : c.maxLocals = ls.size) (hKx : jx_Kx th D dA base K s) (hR : jx_Rep D dA base K σ H) (hS : va_S (jx_A base) s.heap H locs) (hfr : 1 ≤ R.frames) (hlo : 40 ≤ R.locals) {b idx : Nat} (hf : tb_nat (tb_ow i) idx = some b) (h : jx_bs b st σ = some (st', σ')) (hcells : cells + (σ'.2.1 - σ.2.1) ≤ R.cells) (hslots : slots + (σ'.2.2 - σ.2.2) ≤ R.slots) (hdg : decode (tb_code i) pc = .ok (.invokestatic idx, 3))
    (kk : ∀ (H1 : Heap) (locs1 : List Loc), jx_Rep D dA base K σ' H1 → va_S (jx_A base) s.heap H1 locs1 → W p l e R s m args below meth c H1 locs1 (cells + (σ'.2.1 - σ.2.1)) (slots + (σ'.2.2 - σ.2.2)) Q (F0 m (pc + 3) ls st')) : W p l e R s m args below meth c H locs cells slots Q (F0 m pc ls st) := by
  obtain ⟨hK, hN, -, -, -, hc⟩ := hKx
  unfold jx_bs at h
  split at h
  · split at h
    · split at h
      · rename_i hs
        cases h
        simp only [Nat.sub_self, Nat.add_zero] at kk hcells hslots
        exact jx_max_ok C0 hml hf hdg hfr (by unfold jx_sm at hs; omega) hcells hslots (kk H locs hR hS)
      · cases h
    · cases h
  · split at h
    · split at h
      · rename_i hs
        cases h
        simp only [Nat.sub_self, Nat.add_zero] at kk hcells hslots
        exact jx_min_ok C0 hml hf hdg hfr (by unfold jx_sm at hs; omega) hcells hslots (kk H locs hR hS)
      · cases h
    · cases h
  · split at h
    · split at h
      · rename_i hs
        cases h
        simp only [Nat.sub_self, Nat.add_zero] at kk hcells hslots
        exact jx_maxl_ok C0 hml hf hdg hfr (by unfold jx_sm at hs; omega) hcells hslots (kk H locs hR hS)
      · cases h
    · cases h
  · split at h
    · split at h
      · rename_i hs
        cases h
        simp only [Nat.sub_self, Nat.add_zero] at kk hcells hslots
        exact jx_minl_ok C0 hml hf hdg hfr (by unfold jx_sm at hs; omega) hcells hslots (kk H locs hR hS)
      · cases h
    · cases h
  · split at h
    · split at h
      · rename_i hs
        obtain ⟨σ2, eg, h⟩ := Option.map_eq_some_iff.mp h
        cases h
        rw [jx_copy_sz eg] at kk
        simp only [Nat.sub_self, Nat.add_zero] at kk
        obtain ⟨y, hy, hl⟩ := jx_natL_of hf
        cases hy
        refine jx_copy_ok C0 hml ⟨C0.2.2.2 _ hl, C0.2.2.2 _ jx_w_acn, C0.2.2.2 _ jx_w_acs, C0.2.2.2 _ jx_w_aci⟩ hK hN hc hR hS eg hfr ?_ hdg kk
        have hw : nativeFrameWords "java/lang/System" "arraycopy" 5 + 11 ≤ 30 := by decide
        unfold jx_sm at hs
        omega
      · cases h
    · cases h
  · cases h
set_option maxHeartbeats 4000000 in
theorem jx_bv_ok (C0 : jx_Cx p s m args c i) (hml : c.maxLocals = ls.size) (hKx : jx_Kx th D dA base K s) (hR : jx_Rep D dA base K σ H) (hS : va_S (jx_A base) s.heap H locs) (hfr : 1 ≤ R.frames) (hlo : 40 ≤ R.locals) {b idx : Nat} (hf : tb_nat (tb_ow i) idx = some b) (h : jx_bv th b st σ = some (st', σ')) (hcells : cells + (σ'.2.1 - σ.2.1) ≤ R.cells) (hslots : slots + (σ'.2.2 - σ.2.2) ≤ R.slots) (hdg : decode (tb_code i) pc = .ok (.invokevirtual idx, 3))
    (kk : ∀ (H1 : Heap) (locs1 : List Loc), jx_Rep D dA base K σ' H1 → va_S (jx_A base) s.heap H1 locs1 → W p l e R s m args below meth c H1 locs1 (cells + (σ'.2.1 - σ.2.1)) (slots + (σ'.2.2 - σ.2.2)) Q (F0 m (pc + 3) ls st')) : W p l e R s m args below meth c H locs cells slots Q (F0 m pc ls st) := by
  obtain ⟨hK, hN, -, hM, -, hc⟩ := hKx
  unfold jx_bv at h
  split at h
  · split at h
    · split at h
      · rename_i hs
        obtain ⟨q, eg, h⟩ := Option.map_eq_some_iff.mp h
        cases h
        exact jx_clone_ok C0 hml hK hN hc hR hS (Or.inl ⟨rfl, rfl⟩) hf eg hfr (by unfold jx_sm at hs; omega) hcells hslots hdg (fun H1 => kk H1 locs)
      · cases h
    · cases h
  · split at h
    · split at h
      · rename_i hs
        obtain ⟨q, eg, h⟩ := Option.map_eq_some_iff.mp h
        cases h
        exact jx_clone_ok C0 hml hK hN hc hR hS (Or.inr ⟨rfl, rfl⟩) hf eg hfr (by unfold jx_sm at hs; omega) hcells hslots hdg (fun H1 => kk H1 locs)
      · cases h
    · cases h
  · split at h
    · split at h
      · rename_i hs
        split at h
        · rename_i t y ha
          split at h
          · rename_i ht
            subst ht
            cases h
            simp only [Nat.sub_self, Nat.add_zero] at kk
            exact jx_getC_ok C0 hml hK hN hc hM hR hf ha hfr (by unfold jx_sm at hs; omega) hdg (kk H locs hR hS)
          · cases h
        · cases h
      · cases h
    · cases h
  · cases h
set_option maxHeartbeats 8000000 in
theorem jx_hp_ok (C0 : jx_Cx p s m args c i) (hml : c.maxLocals = ls.size) (hnm : (tb_y i).name = "<init>" → meth.name = "<init>") (hKx : jx_Kx th D dA base K s) (hR : jx_Rep D dA base K σ H) (hS : va_S (jx_A base) s.heap H locs) (hfr : 1 ≤ R.frames) (hlo : 40 ≤ R.locals) {ins : Instr} (h : jx_hp th i ins len st σ = some (st', σ')) (hcells : cells + (σ'.2.1 - σ.2.1) ≤ R.cells) (hslots : slots + (σ'.2.2 - σ.2.2) ≤ R.slots) (hdg : decode (tb_code i) pc = .ok (ins, len))
    (kk : ∀ (H1 : Heap) (locs1 : List Loc), jx_Rep D dA base K σ' H1 → va_S (jx_A base) s.heap H1 locs1 → W p l e R s m args below meth c H1 locs1 (cells + (σ'.2.1 - σ.2.1)) (slots + (σ'.2.2 - σ.2.2)) Q (F0 m (pc + len) ls st')) : W p l e R s m args below meth c H locs cells slots Q (F0 m pc ls st) := by
  obtain ⟨hK, hN, hF, hM, hZ, hc⟩ := id hKx
  unfold jx_hp at h
  split at h
  · rename_i idx
    split at h
    · split at h
      · rename_i hl
        subst hl
        obtain ⟨q, ef, h⟩ := Option.bind_eq_some_iff.mp h
        obtain ⟨v, eg, h⟩ := Option.map_eq_some_iff.mp h
        cases h
        simp only [Nat.sub_self, Nat.add_zero] at kk
        exact jx_get_ok C0 hK hc hR (jx_FL_of ef) eg hdg (kk H locs hR hS)
      · cases h
    · cases h
  · rename_i idx
    split at h
    · split at h
      · rename_i hl
        subst hl
        obtain ⟨q, ef, h⟩ := Option.bind_eq_some_iff.mp h
        split at h
        · rename_i hwr
          obtain ⟨v, eg, h⟩ := Option.map_eq_some_iff.mp h
          cases h
          rw [jx_putF_sz eg] at kk
          simp only [Nat.sub_self, Nat.add_zero] at kk
          exact jx_put_ok C0 hK hc hR hS (jx_FL_of ef) eg (jx_wr_fin hwr hnm) hdg kk
        · cases h
      · cases h
    · cases h
  · rename_i idx
    split at h
    · rename_i hl
      subst hl
      obtain ⟨z, ef, h⟩ := Option.map_eq_some_iff.mp h
      cases h
      simp only [Nat.sub_self, Nat.add_zero] at kk
      exact jx_gets_ok C0 hN hZ hS ef hdg (kk H locs hR hS)
    · cases h
  · rename_i idx
    split at h
    · rename_i hl
      subst hl
      obtain ⟨ci, ef, h⟩ := Option.bind_eq_some_iff.mp h
      obtain ⟨q, eg, h⟩ := Option.map_eq_some_iff.mp h
      cases h
      exact jx_new_ok C0 hK hR hS ef eg hcells hslots hdg (fun H1 => kk H1 locs)
    · cases h
  · rename_i y
    split at h
    · split at h
      · rename_i hl
        subst hl
        obtain ⟨t, ef, h⟩ := Option.bind_eq_some_iff.mp h
        obtain ⟨q, eg, h⟩ := Option.map_eq_some_iff.mp h
        cases h
        exact jx_newa_ok C0 hK hR hS ef eg hcells hslots hdg (fun H1 => kk H1 locs)
      · cases h
    · cases h
  · rename_i idx
    split at h
    · split at h
      · rename_i hl
        subst hl
        obtain ⟨t, ef, h⟩ := Option.bind_eq_some_iff.mp h
        obtain ⟨q, eg, h⟩ := Option.map_eq_some_iff.mp h
        cases h
        exact jx_anew_ok C0 hK hN hR hS ef eg hcells hslots hdg (fun H1 => kk H1 locs)
      · cases h
    · cases h
  · split at h
    · split at h
      · rename_i hl
        subst hl
        obtain ⟨q, eg, h⟩ := Option.map_eq_some_iff.mp h
        cases h
        simp only [Nat.sub_self, Nat.add_zero] at kk
        exact jx_alen_ok C0 hK hc hR hS eg hdg (kk H locs hR hS)
      · cases h
    · cases h
  · split at h
    · split at h
      · rename_i hl
        subst hl
        obtain ⟨q, eg, h⟩ := Option.map_eq_some_iff.mp h
        cases h
        simp only [Nat.sub_self, Nat.add_zero] at kk
        exact jx_iald_ok C0 hK hc hR hS eg hdg (kk H locs hR hS)
      · cases h
    · cases h
  · split at h
    · split at h
      · rename_i hl
        subst hl
        obtain ⟨q, eg, h⟩ := Option.map_eq_some_iff.mp h
        cases h
        simp only [Nat.sub_self, Nat.add_zero] at kk
        exact jx_bald_ok C0 hK hc hR hS eg hdg (kk H locs hR hS)
      · cases h
    · cases h
  · split at h
    · split at h
      · rename_i hl
        subst hl
        obtain ⟨q, eg, h⟩ := Option.map_eq_some_iff.mp h
        cases h
        simp only [Nat.sub_self, Nat.add_zero] at kk
        exact jx_lald_ok C0 hK hc hR eg hdg (kk H locs hR hS)
      · cases h
    · cases h
  · split at h
    · split at h
      · rename_i hl
        subst hl
        obtain ⟨q, eg, h⟩ := Option.map_eq_some_iff.mp h
        cases h
        simp only [Nat.sub_self, Nat.add_zero] at kk
        exact jx_aald_ok C0 hK hc hR eg hdg (kk H locs hR hS)
      · cases h
    · cases h
  · split at h
    · split at h
      · rename_i hl
        subst hl
        obtain ⟨q, eg, h⟩ := Option.map_eq_some_iff.mp h
        cases h
        rw [jx_ist_sz eg] at kk
        simp only [Nat.sub_self, Nat.add_zero] at kk
        exact jx_iast_ok C0 hK hc hR hS eg hdg kk
      · cases h
    · cases h
  · split at h
    · split at h
      · rename_i hl
        subst hl
        obtain ⟨q, eg, h⟩ := Option.map_eq_some_iff.mp h
        cases h
        rw [jx_bst_sz eg] at kk
        simp only [Nat.sub_self, Nat.add_zero] at kk
        exact jx_bast_ok C0 hK hc hR hS eg hdg kk
      · cases h
    · cases h
  · split at h
    · split at h
      · rename_i hl
        subst hl
        obtain ⟨q, eg, h⟩ := Option.map_eq_some_iff.mp h
        cases h
        rw [jx_lst_sz eg] at kk
        simp only [Nat.sub_self, Nat.add_zero] at kk
        exact jx_last_ok C0 hK hc hR hS eg hdg kk
      · cases h
    · cases h
  · split at h
    · split at h
      · rename_i hl
        subst hl
        obtain ⟨q, eg, h⟩ := Option.map_eq_some_iff.mp h
        cases h
        rw [jx_ast_sz eg] at kk
        simp only [Nat.sub_self, Nat.add_zero] at kk
        exact jx_aast_ok C0 hK hN hc hR hS eg hdg kk
      · cases h
    · cases h
  · split at h
    · split at h
      · rename_i hl
        obtain ⟨rfl, hcs⟩ := hl
        cases h
        simp only [Nat.sub_self, Nat.add_zero] at kk
        exact jx_cast_ok C0 hK hc hR hcs hdg (kk H locs hR hS)
      · cases h
    · cases h
  · split at h
    · rename_i hl
      subst hl
      split at h
      · rename_i x ef
        cases h
        simp only [Nat.sub_self, Nat.add_zero] at kk
        obtain ⟨hx, hb, hown, hts⟩ := C0
        exact lv_ldc hx hb hown (hts _ (jx_ldcL_of ef)) hdg (kk H locs hR hS)
      · split at h
        · rename_i hh
          obtain ⟨rfl, ho⟩ := hh
          cases h
          simp only [Nat.sub_self, Nat.add_zero] at kk
          exact jx_ldcM_ok C0 hM ho hdg (kk H locs hR hS)
        · cases h
    · cases h
  · split at h
    · rename_i hl
      subst hl
      obtain ⟨x, ef, h⟩ := Option.map_eq_some_iff.mp h
      cases h
      simp only [Nat.sub_self, Nat.add_zero] at kk
      obtain ⟨hx, hb, hown, hts⟩ := C0
      exact lv_ldcw hx hb hown (hts _ (jx_ldcL_of ef)) hdg (kk H locs hR hS)
    · cases h
  · split at h
    · rename_i hl
      subst hl
      obtain ⟨x, ef, h⟩ := Option.map_eq_some_iff.mp h
      cases h
      simp only [Nat.sub_self, Nat.add_zero] at kk
      obtain ⟨hx, hb, hown, hts⟩ := C0
      exact lv_ldc2 hx hb hown (hts _ (jx_ldc2L_of ef)) hdg (kk H locs hR hS)
    · cases h
  · split at h
    · rename_i hl
      subst hl
      obtain ⟨b, ef, h⟩ := Option.bind_eq_some_iff.mp h
      exact jx_bs_ok C0 hml hKx hR hS hfr hlo ef h hcells hslots hdg kk
    · cases h
  · split at h
    · split at h
      · rename_i hl
        obtain ⟨rfl, hf, hs⟩ := hl
        cases h
        simp only [Nat.sub_self, Nat.add_zero] at kk
        exact jx_objInit_ok C0 hml hf hdg hfr (by unfold jx_sm at hs; omega) (kk H locs hR hS)
      · cases h
    · cases h
  · split at h
    · rename_i hl
      subst hl
      obtain ⟨b, ef, h⟩ := Option.bind_eq_some_iff.mp h
      exact jx_bv_ok C0 hml hKx hR hS hfr hlo ef h hcells hslots hdg kk
    · cases h
  · cases h
end JxHp
