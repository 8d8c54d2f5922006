/-! THE INTERPRETER: what the machine does itself: Object.<init>, Math, arraycopy, clone, getClass, a constant of an array's kind -/
theorem jx_natL_of {o idx b : Nat} (hf : tb_nat o idx = some b) : ∃ y, tb_nn[b]? = some y ∧ Cond.methodLink (tb_Rn o) idx y ∈ jx_T := by
  unfold tb_nat at hf
  cases ef : tb_natL.find? (fun q => q.1 == o && q.2.1 == idx) with
  | none => rw [ef] at hf; cases hf
  | some r =>
    rw [ef] at hf
    have hm := List.mem_of_find?_eq_some ef
    have hp := List.find?_some ef
    have hF := jx_natFs r hm
    obtain ⟨o', idx', b', pl⟩ := r
    simp only [Option.map_some, Option.some.injEq] at hf
    subst hf
    simp only [Bool.and_eq_true, beq_iff_eq] at hp
    obtain ⟨rfl, rfl⟩ := hp
    unfold jx_natF at hF
    split at hF
    · rename_i y hy
      simp only [beq_iff_eq] at hF
      exact ⟨y, hy, jx_inT hF rfl⟩
    · cases hF
def jx_clone (σ : jx_S) (a t : Nat) : Option (Value × jx_S) := match σ.1 a with
  | some (.inl (t', n, .inl f)) => if t' = t ∧ t < 2 then some (.ref σ.2.1, jx_mk σ (.inl (t, n, .inl f)) n) else none
  | _ => none
section JxNat
variable {p : Program} {l : Launch} {e : Env} {R : Room} {s : State} {m : MethodId} {args : Array Value} {below : List Frame} {meth : Method} {c : Code} {H : Heap} {locs : List Loc} {cells slots : Nat} {Q : State → Prop}
variable {D : va_G} {dA : Nat → ClassId} {base : Nat} {K : Nat → Option jx_E} {σ σ' : jx_S} {i pc a idx : Nat} {v : Value} {ls : Array Slot} {rest : List Value} {H0 : Heap}
theorem jx_objInit_ok (C0 : jx_Cx p s m args c i) (hml : c.maxLocals = ls.size) (hf : tb_nat (tb_ow i) idx = some 0) (hdg : decode (tb_code i) pc = .ok (.invokespecial idx, 3)) (hframes : 1 ≤ R.frames) (hlocals : (rest.map fun v => v.category).sum + 12 ≤ R.locals)
    (kk : W p l e R s m args below meth c H locs cells slots Q (F0 m (pc + 3) ls rest)) : W p l e R s m args below meth c H locs cells slots Q (F0 m pc ls (.ref a :: rest)) := by
  obtain ⟨hx, hb, hown, hts⟩ := C0
  obtain ⟨y, hy, hl⟩ := jx_natL_of hf
  cases hy
  exact W.objInit hx hb hown (hts _ hl) (hts _ jx_w_oi) (hts _ jx_w_oc) rfl hml.symm rfl hdg hframes (by show 2 * 0 + _ + 12 ≤ _; omega) kk
theorem jx_max_ok (C0 : jx_Cx p s m args c i) (hml : c.maxLocals = ls.size) (hf : tb_nat (tb_ow i) idx = some 1) (hdg : decode (tb_code i) pc = .ok (.invokestatic idx, 3)) (hframes : 1 ≤ R.frames) (hlocals : (rest.map fun v => v.category).sum + 15 ≤ R.locals) (hc : cells ≤ R.cells) (hs : slots ≤ R.slots) {x y : Int32}
    (kk : W p l e R s m args below meth c H locs cells slots Q (F0 m (pc + 3) ls (.int (if x < y then y else x) :: rest))) : W p l e R s m args below meth c H locs cells slots Q (F0 m pc ls (.int y :: .int x :: rest)) := by
  obtain ⟨hx, hb, hown, hts⟩ := C0
  obtain ⟨y, hy, hl⟩ := jx_natL_of hf
  cases hy
  exact va_mmax hx hb hml hown (hts _ hl) (hts _ jx_w_mxs) (hts _ jx_w_mi) (hts _ jx_w_mxc) hframes (by omega) hc hs hdg kk
theorem jx_min_ok (C0 : jx_Cx p s m args c i) (hml : c.maxLocals = ls.size) (hf : tb_nat (tb_ow i) idx = some 2) (hdg : decode (tb_code i) pc = .ok (.invokestatic idx, 3)) (hframes : 1 ≤ R.frames) (hlocals : (rest.map fun v => v.category).sum + 15 ≤ R.locals) (hc : cells ≤ R.cells) (hs : slots ≤ R.slots) {x y : Int32}
    (kk : W p l e R s m args below meth c H locs cells slots Q (F0 m (pc + 3) ls (.int (if y < x then y else x) :: rest))) : W p l e R s m args below meth c H locs cells slots Q (F0 m pc ls (.int y :: .int x :: rest)) := by
  obtain ⟨hx, hb, hown, hts⟩ := C0
  obtain ⟨y, hy, hl⟩ := jx_natL_of hf
  cases hy
  exact va_mmin hx hb hml hown (hts _ hl) (hts _ jx_w_mns) (hts _ jx_w_mi) (hts _ jx_w_mnc) hframes (by omega) hc hs hdg kk
theorem jx_maxl_ok (C0 : jx_Cx p s m args c i) (hml : c.maxLocals = ls.size) (hf : tb_nat (tb_ow i) idx = some 3) (hdg : decode (tb_code i) pc = .ok (.invokestatic idx, 3)) (hframes : 1 ≤ R.frames) (hlocals : (rest.map fun v => v.category).sum + 15 ≤ R.locals) (hc : cells ≤ R.cells) (hs : slots ≤ R.slots) {x y : Int64}
    (kk : W p l e R s m args below meth c H locs cells slots Q (F0 m (pc + 3) ls (.long (if y < x then x else y) :: rest))) : W p l e R s m args below meth c H locs cells slots Q (F0 m pc ls (.long y :: .long x :: rest)) := by
  obtain ⟨hx, hb, hown, hts⟩ := C0
  obtain ⟨y, hy, hl⟩ := jx_natL_of hf
  cases hy
  exact va_mmax_long hx hb hml hown (hts _ hl) (hts _ jx_w_mxls) (hts _ jx_w_mi) (hts _ jx_w_mxlc) hframes hlocals hc hs hdg kk
theorem jx_clone_ok (C0 : jx_Cx p s m args c i) (hml : c.maxLocals = ls.size) (hK : va_K D tb_cl (jx_tys dA) s) (hN : ∀ w ∈ jx_N, va_Nw w s) (hc : jx_Cst base K s) (hR : jx_Rep D dA base K σ H) (hS : va_S (jx_A base) H0 H locs) {t b : Nat} (hb67 : (b = 6 ∧ t = 1) ∨ (b = 7 ∧ t = 0)) (hf : tb_nat (tb_ow i) idx = some b) (hg : jx_clone σ a t = some (v, σ')) (hframes : 1 ≤ R.frames) (hlocals : (rest.map fun v => v.category).sum + 15 ≤ R.locals) (hcells : cells + (σ'.2.1 - σ.2.1) ≤ R.cells) (hslots : slots + (σ'.2.2 - σ.2.2) ≤ R.slots) (hdg : decode (tb_code i) pc = .ok (.invokevirtual idx, 3))
    (kk : ∀ (H1 : Heap), jx_Rep D dA base K σ' H1 → va_S (jx_A base) H0 H1 locs → W p l e R s m args below meth c H1 locs (cells + (σ'.2.1 - σ.2.1)) (slots + (σ'.2.2 - σ.2.2)) Q (F0 m (pc + 3) ls (v :: rest))) : W p l e R s m args below meth c H locs cells slots Q (F0 m pc ls (.ref a :: rest)) := by
  obtain ⟨hx, hb, hown, hts⟩ := C0
  unfold jx_clone at hg
  split at hg
  · rename_i t' n f ha
    split at hg
    · rename_i hh
      obtain ⟨rfl, ht2⟩ := hh
      cases hg
      have e1 : (jx_mk σ (.inl (t', n, .inl f)) n).2.1 - σ.2.1 = 1 := by simp [jx_mk]
      have e2 : (jx_mk σ (.inl (t', n, .inl f)) n).2.2 - σ.2.2 = n := by simp [jx_mk]
      simp only [e1, e2] at hcells hslots kk
      obtain ⟨-, ht6, hat⟩ := hR.arr hc ha (by omega)
      have hsz0 : H.size = σ.2.1 := hR.1.symm
      have hbyt : t' = 0 → jx_byt (n, .inl f) := fun h0 j => by subst h0; exact hR.byt hc ha j
      have hfit : ∀ (k : Nat) (v : Value), (vp_cell (dA t') (n, .inl f)).slots[k]? = some v → fits (jx_tyt t') v = true := by
        intro k v hv
        have hk : k < n := by
          have := (Array.getElem?_eq_some_iff.mp hv).1
          have hz : (vp_cell (dA t') (n, .inl f)).slots.size = n := arrV_size _ _ _
          omega
        have hv2 : (vp_cell (dA t') (n, .inl f)).slots[k]? = some (.int (f k)) := arrV_read (dA t') (fun j => .int (f j)) hk
        cases hv.symm.trans hv2
        rcases hb67 with ⟨-, rfl⟩ | ⟨-, rfl⟩
        · rfl
        · exact hR.byt hc ha k
      obtain ⟨y, hy, hl⟩ := jx_natL_of hf
      have key : ∀ ad : String, (Cond.methodLink (tb_Rn (tb_ow i)) idx ⟨ad, "clone", "()Ljava/lang/Object;"⟩) ∈ jx_T → Cond.sameMethod ad "java/lang/Object" "clone" "()Ljava/lang/Object;" ∈ jx_T → Cond.selects ad ⟨ad, "clone", "()Ljava/lang/Object;"⟩ ⟨"java/lang/Object", "clone", "()Ljava/lang/Object;"⟩ ∈ jx_T → Cond.castable ad "java/lang/Cloneable" ∈ jx_N → s.vm.findClass ad = some (dA t') → W p l e R s m args below meth c H locs cells slots Q (F0 m pc ls (.ref a :: rest)) := by
        intro ad w1 w2 w3 w4 hnm
        obtain ⟨c0, t0', f1, f2, f3⟩ := Cond.castable_spec (va_Nw.use (A := args) rfl (hN _ w4))
        cases hnm.symm.trans f1
        intro T hT X
        have hcellT : T.heap[a]? = some (vp_cell (dA t') (n, .inl f)) := by rw [hT]; exact hat
        obtain ⟨-, kA, hkA, comp, hkind⟩ := State.isArrayOf_alike X.warmed.alike ((hK.2 t' _ (jx_tys_at ht6)).1 0 (fun _ => .null))
        obtain ⟨-, kS, hkS, compS, hkindS⟩ := (hK.2 t' _ (jx_tys_at ht6)).1 0 (fun _ => .null)
        obtain ⟨vm', X', st⟩ := X.cloneArray hx hown (hts _ w1) (hts _ w2) (hts _ jx_w_cn) (hts _ jx_w_ci) (hts _ w3) (a := a) (cell := vp_cell (dA t') (n, .inl f)) hcellT (fun k h => by cases h) (fun h => by cases h) hnm f2 f3
          (fun k v hv => by
            have hk' : T.vm.classes[dA t']? = some kA := hkA
            show T.fitsSlot (dA t') _ k v = true
            simpa [State.fitsSlot, State.slotType?, hk', hkind] using hfit k v hv)
          (g := F0 m pc ls (.ref a :: rest)) rfl (by rw [hml]) rfl (by rw [hb]; exact hdg) hframes (by show 2 * 0 + _ + 14 ≤ _; omega) hcells (by show slots + (arrV _ _ _).slots.size ≤ _; rw [arrV_size]; exact hslots) (hloader := Vm.clonesLoader_of_array hkS hkindS)
        have hz : (vp_cell (dA t') (n, .inl f)).slots.size = n := arrV_size _ _ _
        have hcE : ({ cls := (vp_cell (dA t') (n, .inl f)).cls, slots := (vp_cell (dA t') (n, .inl f)).slots } : Cell) = vp_cell (dA t') (n, .inl f) := rfl
        rw [hcE, hz] at X'
        generalize hH1 : H.push (vp_cell (dA t') (n, .inl f)) = H1
        have z1 : H1.size = H.size + 1 := by rw [← hH1, Array.size_push]
        have g1 : H1[H.size]? = some (vp_cell (dA t') (n, .inl f)) := by rw [← hH1, Array.getElem?_push_size]
        have o1 : ∀ q : Nat, q < H.size → H1[q]? = H[q]? := fun q hq => by rw [← hH1, Array.getElem?_push, if_neg (Nat.ne_of_lt hq)]
        obtain ⟨t, b1, b2⟩ := kk H1 (hR.mk ⟨ht6, hbyt⟩ g1 z1 o1) ⟨Nat.le_trans hS.1 (by omega), fun q h1 h2 => (o1 q (by have := hS.1; omega)).trans (hS.2.1 q h1 h2), hS.2.2⟩ ((T.setVm vm').pushCell (vp_cell (dA t') (n, .inl f))) (by rw [← hH1, ← hT]; rfl) X'
        refine ⟨t, st t ?_, b2⟩
        rw [hcE, hT, hsz0]
        exact b1
      rcases hb67 with ⟨rfl, rfl⟩ | ⟨rfl, rfl⟩
      · cases hy
        have h1 : s.vm.findClass ("[" ++ FieldType.int.toString) = some (dA 1) := (hK.2 1 _ rfl).2
        rw [show "[" ++ FieldType.int.toString = "[I" by decide] at h1
        exact key "[I" hl jx_w_csI jx_w_clI jx_w_ccI h1
      · cases hy
        have h1 : s.vm.findClass ("[" ++ FieldType.byte.toString) = some (dA 0) := (hK.2 0 _ rfl).2
        rw [show "[" ++ FieldType.byte.toString = "[B" by decide] at h1
        exact key "[B" hl jx_w_csB jx_w_clB jx_w_ccB h1
    · cases hg
  · cases hg
theorem jx_minl_ok (C0 : jx_Cx p s m args c i) (hml : c.maxLocals = ls.size) (hf : tb_nat (tb_ow i) idx = some 4) (hdg : decode (tb_code i) pc = .ok (.invokestatic idx, 3)) (hframes : 1 ≤ R.frames) (hlocals : (rest.map fun v => v.category).sum + 15 ≤ R.locals) (hc : cells ≤ R.cells) (hs : slots ≤ R.slots) {x y : Int64}
    (kk : W p l e R s m args below meth c H locs cells slots Q (F0 m (pc + 3) ls (.long (if y < x then y else x) :: rest))) : W p l e R s m args below meth c H locs cells slots Q (F0 m pc ls (.long y :: .long x :: rest)) := by
  obtain ⟨hx, hb, hown, hts⟩ := C0
  obtain ⟨y, hy, hl⟩ := jx_natL_of hf
  cases hy
  exact va_mmin_long hx hb hml hown (hts _ hl) (hts _ jx_w_mnls) (hts _ jx_w_mi) (hts _ jx_w_mnlc) hframes hlocals hc hs hdg kk
theorem jx_getC_ok (C0 : jx_Cx p s m args c i) (hml : c.maxLocals = ls.size) (hK : va_K D tb_cl (jx_tys dA) s) (hN : ∀ w ∈ jx_N, va_Nw w s) (hc : jx_Cst base K s) {mi : Nat} (hM : va_Mi "[Ljava/lang/Object;" mi s) (hR : jx_Rep D dA base K σ H) (hf : tb_nat (tb_ow i) idx = some 8) {y : vp_A} (ha : σ.1 a = some (.inl (4, y))) (hframes : 1 ≤ R.frames) (hlocals : (rest.map fun v => v.category).sum + 15 ≤ R.locals) (hdg : decode (tb_code i) pc = .ok (.invokevirtual idx, 3))
    (kk : W p l e R s m args below meth c H locs cells slots Q (F0 m (pc + 3) ls (.ref mi :: rest))) : W p l e R s m args below meth c H locs cells slots Q (F0 m pc ls (.ref a :: rest)) := by
  obtain ⟨hx, hb, hown, hts⟩ := C0
  obtain ⟨q, hq, hl⟩ := jx_natL_of hf
  cases hq
  obtain ⟨-, -, hat⟩ := hR.arr hc ha (by decide)
  refine va_getC hx hb hml hown (hts _ hl) (va_Nw.use rfl (hN _ jx_w_gd)) (hts _ jx_w_gs) (hts _ jx_w_gi) (hts _ jx_w_gn) hM ⟨_, hat, ?_, ?_⟩ hframes (by omega) hdg kk
  · obtain ⟨n, f | f | f | f | f⟩ := y <;> rfl
  · have hcl0 : (vp_cell (dA 4) y).cls = dA 4 := by
      obtain ⟨n, f | f | f | f | f⟩ := y <;> rfl
    rw [hcl0]
    exact va_nmO (hK.2 4 _ rfl).2 (by decide)
theorem jx_ldcM_ok (C0 : jx_Cx p s m args c i) {mi : Nat} (hM : va_Mi "[Ljava/lang/Object;" mi s) (ho : tb_Rn (tb_ow i) = "java/util/Arrays") (hdg : decode (tb_code i) pc = .ok (.ldc 110, 2))
    (kk : W p l e R s m args below meth c H locs cells slots Q (F0 m (pc + 2) ls (.ref mi :: rest))) : W p l e R s m args below meth c H locs cells slots Q (F0 m pc ls rest) := by
  obtain ⟨hx, hb, hown, hts⟩ := C0
  exact va_ldcM hx hb hown (by rw [ho]; exact hts _ jx_w_gl) hM hdg kk
end JxNat
