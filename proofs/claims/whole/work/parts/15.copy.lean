/-! THE INTERPRETER: copies of rows -/
def jx_copy (σ : jx_S) (a0 : Nat) (sp : Int32) (a : Nat) (dp n : Int32) : Option jx_S := match σ.1 a0, σ.1 a with
  | some (.inl (t0, n0, .inl f)), some (.inl (t1, n1, .inl g)) => if t0 = t1 ∧ t1 < 2 ∧ (¬ sp < 0 ∧ ¬ dp < 0 ∧ ¬ n < 0) ∧ sp.toNatClampNeg + n.toNatClampNeg ≤ n0 ∧ dp.toNatClampNeg + n.toNatClampNeg ≤ n1 then some (jx_up σ a (.inl (t1, n1, .inl (va_cpy f g sp.toNatClampNeg dp.toNatClampNeg n.toNatClampNeg)))) else none
  | some (.inl (t0, n0, .inr (.inr (.inr (.inr f))))), some (.inl (t1, n1, .inr (.inr (.inr (.inr g))))) => if t0 = 4 ∧ t1 = 4 ∧ (¬ sp < 0 ∧ ¬ dp < 0 ∧ ¬ n < 0) ∧ (sp.toNatClampNeg + n.toNatClampNeg ≤ n0 ∧ dp.toNatClampNeg + n.toNatClampNeg ≤ n1) ∧ (∀ k : Nat, k < n.toNatClampNeg → (match f (sp.toNatClampNeg + k) with
      | none => true
      | some y => (match σ.1 y with
        | some (.inr (ci, _)) => decide (ci ∈ [6, 8, 9, 10, 11])
        | _ => false)) = true) then some (jx_up σ a (.inl (t1, n1, .inr (.inr (.inr (.inr (va_cpy f g sp.toNatClampNeg dp.toNatClampNeg n.toNatClampNeg))))))) else none
  | _, _ => none
theorem jx_nn (z : Int32) (hz : ¬ z < 0) : z.toInt = (z.toNatClampNeg : Int) := by
  have hz0 : (0 : Int) ≤ z.toInt := by
    have := Int32.not_lt.mp hz
    simpa using Int32.le_iff_toInt_le.mp this
  show z.toInt = ((z.toInt.toNat : Nat) : Int)
  omega
section JxCopy
variable {p : Program} {l : Launch} {e : Env} {R : Room} {s : State} {m : MethodId} {args : Array Value} {below : List Frame} {meth : Method} {c : Code} {H : Heap} {locs : List Loc} {cells slots : Nat} {Q : State → Prop}
variable {D : va_G} {dA : Nat → ClassId} {base : Nat} {K : Nat → Option jx_E} {σ σ' : jx_S} {i pc a a0 idx : Nat} {ls : Array Slot} {rest : List Value} {H0 : Heap} {sp dp n : Int32}
/-- the words of System.arraycopy at a call -/
def jx_cpW (s : State) (args : Array Value) (own : String) (idx : Nat) : Prop := (Cond.methodLink own idx arraycopyName).before args s = true ∧ (Cond.native arraycopyName).before args s = true ∧ (Cond.static arraycopyName).before args s = true ∧ (Cond.initialized "java/lang/System").before args s = true
theorem jx_cpS {L : List Loc} {H1 : Heap} {y : Cell} (hS : va_S (jx_A base) H0 H locs) (hba : base ≤ a) (h1 : H1 = H.setIfInBounds a y) (hL : ∀ q ∈ L, q.base = a) : va_S (jx_A base) H0 H1 (locs ++ L) := by
  subst h1
  refine ⟨by simp; exact hS.1, fun q g1 g2 => ?_, fun q hq => ?_⟩
  · rw [show (H.setIfInBounds a y)[q]? = H[q]? from by
      have hne : a ≠ q := fun z => g2 (by rw [← z]; exact hba)
      simp [Array.getElem?_setIfInBounds, hne]]
    exact hS.2.1 q g1 g2
  · rcases List.mem_append.mp hq with h | h
    · exact hS.2.2 q h
    · rw [hL q h]; exact hba
theorem jx_copyi (hx : p.tables.exec = Jvm.exec) (hb : c.code = tb_code i) (hown : s.vm.findClass (tb_Rn (tb_ow i)) = some m.cls) (hml : c.maxLocals = ls.size) (hw : jx_cpW s args (tb_Rn (tb_ow i)) idx) (hK : va_K D tb_cl (jx_tys dA) s) (hR : jx_Rep D dA base K σ H) (hS : va_S (jx_A base) H0 H locs) {t n0 n1 : Nat} {f g : Nat → Int32} (ht : t < 6) (hprim : refKind (jx_tyt t) = false) (hfit : ∀ k, fits (jx_tyt t) (.int (f k)) = true) (hbyt : t = 0 → jx_byt (n1, .inl (va_cpy f g sp.toNatClampNeg dp.toNatClampNeg n.toNatClampNeg)))
    (hba : base ≤ a) (hc0 : H[a0]? = some (vp_cell (dA t) (n0, .inl f))) (hc1 : H[a]? = some (vp_cell (dA t) (n1, .inl g))) (h1 : ¬ sp < 0) (h2 : ¬ dp < 0) (h3 : ¬ n < 0) (h4 : sp.toNatClampNeg + n.toNatClampNeg ≤ n0) (h5 : dp.toNatClampNeg + n.toNatClampNeg ≤ n1)
    (hframes : 1 ≤ R.frames) (hlocals : (rest.map fun v => v.category).sum + (nativeFrameWords "java/lang/System" "arraycopy" 5 + 11) ≤ R.locals) (hdg : decode (tb_code i) pc = .ok (.invokestatic idx, 3))
    (kk : ∀ (H1 : Heap) (locs1 : List Loc), jx_Rep D dA base K (jx_up σ a (.inl (t, n1, .inl (va_cpy f g sp.toNatClampNeg dp.toNatClampNeg n.toNatClampNeg)))) H1 → va_S (jx_A base) H0 H1 locs1 → W p l e R s m args below meth c H1 locs1 cells slots Q (F0 m (pc + 3) ls rest)) : W p l e R s m args below meth c H locs cells slots Q (F0 m pc ls (.int n :: .int dp :: .ref a :: .int sp :: .ref a0 :: rest)) := by
  obtain ⟨hlink, hnat, hstat, hini⟩ := hw
  intro T hT X
  obtain ⟨-, k0, hk0, cm0, hkk0⟩ := (hK.2 t _ (jx_tys_at ht)).1 n0 (fun j => .int (f j))
  obtain ⟨-, k1, hk1, cm1, hkk1⟩ := (hK.2 t _ (jx_tys_at ht)).1 n1 (fun j => .int (g j))
  obtain ⟨vm', X', step⟩ := X.arraycopy hx hown hlink hnat hstat hini (src := a0) (dst := a) (cs := vp_cell (dA t) (n0, .inl f)) (cd := vp_cell (dA t) (n1, .inl g)) (srcPos := sp) (destPos := dp) (n := n) (by rw [hT]; exact hc0) (by rw [hT]; exact hc1)
    (fun _ h => by cases h) (fun _ h => by cases h) (fun h => by cases h) (fun h => by cases h) hk0 hk1 hkk0 hkk1 (by simp [hprim]) h1 h2 h3
    (by rw [jx_nn sp h1, jx_nn n h3]; show ¬ _ > ((arrV (dA t) n0 (fun j => .int (f j))).slots.size : Int); rw [arrV_size]; omega)
    (by rw [jx_nn dp h2, jx_nn n h3]; show ¬ _ > ((arrV (dA t) n1 (fun j => .int (g j))).slots.size : Int); rw [arrV_size]; omega)
    (fun vm₁ _ k hk => by
      have e : (vp_cell (dA t) (n0, .inl f)).slots.getD (sp.toNatClampNeg + k) .null = .int (f (sp.toNatClampNeg + k)) := by
        show (arrV (dA t) n0 (fun j => .int (f j))).slots.getD _ _ = _
        rw [Array.getD_eq_getD_getElem?, arrV_read _ _ (by omega)]
        rfl
      refine ⟨?_, ?_⟩
      · rw [e]
        exact hfit _
      · rw [e]
        exact trivial)
    (g := F0 m pc ls (.int n :: .int dp :: .ref a :: .int sp :: .ref a0 :: rest)) rfl (by rw [hml]) (rest := rest) rfl (by rw [hb]; exact hdg) hframes (by show 2 * 0 + _ + _ ≤ _; omega)
  have e1 : copied (vp_cell (dA t) (n0, .inl f)) (vp_cell (dA t) (n1, .inl g)) sp dp n = vp_cell (dA t) (n1, .inl (va_cpy f g sp.toNatClampNeg dp.toNatClampNeg n.toNatClampNeg)) := va_copied (fun z => .int z) (dA t) (dA t) f g h4
  rw [e1] at X' step
  have hl : a < H.size := (Array.getElem?_eq_some_iff.mp hc1).1
  have hheap : ((T.setVm vm').setCell a (vp_cell (dA t) (n1, .inl (va_cpy f g sp.toNatClampNeg dp.toNatClampNeg n.toNatClampNeg)))).heap = H.setIfInBounds a (vp_cell (dA t) (n1, .inl (va_cpy f g sp.toNatClampNeg dp.toNatClampNeg n.toNatClampNeg))) := by rw [← hT]; rfl
  obtain ⟨t', a1, b1⟩ := kk (H.setIfInBounds a (vp_cell (dA t) (n1, .inl (va_cpy f g sp.toNatClampNeg dp.toNatClampNeg n.toNatClampNeg)))) _ (hR.set hba ⟨ht, hbyt⟩ (show (H.setIfInBounds a _)[a]? = some _ by simp [Array.getElem?_setIfInBounds, hl]) (by simp) (fun q hq => by simp [Array.getElem?_setIfInBounds, Ne.symm hq])) (jx_cpS hS hba rfl (fun q hq => by
      obtain ⟨z, -, hz⟩ := List.mem_map.mp hq
      rw [← hz])) _ hheap X'
  exact ⟨t', step t' a1, b1⟩
theorem jx_copyq (hx : p.tables.exec = Jvm.exec) (hb : c.code = tb_code i) (hown : s.vm.findClass (tb_Rn (tb_ow i)) = some m.cls) (hml : c.maxLocals = ls.size) (hw : jx_cpW s args (tb_Rn (tb_ow i)) idx) (hK : va_K D tb_cl (jx_tys dA) s) (hR : jx_Rep D dA base K σ H) (hS : va_S (jx_A base) H0 H locs) {n0 n1 : Nat} {f g : Nat → Option Nat}
    (hba : base ≤ a) (hc0 : H[a0]? = some (vp_cell (dA 4) (n0, .inr (.inr (.inr (.inr f)))))) (hc1 : H[a]? = some (vp_cell (dA 4) (n1, .inr (.inr (.inr (.inr g)))))) (h1 : ¬ sp < 0) (h2 : ¬ dp < 0) (h3 : ¬ n < 0) (h4 : sp.toNatClampNeg + n.toNatClampNeg ≤ n0) (h5 : dp.toNatClampNeg + n.toNatClampNeg ≤ n1) (hel : ∀ k : Nat, k < n.toNatClampNeg → ∀ y : Nat, f (sp.toNatClampNeg + k) = some y → va_Any "java/lang/Object" s H y)
    (hframes : 1 ≤ R.frames) (hlocals : (rest.map fun v => v.category).sum + (nativeFrameWords "java/lang/System" "arraycopy" 5 + 11) ≤ R.locals) (hdg : decode (tb_code i) pc = .ok (.invokestatic idx, 3))
    (kk : ∀ (H1 : Heap) (locs1 : List Loc), jx_Rep D dA base K (jx_up σ a (.inl (4, n1, .inr (.inr (.inr (.inr (va_cpy f g sp.toNatClampNeg dp.toNatClampNeg n.toNatClampNeg))))))) H1 → va_S (jx_A base) H0 H1 locs1 → W p l e R s m args below meth c H1 locs1 cells slots Q (F0 m (pc + 3) ls rest)) : W p l e R s m args below meth c H locs cells slots Q (F0 m pc ls (.int n :: .int dp :: .ref a :: .int sp :: .ref a0 :: rest)) := by
  obtain ⟨hlink, hnat, hstat, hini⟩ := hw
  intro T hT X
  have ht1 : (jx_tys dA)[4]? = some (dA 4, FieldType.object "java/lang/Object") := rfl
  obtain ⟨-, k0, hk0, cm0, hkk0⟩ := (hK.2 4 _ ht1).1 n0 (fun j => va_rf (f j))
  obtain ⟨-, k1, hk1, cm1, hkk1⟩ := (hK.2 4 _ ht1).1 n1 (fun j => va_rf (g j))
  obtain ⟨vm', X', step⟩ := X.arraycopy hx hown hlink hnat hstat hini (src := a0) (dst := a) (cs := vp_cell (dA 4) (n0, .inr (.inr (.inr (.inr f))))) (cd := vp_cell (dA 4) (n1, .inr (.inr (.inr (.inr g))))) (srcPos := sp) (destPos := dp) (n := n) (by rw [hT]; exact hc0) (by rw [hT]; exact hc1)
    (fun _ h => by cases h) (fun _ h => by cases h) (fun h => by cases h) (fun h => by cases h) hk0 hk1 hkk0 hkk1 rfl h1 h2 h3
    (by rw [jx_nn sp h1, jx_nn n h3]; show ¬ _ > ((arrV (dA 4) n0 (fun j => va_rf (f j))).slots.size : Int); rw [arrV_size]; omega)
    (by rw [jx_nn dp h2, jx_nn n h3]; show ¬ _ > ((arrV (dA 4) n1 (fun j => va_rf (g j))).slots.size : Int); rw [arrV_size]; omega)
    (fun vm₁ hal k hk => by
      have e : (vp_cell (dA 4) (n0, .inr (.inr (.inr (.inr f))))).slots.getD (sp.toNatClampNeg + k) .null = va_rf (f (sp.toNatClampNeg + k)) := by
        show (arrV (dA 4) n0 (fun j => va_rf (f j))).slots.getD _ _ = _
        rw [Array.getD_eq_getD_getElem?, arrV_read _ _ (by omega)]
        rfl
      rw [e]
      cases hy : f (sp.toNatClampNeg + k) with
      | none => exact ⟨rfl, trivial⟩
      | some y =>
        obtain ⟨cellV, g1, g2, ⟨kC, hkC⟩, hasg⟩ := hel k hk y hy
        obtain ⟨kA, comp, r1, r2, r3, -⟩ := (hK.2 4 _ ht1).2
        cases hk1.symm.trans r1
        cases hkk1.symm.trans r2
        obtain ⟨kE, hkE, -⟩ := Vm.findClass_spec r3
        obtain ⟨kC', hkC', -⟩ := hal.2.2 _ _ hkC
        obtain ⟨kE', hkE', -⟩ := hal.2.2 _ _ hkE
        refine ⟨rfl, cellV, (show T.heap[y]? = some cellV by rw [hT]; exact g1), (fun q h => by rw [h] at g2; cases g2), ⟨kC', hkC'⟩, ?_, ?_⟩
        · exact ⟨kE', hkE'⟩
        · show vm₁.assignable _ _ = true
          rw [hal.assignable]
          exact hasg _ r3)
    (g := F0 m pc ls (.int n :: .int dp :: .ref a :: .int sp :: .ref a0 :: rest)) rfl (by rw [hml]) (rest := rest) rfl (by rw [hb]; exact hdg) hframes (by show 2 * 0 + _ + _ ≤ _; omega)
  have e1 : copied (vp_cell (dA 4) (n0, .inr (.inr (.inr (.inr f))))) (vp_cell (dA 4) (n1, .inr (.inr (.inr (.inr g))))) sp dp n = vp_cell (dA 4) (n1, .inr (.inr (.inr (.inr (va_cpy f g sp.toNatClampNeg dp.toNatClampNeg n.toNatClampNeg))))) := by
    rw [vp_cell_q, vp_cell_q, vp_cell_q]
    exact va_copied (fun z => va_rf z) (dA 4) (dA 4) f g h4
  rw [e1] at X' step
  have hl : a < H.size := (Array.getElem?_eq_some_iff.mp hc1).1
  have hheap : ((T.setVm vm').setCell a (vp_cell (dA 4) (n1, .inr (.inr (.inr (.inr (va_cpy f g sp.toNatClampNeg dp.toNatClampNeg n.toNatClampNeg))))))).heap = H.setIfInBounds a (vp_cell (dA 4) (n1, .inr (.inr (.inr (.inr (va_cpy f g sp.toNatClampNeg dp.toNatClampNeg n.toNatClampNeg)))))) := by rw [← hT]; rfl
  obtain ⟨t', a1, b1⟩ := kk (H.setIfInBounds a (vp_cell (dA 4) (n1, .inr (.inr (.inr (.inr (va_cpy f g sp.toNatClampNeg dp.toNatClampNeg n.toNatClampNeg))))))) _ (hR.set hba ⟨by decide, fun h => absurd h (by decide)⟩ (show (H.setIfInBounds a _)[a]? = some _ by simp [Array.getElem?_setIfInBounds, hl]) (by simp) (fun q hq => by simp [Array.getElem?_setIfInBounds, Ne.symm hq])) (jx_cpS hS hba rfl (fun q hq => by
      obtain ⟨z, -, hz⟩ := List.mem_map.mp hq
      rw [← hz])) _ hheap X'
  exact ⟨t', step t' a1, b1⟩
theorem jx_copy_ok (C0 : jx_Cx p s m args c i) (hml : c.maxLocals = ls.size) (hw : jx_cpW s args (tb_Rn (tb_ow i)) idx) (hK : va_K D tb_cl (jx_tys dA) s) (hN : ∀ w ∈ jx_N, va_Nw w s) (hc : jx_Cst base K s) (hR : jx_Rep D dA base K σ H) (hS : va_S (jx_A base) H0 H locs) (hg : jx_copy σ a0 sp a dp n = some σ')
    (hframes : 1 ≤ R.frames) (hlocals : (rest.map fun v => v.category).sum + (nativeFrameWords "java/lang/System" "arraycopy" 5 + 11) ≤ R.locals) (hdg : decode (tb_code i) pc = .ok (.invokestatic idx, 3))
    (kk : ∀ (H1 : Heap) (locs1 : List Loc), jx_Rep D dA base K σ' H1 → va_S (jx_A base) H0 H1 locs1 → W p l e R s m args below meth c H1 locs1 cells slots Q (F0 m (pc + 3) ls rest)) : W p l e R s m args below meth c H locs cells slots Q (F0 m pc ls (.int n :: .int dp :: .ref a :: .int sp :: .ref a0 :: rest)) := by
  obtain ⟨hx, hb, hown, hts⟩ := C0
  unfold jx_copy at hg
  split at hg
  · rename_i t0 n0 f t1 n1 g ha0 ha1
    split at hg
    · rename_i hh
      obtain ⟨rfl, ht, ⟨h1, h2, h3⟩, h4, h5⟩ := hh
      cases hg
      obtain ⟨-, ht6, hc0⟩ := hR.arr hc ha0 (by omega)
      obtain ⟨hba, -, hc1⟩ := hR.arr hc ha1 (by omega)
      have h01 : t0 = 0 ∨ t0 = 1 := by omega
      rcases h01 with rfl | rfl
      · refine jx_copyi hx hb hown hml hw hK hR hS ht6 rfl (hR.byt hc ha0) (fun _ k => ?_) hba hc0 hc1 h1 h2 h3 h4 h5 hframes hlocals hdg kk
        show fits .byte (.int (va_cpy f g _ _ _ k)) = true
        unfold va_cpy
        split
        · exact hR.byt hc ha0 _
        · exact hR.byt hc ha1 _
      · exact jx_copyi hx hb hown hml hw hK hR hS ht6 rfl (fun _ => rfl) (fun h => absurd h (by decide)) hba hc0 hc1 h1 h2 h3 h4 h5 hframes hlocals hdg kk
    · cases hg
  · rename_i t0 n0 f t1 n1 g ha0 ha1
    split at hg
    · rename_i hh
      obtain ⟨rfl, rfl, ⟨h1, h2, h3⟩, ⟨h4, h5⟩, hel⟩ := hh
      cases hg
      obtain ⟨-, -, hc0⟩ := hR.arr hc ha0 (by decide)
      obtain ⟨hba, -, hc1⟩ := hR.arr hc ha1 (by decide)
      refine jx_copyq hx hb hown hml hw hK hR hS hba hc0 hc1 h1 h2 h3 h4 h5 (fun k hk y hy => ?_) hframes hlocals hdg kk
      have hq := hel k hk
      rw [hy] at hq
      simp only at hq
      split at hq
      · rename_i ci fs hyv
        simp only [decide_eq_true_eq] at hq
        obtain ⟨-, hat⟩ := hR.obj hc hyv
        obtain ⟨r, hr, hwd⟩ := jx_objs hq
        refine va_rAny hK (jx_P1 hat) (q0 := 0) rfl hr (fun comp c0 z1 z2 => ?_)
        obtain ⟨c1, t1, f1, f2, f3⟩ := Cond.castable_spec (va_Nw.use (A := args) rfl (hN _ hwd))
        cases z1.symm.trans f2
        cases z2.symm.trans f1
        exact f3
      · cases hq
    · cases hg
  · cases hg
end JxCopy
