/-! THE INTERPRETER, the heap: entries by address; arrays bear the number of their type (jx_tys), objects the number of theirs (tb_cl); 100 + t: an array that nobody writes -/
abbrev jx_E : Type := (Nat × vp_A) ⊕ (Nat × List Value)
/-- the entries, the next address, the slots booked -/
abbrev jx_S : Type := (Nat → Option jx_E) × Nat × Nat
abbrev jx_Y : Type := (Nat → Int32) ⊕ (Nat → Int64) ⊕ (Nat → UInt32) ⊕ (Nat → UInt64) ⊕ (Nat → Option Nat)
def tb_q (i : Nat) : Nat × MethodName × ByteArray × Nat × Option FieldType × Nat := (tb_m ++ [(13, x, code, maxLocals, ret, 0)]).getD i (0, ⟨"", "", ""⟩, ByteArray.empty, 0, none, 0)
def tb_ow (i : Nat) : Nat := (tb_q i).1
def tb_y (i : Nat) : MethodName := (tb_q i).2.1
def tb_code (i : Nat) : ByteArray := (tb_q i).2.2.1
def tb_nl (i : Nat) : Nat := (tb_q i).2.2.2.1
def tb_ret (i : Nat) : Option FieldType := (tb_q i).2.2.2.2.1
def jx_A (base : Nat) : Nat → Prop := fun q => base ≤ q
def jx_cv (dA : Nat → ClassId) (e : jx_E) : va_E := match e with
  | .inl (t, a) => .inl (dA t, a)
  | .inr o => .inr o
def jx_tys (dA : Nat → ClassId) : List (ClassId × FieldType) := [(dA 0, .byte), (dA 1, .int), (dA 2, .long), (dA 3, .boolean), (dA 4, .object "java/lang/Object"), (dA 5, .object "QuotaPeers$Connection")]
def jx_byt (y : vp_A) : Prop := match y with
  | (_, .inl f) => ∀ j : Nat, fits .byte (.int (f j)) = true
  | _ => True
/-- a type that is known; a row of octets holds octets -/
def jx_nt (e : jx_E) : Prop := match e with
  | .inl (t, y) => t < 6 ∧ (t = 0 → jx_byt y)
  | .inr _ => True
/-- the heap H holds the entries: those from base on as they are told, the others as K tells -/
def jx_Rep (D : va_G) (dA : Nat → ClassId) (base : Nat) (K : Nat → Option jx_E) (σ : jx_S) (H : Heap) : Prop :=
  σ.2.1 = H.size ∧ base ≤ H.size ∧ ∀ (a : Nat) (e : jx_E), σ.1 a = some e → (base ≤ a ∧ jx_nt e ∧ va_at D tb_cl (a, jx_cv dA e) H) ∨ K a = some e
/-- the arrays that nobody writes, at a method's entry -/
def jx_Cst (base : Nat) (K : Nat → Option jx_E) (s : State) : Prop := ∀ (a : Nat) (e : jx_E), K a = some e →
  (∃ (n : Nat) (f : Nat → Int32), e = .inl (100, n, .inl f) ∧ va_T .byte a n (fun j => .int (f j)) (jx_A base) s s.heap) ∨
  (∃ (n : Nat) (f : Nat → Int32), e = .inl (101, n, .inl f) ∧ va_T .int a n (fun j => .int (f j)) (jx_A base) s s.heap) ∨
  (∃ (n : Nat) (f : Nat → Option Nat), e = .inl (104, n, .inr (.inr (.inr (.inr f)))) ∧ va_T (.object "java/lang/Object") a n (fun j => va_rf (f j)) (jx_A base) s s.heap)
def jx_mk (σ : jx_S) (e : jx_E) (n : Nat) : jx_S := (va_up σ.1 σ.2.1 (some e), σ.2.1 + 1, σ.2.2 + n)
def jx_up (σ : jx_S) (a : Nat) (e : jx_E) : jx_S := (va_up σ.1 a (some e), σ.2)
theorem jx_P1 {D : va_G} {cl : List vw_C} {a : Nat} {e : va_E} {H : Heap} (h : va_at D cl (a, e) H) : va_P D cl [(a, e)] H := by
  intro k q hq
  cases k with
  | zero => cases hq; exact h
  | succ k => cases hq
theorem jx_Rep.obj {D : va_G} {dA : Nat → ClassId} {base : Nat} {K : Nat → Option jx_E} {σ : jx_S} {H : Heap} {s : State} {a : Nat} {o : Nat × List Value} (h : jx_Rep D dA base K σ H) (hc : jx_Cst base K s) (ha : σ.1 a = some (.inr o)) : base ≤ a ∧ va_at D tb_cl (a, .inr o) H := by
  rcases h.2.2 a _ ha with q | q
  · exact ⟨q.1, q.2.2⟩
  · rcases hc a _ q with ⟨n, f, e, -⟩ | ⟨n, f, e, -⟩ | ⟨n, f, e, -⟩ <;> cases e
theorem jx_Rep.arr {D : va_G} {dA : Nat → ClassId} {base : Nat} {K : Nat → Option jx_E} {σ : jx_S} {H : Heap} {s : State} {a t : Nat} {y : vp_A} (h : jx_Rep D dA base K σ H) (hc : jx_Cst base K s) (ha : σ.1 a = some (.inl (t, y))) (ht : t < 100) : base ≤ a ∧ t < 6 ∧ H[a]? = some (vp_cell (dA t) y) := by
  rcases h.2.2 a _ ha with q | q
  · exact ⟨q.1, q.2.1.1, q.2.2⟩
  · rcases hc a _ q with ⟨n, f, e, -⟩ | ⟨n, f, e, -⟩ | ⟨n, f, e, -⟩ <;> (cases e; omega)
theorem jx_Rep.byt {D : va_G} {dA : Nat → ClassId} {base : Nat} {K : Nat → Option jx_E} {σ : jx_S} {H : Heap} {s : State} {a n : Nat} {f : Nat → Int32} (h : jx_Rep D dA base K σ H) (hc : jx_Cst base K s) (ha : σ.1 a = some (.inl (0, n, .inl f))) (j : Nat) : fits .byte (.int (f j)) = true := by
  rcases h.2.2 a _ ha with q | q
  · exact q.2.1.2 rfl j
  · rcases hc a _ q with ⟨n, f, e, -⟩ | ⟨n, f, e, -⟩ | ⟨n, f, e, -⟩ <;> cases e
theorem jx_Rep.set {D : va_G} {dA : Nat → ClassId} {base : Nat} {K : Nat → Option jx_E} {σ : jx_S} {H H1 : Heap} {a : Nat} {e : jx_E} (h : jx_Rep D dA base K σ H) (ha : base ≤ a) (hn : jx_nt e) (he : va_at D tb_cl (a, jx_cv dA e) H1) (z : H1.size = H.size) (oq : ∀ q : Nat, q ≠ a → H1[q]? = H[q]?) : jx_Rep D dA base K (jx_up σ a e) H1 := by
  refine ⟨h.1.trans z.symm, by rw [z]; exact h.2.1, fun b eb hb => ?_⟩
  by_cases hba : b = a
  · subst hba
    have hb : some e = some eb := by simpa [jx_up, va_up] using hb
    cases hb
    exact Or.inl ⟨ha, hn, he⟩
  · have hb : σ.1 b = some eb := by simpa [jx_up, va_up, hba] using hb
    rcases h.2.2 b eb hb with q | q
    · exact Or.inl ⟨q.1, q.2.1, q.2.2.kept (oq b hba)⟩
    · exact Or.inr q
theorem jx_Rep.mk {D : va_G} {dA : Nat → ClassId} {base : Nat} {K : Nat → Option jx_E} {σ : jx_S} {H H1 : Heap} {e : jx_E} {n : Nat} (h : jx_Rep D dA base K σ H) (hn : jx_nt e) (he : va_at D tb_cl (H.size, jx_cv dA e) H1) (z : H1.size = H.size + 1) (oq : ∀ q : Nat, q < H.size → H1[q]? = H[q]?) : jx_Rep D dA base K (jx_mk σ e n) H1 := by
  have hs := h.1
  have hb0 := h.2.1
  refine ⟨by show σ.2.1 + 1 = H1.size; omega, by omega, fun b eb hb => ?_⟩
  by_cases hba : b = σ.2.1
  · subst hba
    have hb : some e = some eb := by simpa [jx_mk, va_up] using hb
    cases hb
    rw [hs]
    exact Or.inl ⟨hb0, hn, he⟩
  · have hb : σ.1 b = some eb := by simpa [jx_mk, va_up, hba] using hb
    rcases h.2.2 b eb hb with q | q
    · exact Or.inl ⟨q.1, q.2.1, q.2.2.kept (oq b q.2.2.lt)⟩
    · exact Or.inr q
def jx_getF (σ : jx_S) (a ci k : Nat) : Option Value := match σ.1 a with
  | some (.inr (c, fs)) => if c = ci then fs[k]? else none
  | _ => none
theorem jx_getF_some {σ : jx_S} {a ci k : Nat} {v : Value} (h : jx_getF σ a ci k = some v) : ∃ fs : List Value, σ.1 a = some (.inr (ci, fs)) ∧ fs[k]? = some v := by
  unfold jx_getF at h
  split at h
  · rename_i c fs e
    split at h
    · rename_i hc
      subst hc
      exact ⟨fs, e, h⟩
    · cases h
  · cases h
/-- may v stand in a field of this type: then it stands there as it is -/
def jx_fit (ty : FieldType) (v : Value) : Bool := decide (narrow ty v = v) && fits ty v
def jx_putF (σ : jx_S) (a ci k : Nat) (v : Value) : Option jx_S := match σ.1 a with
  | some (.inr (c, fs)) => if c = ci ∧ k < fs.length ∧ jx_fit (tb_tt ci k) v = true then some (jx_up σ a (.inr (c, fs.set k v))) else none
  | _ => none
theorem jx_putF_some {σ σ' : jx_S} {a ci k : Nat} {v : Value} (h : jx_putF σ a ci k v = some σ') : ∃ fs : List Value, σ.1 a = some (.inr (ci, fs)) ∧ k < fs.length ∧ narrow (tb_tt ci k) v = v ∧ fits (tb_tt ci k) v = true ∧ σ' = jx_up σ a (.inr (ci, fs.set k v)) := by
  unfold jx_putF at h
  split at h
  · rename_i c fs e
    split at h
    · rename_i hc
      obtain ⟨rfl, hk, hf⟩ := hc
      cases h
      simp only [jx_fit, Bool.and_eq_true, decide_eq_true_eq] at hf
      exact ⟨fs, e, hk, hf.1, hf.2, rfl⟩
    · cases h
  · cases h
/-- what a method's walk stands on: the machine, its bytes, its owner, the words -/
def jx_Cx (p : Program) (s : State) (m : MethodId) (args : Array Value) (c : Code) (i : Nat) : Prop := p.tables.exec = Jvm.exec ∧ c.code = tb_code i ∧ s.vm.findClass (tb_Rn (tb_ow i)) = some m.cls ∧ ∀ w ∈ jx_T, w.before args s = true
theorem jx_inT {pl : Nat} {w : Cond} (h : lw_tbl[pl]? = some w) (g : goodWord w = true) : w ∈ jx_T := List.mem_filter.mpr ⟨List.mem_of_getElem? h, g⟩
/-- what is known of a field's link -/
def jx_FL (o idx ci k : Nat) : Prop := ∃ (C : String) (T : u_T) (N : Nat) (ref : String), tb_cl[ci]? = some (C, T, N) ∧ k < N ∧ Cond.fieldLink (tb_Rn o) idx ref (T k).2.1 (T k).2.2.1 ∈ jx_T ∧ (ref = (T k).1 ∨ Cond.sameField ref (T k).1 (T k).2.1 (T k).2.2.1 ∈ jx_T)
section JxHeap
variable {p : Program} {l : Launch} {e : Env} {R : Room} {s : State} {m : MethodId} {args : Array Value} {below : List Frame} {meth : Method} {c : Code} {H : Heap} {locs : List Loc} {cells slots : Nat} {Q : State → Prop}
variable {D : va_G} {dA : Nat → ClassId} {base : Nat} {K : Nat → Option jx_E} {σ σ' : jx_S} {i pc : Nat} {ls : Array Slot} {rest : List Value} {H0 : Heap}
theorem jx_same {args : Array Value} {s : State} {ref : String} {T : u_T} {k : Nat} (hts : ∀ w ∈ jx_T, w.before args s = true) (h : ref = (T k).1 ∨ Cond.sameField ref (T k).1 (T k).2.1 (T k).2.2.1 ∈ jx_T) : ∀ x, s.fieldFound? (T k).1 (T k).2.1 (T k).2.2.1 = some x → s.fieldFound? ref (T k).2.1 (T k).2.2.1 = some x := by
  rcases h with rfl | h
  · exact fun _ h => h
  · exact fun x hx => u_same (hts _ h) x hx
theorem jx_get_ok (C0 : jx_Cx p s m args c i) (hK : va_K D tb_cl (jx_tys dA) s) (hc : jx_Cst base K s) (hR : jx_Rep D dA base K σ H) {idx a ci k : Nat} {v : Value} (hf : jx_FL (tb_ow i) idx ci k) (hg : jx_getF σ a ci k = some v) (hdg : decode (tb_code i) pc = .ok (.getfield idx, 3))
    (kk : W p l e R s m args below meth c H locs cells slots Q (F0 m (pc + 3) ls (v :: rest))) : W p l e R s m args below meth c H locs cells slots Q (F0 m pc ls (.ref a :: rest)) := by
  obtain ⟨hx, hb, hown, hts⟩ := C0
  obtain ⟨C, T, N, ref, hcl, hk, hlink, hsame⟩ := hf
  obtain ⟨fs, ha, hv⟩ := jx_getF_some hg
  obtain ⟨-, hat⟩ := hR.obj hc ha
  exact va_get hx hb hts (jx_clFs ci _ hcl).1 hown hK (jx_P1 hat) 0 rfl hcl k hk (hts _ hlink) (jx_same hts hsame) hv hdg kk
theorem jx_put_ok (C0 : jx_Cx p s m args c i) (hK : va_K D tb_cl (jx_tys dA) s) (hc : jx_Cst base K s) (hR : jx_Rep D dA base K σ H) (hS : va_S (jx_A base) H0 H locs) {idx a ci k : Nat} {v : Value} (hf : jx_FL (tb_ow i) idx ci k) (hg : jx_putF σ a ci k v = some σ') (hfin : ∀ q, tb_cl[ci]? = some q → (q.2.1 k).2.2.2 = false ∨ (meth.name = "<init>" ∧ (q.2.1 k).1 = tb_Rn (tb_ow i))) (hdg : decode (tb_code i) pc = .ok (.putfield idx, 3))
    (kk : ∀ (H1 : Heap) (locs1 : List Loc), jx_Rep D dA base K σ' H1 → va_S (jx_A base) H0 H1 locs1 → W p l e R s m args below meth c H1 locs1 cells slots Q (F0 m (pc + 3) ls rest)) : W p l e R s m args below meth c H locs cells slots Q (F0 m pc ls (v :: .ref a :: rest)) := by
  obtain ⟨hx, hb, hown, hts⟩ := C0
  obtain ⟨C, T, N, ref, hcl, hk, hlink, hsame⟩ := hf
  obtain ⟨fs, ha, hl, hn, hfit, rfl⟩ := jx_putF_some hg
  obtain ⟨hba, hat⟩ := hR.obj hc ha
  obtain ⟨hin, hty, hnm, -⟩ := jx_clFs ci _ hcl
  have hap := va_apart (own := C) hts hin (tb_tt ci) hty hnm hK hcl
  obtain ⟨r, h1, cell, q1, q2, q3, q4⟩ := hat
  have hr : r = (C, T, N) := Option.some.inj (h1.symm.trans hcl)
  subst hr
  obtain ⟨hSl, hfc, kC, hkC, hkind⟩ := hK.1 ci _ hcl
  obtain ⟨cf, kf, fi, f, hi, hsl⟩ := hSl k hk
  have hlay := hts _ (hin _ (u_in_lay hk))
  unfold u_lay at hlay
  have hst := (u_facts hfc hkC (u_lays hts hin hk) hi).1
  have done : ∀ (H' : Heap), H'[a]? = some (cell.setSlot f.slot v) → H'.size = H.size → (∀ q, q ≠ a → H'[q]? = H[q]?) → W p l e R s m args below meth c H' (locs ++ [⟨a, f.slot⟩]) cells slots Q (F0 m (pc + 3) ls rest) := by
    intro H' e1 e2 e3
    rw [hsl] at e1
    exact kk H' _ (hR.set hba trivial ⟨_, hcl, t_OB.to (V := updV (vp_V fs) k v) ⟨_, e1, q2, q3, t_set q4 hap hk v⟩ (fun j _ => vp_updV_set hl v j)⟩ e2 e3) (hS.put e2 e3 hba)
  rcases hfin _ hcl with h0 | ⟨hinit, hdecl⟩
  · rw [if_neg (by rw [h0]; decide)] at hlay
    have h6 := u_store hfc hkC hkind hlay hi (hty k hk) hn hfit
    exact W.putK hx hb (f := f) ⟨hown, hts _ hlink, ⟨_, _, _, jx_same hts hsame _ hi⟩, hst⟩ (by rw [q2]; exact h6) q1 q3 (by rw [hsl]; exact k2_hasslot (q4 k hk)) rfl rfl hdg done
  · by_cases h0 : (T k).2.2.2 = true
    · rw [if_pos h0] at hlay
      have hcf : m.cls = cf := by
        obtain ⟨_, _, c', _, _, _, -, -, hf', -, -, -, hown2, -⟩ := Cond.laysFinal_spec hlay
        have e1 : c' = cf := by have := hi.symm.trans hf'; simp at this; exact this.1.symm
        have hdecl : (T k).1 = tb_Rn (tb_ow i) := hdecl
        rw [hdecl] at hown2
        rw [← e1]; exact Option.some.inj (hown.symm.trans hown2)
      have h6 := u_fits hfc hkC hkind (Or.inr hlay) hi (hty k hk) hn hfit
      exact W.putFinK hx hb hown (hts _ hlink) (jx_same hts hsame _ hi) hst hcf hinit (by rw [q2]; exact h6) q1 q3 (by rw [hsl]; exact k2_hasslot (q4 k hk)) rfl rfl hdg done
    · rw [if_neg h0] at hlay
      have h6 := u_store hfc hkC hkind hlay hi (hty k hk) hn hfit
      exact W.putK hx hb (f := f) ⟨hown, hts _ hlink, ⟨_, _, _, jx_same hts hsame _ hi⟩, hst⟩ (by rw [q2]; exact h6) q1 q3 (by rw [hsl]; exact k2_hasslot (q4 k hk)) rfl rfl hdg done
end JxHeap
theorem jx_FL_of {o idx ci k : Nat} (h : tb_fld o idx = some (ci, k)) : jx_FL o idx ci k := by
  unfold tb_fld at h
  cases e : tb_fldL.find? (fun q => q.1 == o && q.2.1 == idx) with
  | none => rw [e] at h; cases h
  | some q =>
    rw [e] at h
    have hq := List.mem_of_find?_eq_some e
    have hp := List.find?_some e
    have hf := jx_fldFs q hq
    obtain ⟨o', idx', ci', k', pl⟩ := q
    simp only [Option.map_some, Option.some.injEq, Prod.mk.injEq] at h
    obtain ⟨rfl, rfl⟩ := h
    simp only [Bool.and_eq_true, beq_iff_eq] at hp
    obtain ⟨rfl, rfl⟩ := hp
    unfold jx_fldF at hf
    split at hf
    · rename_i r hr
      obtain ⟨C, T, N⟩ := r
      simp only [Bool.and_eq_true, decide_eq_true_eq] at hf
      obtain ⟨hk, hf⟩ := hf
      split at hf
      · rename_i own idx2 ref n d hw
        simp only [Bool.and_eq_true, Bool.or_eq_true, beq_iff_eq] at hf
        obtain ⟨⟨⟨⟨rfl, rfl⟩, rfl⟩, rfl⟩, hs⟩ := hf
        exact ⟨C, T, N, ref, hr, hk, jx_inT hw rfl, hs.elim Or.inl (fun z => Or.inr (jx_inT z rfl))⟩
      · cases hf
    · cases hf
