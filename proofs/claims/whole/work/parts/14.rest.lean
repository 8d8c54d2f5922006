/-! THE INTERPRETER: making arrays, statics, constants, casts -/
def jx_cast (σ : jx_S) (o idx : Nat) (v : Value) : Bool := match v with
  | .null => true
  | .ref a => (match σ.1 a with
    | some (.inr (ci, _)) => decide (tb_new o idx = some ci)
    | some (.inl (t, _)) => decide (t < 2 ∧ tb_ca o idx = some t)
    | none => false)
  | _ => false
theorem jx_newL_of {o idx ci : Nat} {q : vw_C} (hf : tb_new o idx = some ci) (hq : tb_cl[ci]? = some q) : Cond.classLink (tb_Rn o) idx q.1 ∈ jx_T := by
  unfold tb_new at hf
  cases ef : tb_newL.find? (fun q => q.1 == o && q.2.1 == idx) with
  | none => rw [ef] at hf; cases hf
  | some r =>
    rw [ef] at hf
    have hm := List.mem_of_find?_eq_some ef
    have hp := List.find?_some ef
    have hF := jx_newFs r hm
    obtain ⟨o', idx', ci', pl⟩ := r
    simp only [Option.map_some, Option.some.injEq] at hf
    subst hf
    simp only [Bool.and_eq_true, beq_iff_eq] at hp
    obtain ⟨rfl, rfl⟩ := hp
    unfold jx_newF at hF
    simp only [hq, beq_iff_eq] at hF
    exact jx_inT hF rfl
theorem jx_anwL_of {o idx t : Nat} (hf : tb_anw o idx = some t) : (t = 4 ∧ Cond.classLink (tb_Rn o) idx "java/lang/Object" ∈ jx_T) ∨ (t = 5 ∧ Cond.classLink (tb_Rn o) idx "QuotaPeers$Connection" ∈ jx_T) := by
  unfold tb_anw at hf
  cases ef : tb_anwL.find? (fun q => q.1 == o && q.2.1 == idx) with
  | none => rw [ef] at hf; cases hf
  | some r =>
    rw [ef] at hf
    have hm := List.mem_of_find?_eq_some ef
    have hp := List.find?_some ef
    have hF := jx_anwFs r hm
    obtain ⟨o', idx', t', pl⟩ := r
    simp only [Option.map_some, Option.some.injEq] at hf
    subst hf
    simp only [Bool.and_eq_true, beq_iff_eq] at hp
    obtain ⟨rfl, rfl⟩ := hp
    unfold jx_anwF at hF
    simp only [Bool.or_eq_true, Bool.and_eq_true, beq_iff_eq] at hF
    exact hF.elim (fun z => Or.inl ⟨z.1, jx_inT z.2 rfl⟩) (fun z => Or.inr ⟨z.1, jx_inT z.2 rfl⟩)
theorem jx_caL_of {o idx t : Nat} (hf : tb_ca o idx = some t) : (t = 0 ∧ Cond.classLink (tb_Rn o) idx "[B" ∈ jx_T) ∨ (t = 1 ∧ Cond.classLink (tb_Rn o) idx "[I" ∈ jx_T) := by
  unfold tb_ca at hf
  cases ef : tb_caL.find? (fun q => q.1 == o && q.2.1 == idx) with
  | none => rw [ef] at hf; cases hf
  | some r =>
    rw [ef] at hf
    have hm := List.mem_of_find?_eq_some ef
    have hp := List.find?_some ef
    have hF := jx_caFs r hm
    obtain ⟨o', idx', t', pl⟩ := r
    simp only [Option.map_some, Option.some.injEq] at hf
    subst hf
    simp only [Bool.and_eq_true, beq_iff_eq] at hp
    obtain ⟨rfl, rfl⟩ := hp
    unfold jx_caF at hF
    simp only [Bool.or_eq_true, Bool.and_eq_true, beq_iff_eq] at hF
    exact hF.elim (fun z => Or.inl ⟨z.1, jx_inT z.2 rfl⟩) (fun z => Or.inr ⟨z.1, jx_inT z.2 rfl⟩)
theorem jx_staL_of {o idx z : Nat} (hf : tb_sta o idx = some z) : ∃ r, tb_sn[z]? = some r ∧ (Cond.fieldLink (tb_Rn o) idx r.1 r.2.1 r.2.2 ∈ jx_T ∨ Cond.fieldLinkNest (tb_Rn o) idx r.1 r.2.1 r.2.2 "QuotaPeers" ∈ jx_N) := by
  unfold tb_sta at hf
  cases ef : tb_staL.find? (fun q => q.1 == o && q.2.1 == idx) with
  | none => rw [ef] at hf; cases hf
  | some r =>
    rw [ef] at hf
    have hm := List.mem_of_find?_eq_some ef
    have hp := List.find?_some ef
    have hF := jx_staFs r hm
    obtain ⟨o', idx', z', k', pl⟩ := r
    simp only [Option.map_some, Option.some.injEq] at hf
    subst hf
    simp only [Bool.and_eq_true, beq_iff_eq] at hp
    obtain ⟨rfl, rfl⟩ := hp
    unfold jx_staF at hF
    split at hF
    · rename_i r hr
      simp only [Bool.or_eq_true, Bool.and_eq_true, beq_iff_eq] at hF
      exact ⟨r, hr, hF.elim (fun z => Or.inl (jx_inT z.2 rfl)) (fun z => Or.inr (jx_inN z.2 rfl))⟩
    · cases hF
theorem jx_ldcL_of {o idx : Nat} {x : Int32} (hf : tb_ldc o idx = some x) : Cond.constant (tb_Rn o) idx x ∈ jx_T := by
  unfold tb_ldc at hf
  cases ef : tb_ldcL.find? (fun q => q.1 == o && q.2.1 == idx) with
  | none => rw [ef] at hf; cases hf
  | some r =>
    rw [ef] at hf
    have hm := List.mem_of_find?_eq_some ef
    have hp := List.find?_some ef
    have hF := jx_ldcFs r hm
    obtain ⟨o', idx', x', pl⟩ := r
    simp only [Option.map_some, Option.some.injEq] at hf
    subst hf
    simp only [Bool.and_eq_true, beq_iff_eq] at hp
    obtain ⟨rfl, rfl⟩ := hp
    unfold jx_ldcF at hF
    simp only [beq_iff_eq] at hF
    exact jx_inT hF rfl
theorem jx_ldc2L_of {o idx : Nat} {x : Int64} (hf : tb_ldc2 o idx = some x) : Cond.constantLong (tb_Rn o) idx x ∈ jx_T := by
  unfold tb_ldc2 at hf
  cases ef : tb_ldc2L.find? (fun q => q.1 == o && q.2.1 == idx) with
  | none => rw [ef] at hf; cases hf
  | some r =>
    rw [ef] at hf
    have hm := List.mem_of_find?_eq_some ef
    have hp := List.find?_some ef
    have hF := jx_ldc2Fs r hm
    obtain ⟨o', idx', x', pl⟩ := r
    simp only [Option.map_some, Option.some.injEq] at hf
    subst hf
    simp only [Bool.and_eq_true, beq_iff_eq] at hp
    obtain ⟨rfl, rfl⟩ := hp
    unfold jx_ldc2F at hF
    simp only [beq_iff_eq] at hF
    exact jx_inT hF rfl
section JxRest
variable {p : Program} {l : Launch} {e : Env} {R : Room} {s : State} {m : MethodId} {args : Array Value} {below : List Frame} {meth : Method} {c : Code} {H : Heap} {locs : List Loc} {cells slots : Nat} {Q : State → Prop}
variable {D : va_G} {dA : Nat → ClassId} {base : Nat} {K : Nat → Option jx_E} {σ σ' : jx_S} {i pc a idx : Nat} {v : Value} {ls : Array Slot} {rest : List Value} {H0 : Heap} {n : Int32}
theorem jx_newa_some {t : Nat} (hg : jx_newa σ t n = some (v, σ')) : ¬ n < 0 ∧ n.toNatClampNeg ≤ 67108864 ∧ v = .ref σ.2.1 ∧ σ' = jx_mk σ (.inl (t, n.toNatClampNeg, jx_emp t)) n.toNatClampNeg := by
  unfold jx_newa at hg
  split at hg
  · cases hg
  · rename_i h
    cases hg
    exact ⟨fun q => h (Or.inl q), Nat.not_lt.mp fun q => h (Or.inr q), rfl, rfl⟩
theorem jx_made {H1 : Heap} {t N : Nat} (ht : t < 6) (hR : jx_Rep D dA base K σ H) (hS : va_S (jx_A base) H0 H locs) {d : Value} (hd : vp_cell (dA t) (N, jx_emp t) = arrV (dA t) N (fun _ => d)) (g1 : H1[H.size]? = some (arrV (dA t) N (fun _ => d))) (z1 : H1.size = H.size + 1) (o1 : ∀ q : Nat, q < H.size → H1[q]? = H[q]?) : jx_Rep D dA base K (jx_mk σ (.inl (t, N, jx_emp t)) N) H1 ∧ va_S (jx_A base) H0 H1 locs := by
  refine ⟨hR.mk ⟨ht, fun h0 => by subst h0; exact fun _ => rfl⟩ ?_ z1 o1, ⟨Nat.le_trans hS.1 (by omega), fun q h1 h2 => (o1 q (by have := hS.1; omega)).trans (hS.2.1 q h1 h2), hS.2.2⟩⟩
  show H1[H.size]? = some (vp_cell (dA t) (N, jx_emp t))
  rw [hd]
  exact g1
theorem jx_newp (hx : p.tables.exec = Jvm.exec) (hb : c.code = tb_code i) (hts : ∀ w ∈ jx_T, w.before args s = true) (hK : va_K D tb_cl (jx_tys dA) s) (hR : jx_Rep D dA base K σ H) (hS : va_S (jx_A base) H0 H locs) {y : ArrayType} {t : Nat} (ht : t < 6) (hw : Cond.arrayClass (newarray.typeOf y) ∈ jx_T) (hcls : s.vm.findClass ("[" ++ (newarray.typeOf y).toString) = some (dA t)) (hb8 : componentBytes (newarray.typeOf y) ≤ 8) (hd : ∀ N, vp_cell (dA t) (N, jx_emp t) = arrV (dA t) N (fun _ => defaultValue (newarray.typeOf y)))
    (hg : jx_newa σ t n = some (v, σ')) (hcells : cells + (σ'.2.1 - σ.2.1) ≤ R.cells) (hslots : slots + (σ'.2.2 - σ.2.2) ≤ R.slots) (hdg : decode (tb_code i) pc = .ok (.newarray y, 2))
    (kk : ∀ (H1 : Heap), jx_Rep D dA base K σ' H1 → va_S (jx_A base) H0 H1 locs → W p l e R s m args below meth c H1 locs (cells + (σ'.2.1 - σ.2.1)) (slots + (σ'.2.2 - σ.2.2)) Q (F0 m (pc + 2) ls (v :: rest))) : W p l e R s m args below meth c H locs cells slots Q (F0 m pc ls (.int n :: rest)) := by
  obtain ⟨hn, hle, rfl, rfl⟩ := jx_newa_some hg
  have e1 : (jx_mk σ (.inl (t, n.toNatClampNeg, jx_emp t)) n.toNatClampNeg).2.1 - σ.2.1 = 1 := by simp [jx_mk]
  have e2 : (jx_mk σ (.inl (t, n.toNatClampNeg, jx_emp t)) n.toNatClampNeg).2.2 - σ.2.2 = n.toNatClampNeg := by simp [jx_mk]
  simp only [e1, e2] at hcells hslots kk
  have hsz : H.size = σ.2.1 := hR.1.symm
  refine va_newaK hx hb (hts _ hw) rfl hdg rfl hn rfl (Nat.le_trans (Nat.mul_le_mul hle hb8) (by decide)) hcells hslots rfl fun H1 cA g1 z1 o1 _ hNm => ?_
  have hcA : cA = dA t := Option.some.inj (hNm.symm.trans hcls)
  subst hcA
  obtain ⟨r1, r2⟩ := jx_made ht hR hS (hd _) g1 z1 o1
  rw [hsz]
  exact kk H1 r1 r2
theorem jx_newa_ok (C0 : jx_Cx p s m args c i) (hK : va_K D tb_cl (jx_tys dA) s) (hR : jx_Rep D dA base K σ H) (hS : va_S (jx_A base) H0 H locs) {y : ArrayType} {t : Nat} (hy : jx_at y = some t) (hg : jx_newa σ t n = some (v, σ')) (hcells : cells + (σ'.2.1 - σ.2.1) ≤ R.cells) (hslots : slots + (σ'.2.2 - σ.2.2) ≤ R.slots) (hdg : decode (tb_code i) pc = .ok (.newarray y, 2))
    (kk : ∀ (H1 : Heap), jx_Rep D dA base K σ' H1 → va_S (jx_A base) H0 H1 locs → W p l e R s m args below meth c H1 locs (cells + (σ'.2.1 - σ.2.1)) (slots + (σ'.2.2 - σ.2.2)) Q (F0 m (pc + 2) ls (v :: rest))) : W p l e R s m args below meth c H locs cells slots Q (F0 m pc ls (.int n :: rest)) := by
  obtain ⟨hx, hb, -, hts⟩ := C0
  cases y <;> simp only [jx_at, Option.some.injEq, reduceCtorEq] at hy
  · subst hy; exact jx_newp (y := .boolean) (t := 3) hx hb hts hK hR hS (by decide) jx_arr_boolean (hK.2 3 _ rfl).2 (by decide) (fun _ => rfl) hg hcells hslots hdg kk
  · subst hy; exact jx_newp (y := .byte) (t := 0) hx hb hts hK hR hS (by decide) jx_arr_byte (hK.2 0 _ rfl).2 (by decide) (fun _ => rfl) hg hcells hslots hdg kk
  · subst hy; exact jx_newp (y := .int) (t := 1) hx hb hts hK hR hS (by decide) jx_arr_int (hK.2 1 _ rfl).2 (by decide) (fun _ => rfl) hg hcells hslots hdg kk
  · subst hy; exact jx_newp (y := .long) (t := 2) hx hb hts hK hR hS (by decide) jx_arr_long (hK.2 2 _ rfl).2 (by decide) (fun _ => rfl) hg hcells hslots hdg kk
theorem jx_newq (hx : p.tables.exec = Jvm.exec) (hb : c.code = tb_code i) (hown : s.vm.findClass (tb_Rn (tb_ow i)) = some m.cls) (hK : va_K D tb_cl (jx_tys dA) s) (hR : jx_Rep D dA base K σ H) (hS : va_S (jx_A base) H0 H locs) {C : String} {t : Nat} (ht : t < 6) (hl : (Cond.classLink (tb_Rn (tb_ow i)) idx C).before args s = true) (ho : va_AO C s) (hcls : s.vm.findClass ("[" ++ (FieldType.object C).toString) = some (dA t)) (hd : ∀ N, vp_cell (dA t) (N, jx_emp t) = arrV (dA t) N (fun _ => .null))
    (hg : jx_newa σ t n = some (v, σ')) (hcells : cells + (σ'.2.1 - σ.2.1) ≤ R.cells) (hslots : slots + (σ'.2.2 - σ.2.2) ≤ R.slots) (hdg : decode (tb_code i) pc = .ok (.anewarray idx, 3))
    (kk : ∀ (H1 : Heap), jx_Rep D dA base K σ' H1 → va_S (jx_A base) H0 H1 locs → W p l e R s m args below meth c H1 locs (cells + (σ'.2.1 - σ.2.1)) (slots + (σ'.2.2 - σ.2.2)) Q (F0 m (pc + 3) ls (v :: rest))) : W p l e R s m args below meth c H locs cells slots Q (F0 m pc ls (.int n :: rest)) := by
  obtain ⟨hn, hle, rfl, rfl⟩ := jx_newa_some hg
  have e1 : (jx_mk σ (.inl (t, n.toNatClampNeg, jx_emp t)) n.toNatClampNeg).2.1 - σ.2.1 = 1 := by simp [jx_mk]
  have e2 : (jx_mk σ (.inl (t, n.toNatClampNeg, jx_emp t)) n.toNatClampNeg).2.2 - σ.2.2 = n.toNatClampNeg := by simp [jx_mk]
  simp only [e1, e2] at hcells hslots kk
  have hsz : H.size = σ.2.1 := hR.1.symm
  refine W.anew hx hb hown hl (va_AO.use ho) rfl hdg rfl hn (by omega) hcells hslots fun cA kA comp f1 f2 f3 f4 => ?_
  have hcA : cA = dA t := Option.some.inj (f1.symm.trans hcls)
  subst hcA
  generalize hH1 : H.push ({ cls := dA t, slots := Array.replicate n.toNatClampNeg .null, vm := .none } : Cell) = H1
  have z1 : H1.size = H.size + 1 := by rw [← hH1, Array.size_push]
  have g1 : H1[H.size]? = some (arrV (dA t) n.toNatClampNeg (fun _ => .null)) := by rw [← hH1, Array.getElem?_push_size, ← arrV_new]
  have o1 : ∀ q : Nat, q < H.size → H1[q]? = H[q]? := fun q hq => by rw [← hH1, Array.getElem?_push, if_neg (Nat.ne_of_lt hq)]
  obtain ⟨r1, r2⟩ := jx_made ht hR hS (hd _) g1 z1 o1
  rw [hsz]
  exact kk H1 r1 r2
theorem jx_anew_ok (C0 : jx_Cx p s m args c i) (hK : va_K D tb_cl (jx_tys dA) s) (hN : ∀ w ∈ jx_N, va_Nw w s) (hR : jx_Rep D dA base K σ H) (hS : va_S (jx_A base) H0 H locs) {t : Nat} (hf : tb_anw (tb_ow i) idx = some t) (hg : jx_newa σ t n = some (v, σ')) (hcells : cells + (σ'.2.1 - σ.2.1) ≤ R.cells) (hslots : slots + (σ'.2.2 - σ.2.2) ≤ R.slots) (hdg : decode (tb_code i) pc = .ok (.anewarray idx, 3))
    (kk : ∀ (H1 : Heap), jx_Rep D dA base K σ' H1 → va_S (jx_A base) H0 H1 locs → W p l e R s m args below meth c H1 locs (cells + (σ'.2.1 - σ.2.1)) (slots + (σ'.2.2 - σ.2.2)) Q (F0 m (pc + 3) ls (v :: rest))) : W p l e R s m args below meth c H locs cells slots Q (F0 m pc ls (.int n :: rest)) := by
  obtain ⟨hx, hb, hown, hts⟩ := C0
  rcases jx_anwL_of hf with ⟨rfl, hl⟩ | ⟨rfl, hl⟩
  · obtain ⟨_, _, _, _, _, h4⟩ := (hK.2 4 _ rfl).2
    exact jx_newq hx hb hown hK hR hS (by decide) (hts _ hl) (hN _ jx_over_Object) h4 (fun _ => rfl) hg hcells hslots hdg kk
  · obtain ⟨_, _, _, _, _, h4⟩ := (hK.2 5 _ rfl).2
    exact jx_newq hx hb hown hK hR hS (by decide) (hts _ hl) (hN _ jx_over_Conn) h4 (fun _ => rfl) hg hcells hslots hdg kk
theorem jx_gets_ok (C0 : jx_Cx p s m args c i) (hN : ∀ w ∈ jx_N, va_Nw w s) {th : Nat → Nat} (hZ : ∀ (z : Nat) (r : String × String × String), tb_sn[z]? = some r → va_Z r.1 r.2.1 r.2.2 (.ref (th z)) (jx_A base) s s.heap) (hS : va_S (jx_A base) s.heap H locs) {z : Nat} (hf : tb_sta (tb_ow i) idx = some z) (hdg : decode (tb_code i) pc = .ok (.getstatic idx, 3))
    (kk : W p l e R s m args below meth c H locs cells slots Q (F0 m (pc + 3) ls (.ref (th z) :: rest))) : W p l e R s m args below meth c H locs cells slots Q (F0 m pc ls rest) := by
  obtain ⟨hx, hb, hown, hts⟩ := C0
  obtain ⟨r, hr, hl⟩ := jx_staL_of hf
  rcases hl with hl | hl
  · exact va_gets hx hb (hZ z r hr) hS hown (hts _ hl) (fun _ h => h) hdg kk
  · exact va_getsN hx hb (hZ z r hr) hS hown (va_Nw.use rfl (hN _ hl)) (fun _ h => h) hdg kk
theorem jx_cast_ok (C0 : jx_Cx p s m args c i) (hK : va_K D tb_cl (jx_tys dA) s) (hc : jx_Cst base K s) (hR : jx_Rep D dA base K σ H) (hg : jx_cast σ (tb_ow i) idx v = true) (hdg : decode (tb_code i) pc = .ok (.checkcast idx, 3))
    (kk : W p l e R s m args below meth c H locs cells slots Q (F0 m (pc + 3) ls (v :: rest))) : W p l e R s m args below meth c H locs cells slots Q (F0 m pc ls (v :: rest)) := by
  obtain ⟨hx, hb, hown, hts⟩ := C0
  unfold jx_cast at hg
  split at hg
  · exact lv_castN hx hb hdg kk
  · rename_i a
    split at hg
    · rename_i ci fs ha
      simp only [decide_eq_true_eq] at hg
      obtain ⟨-, hat⟩ := hR.obj hc ha
      obtain ⟨q, hq, -⟩ := id hat
      exact va_castS hx hb hown (hts _ (jx_newL_of hg hq)) (hK.1 ci _ hq).2 (va_recv hK (jx_P1 hat) (q0 := 0) hq rfl) hdg kk
    · rename_i t y ha
      simp only [decide_eq_true_eq] at hg
      obtain ⟨ht, hg⟩ := hg
      obtain ⟨-, -, hat⟩ := hR.arr hc ha (by omega)
      rcases jx_caL_of hg with ⟨rfl, hl⟩ | ⟨rfl, hl⟩
      · have h1 : s.vm.findClass ("[" ++ FieldType.byte.toString) = some (dA 0) := (hK.2 0 _ rfl).2
        rw [show "[" ++ FieldType.byte.toString = "[B" by decide] at h1
        exact va_castA hx hb hown (hts _ hl) (jx_P1 (D := D) (cl := tb_cl) (e := .inl (dA 0, y)) hat) 0 rfl h1 hdg kk
      · have h1 : s.vm.findClass ("[" ++ FieldType.int.toString) = some (dA 1) := (hK.2 1 _ rfl).2
        rw [show "[" ++ FieldType.int.toString = "[I" by decide] at h1
        exact va_castA hx hb hown (hts _ hl) (jx_P1 (D := D) (cl := tb_cl) (e := .inl (dA 1, y)) hat) 0 rfl h1 hdg kk
    · cases hg
  · cases hg
end JxRest
