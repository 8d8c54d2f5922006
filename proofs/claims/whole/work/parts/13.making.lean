/-! THE INTERPRETER: references into arrays, making, statics, constants, casts -/
def jx_ast (σ : jx_S) (a : Nat) (j : Int32) (v : Value) : Option jx_S := match σ.1 a with
  | some (.inl (t, n, .inr (.inr (.inr (.inr f))))) => if (t = 4 ∨ t = 5) ∧ ¬ (j < 0 ∨ n ≤ j.toNatClampNeg) then
      (match v with
      | .null => some (jx_up σ a (.inl (t, n, .inr (.inr (.inr (.inr (va_up f j.toNatClampNeg none)))))))
      | .ref b => (match σ.1 b with
        | some (.inr (ci, _)) => if (t = 5 ∧ ci = 5) ∨ (t = 4 ∧ ci ∈ [6, 8, 9, 10, 11]) then some (jx_up σ a (.inl (t, n, .inr (.inr (.inr (.inr (va_up f j.toNatClampNeg (some b)))))))) else none
        | _ => none)
      | _ => none) else none
  | _ => none
def jx_newo (σ : jx_S) (ci : Nat) : Option (Value × jx_S) := match tb_cl[ci]? with
  | some q => some (.ref σ.2.1, jx_mk σ (.inr (ci, tb_df ci)) q.2.2)
  | none => none
/-- an array of n places of type t, all of them empty -/
def jx_emp (t : Nat) : jx_Y := match t with
  | 2 => .inr (.inl (fun _ => 0))
  | 4 => .inr (.inr (.inr (.inr (fun _ => none))))
  | 5 => .inr (.inr (.inr (.inr (fun _ => none))))
  | _ => .inl (fun _ => 0)
def jx_newa (σ : jx_S) (t : Nat) (n : Int32) : Option (Value × jx_S) := if n < 0 ∨ 67108864 < n.toNatClampNeg then none else some (.ref σ.2.1, jx_mk σ (.inl (t, n.toNatClampNeg, jx_emp t)) n.toNatClampNeg)
def jx_at (y : ArrayType) : Option Nat := match y with
  | .byte => some 0
  | .int => some 1
  | .long => some 2
  | .boolean => some 3
  | _ => none
section JxMake
variable {p : Program} {l : Launch} {e : Env} {R : Room} {s : State} {m : MethodId} {args : Array Value} {below : List Frame} {meth : Method} {c : Code} {H : Heap} {locs : List Loc} {cells slots : Nat} {Q : State → Prop}
variable {D : va_G} {dA : Nat → ClassId} {base : Nat} {K : Nat → Option jx_E} {σ σ' : jx_S} {i pc a idx : Nat} {j : Int32} {v : Value} {ls : Array Slot} {rest : List Value} {H0 : Heap}
theorem jx_aastA (hx : p.tables.exec = Jvm.exec) (hb : c.code = tb_code i) (hK : va_K D tb_cl (jx_tys dA) s) (hR : jx_Rep D dA base K σ H) (hS : va_S (jx_A base) H0 H locs) {t n b : Nat} {E : String} {f : Nat → Option Nat} (ht : t < 6) (hba : base ≤ a) (hat : H[a]? = some (vp_cell (dA t) (n, .inr (.inr (.inr (.inr f)))))) (hE : jx_tyt t = .object E) (hr : va_Any E s H b) (hin : ¬ (j < 0 ∨ n ≤ j.toNatClampNeg)) (hdg : decode (tb_code i) pc = .ok (.aastore, 1))
    (kk : ∀ (H1 : Heap) (locs1 : List Loc), jx_Rep D dA base K (jx_up σ a (.inl (t, n, .inr (.inr (.inr (.inr (va_up f j.toNatClampNeg (some b)))))))) H1 → va_S (jx_A base) H0 H1 locs1 → W p l e R s m args below meth c H1 locs1 cells slots Q (F0 m (pc + 1) ls rest)) : W p l e R s m args below meth c H locs cells slots Q (F0 m pc ls (.ref b :: .int j :: .ref a :: rest)) := by
  have hlt : j.toNatClampNeg < n := Nat.not_le.mp fun q => hin (Or.inr q)
  have h0 : ¬ j < 0 := fun q => hin (Or.inl q)
  obtain ⟨cellV, g1, g3, ⟨kC, hkC⟩, hasg⟩ := hr
  have hra := (hK.2 t _ (jx_tys_at ht)).2
  simp only [hE] at hra
  obtain ⟨kA, comp, k1, k2, k3, -⟩ := hra
  obtain ⟨kE, hkE, -⟩ := Vm.findClass_spec k3
  refine W.aast hx hb hat (fun q h => by cases h) (fun h => by cases h) k1 k2 rfl hkE ⟨h0, by show _ < (arrV _ _ _).slots.size; rw [arrV_size]; exact hlt⟩ g1 (fun q h => by rw [h] at g3; cases g3) hkC (hasg _ k3) rfl rfl hdg fun H1 e1 z oq => ?_
  exact kk H1 _ (hR.set hba ⟨ht, fun _ => trivial⟩ (e1.trans (congrArg some (jx_cell_q (y := some b)))) z oq) (hS.put z oq hba)
theorem jx_aastN (hx : p.tables.exec = Jvm.exec) (hb : c.code = tb_code i) (hK : va_K D tb_cl (jx_tys dA) s) (hR : jx_Rep D dA base K σ H) (hS : va_S (jx_A base) H0 H locs) {t n : Nat} {E : String} {f : Nat → Option Nat} (ht : t < 6) (hba : base ≤ a) (hat : H[a]? = some (vp_cell (dA t) (n, .inr (.inr (.inr (.inr f)))))) (hE : jx_tyt t = .object E) (hin : ¬ (j < 0 ∨ n ≤ j.toNatClampNeg)) (hdg : decode (tb_code i) pc = .ok (.aastore, 1))
    (kk : ∀ (H1 : Heap) (locs1 : List Loc), jx_Rep D dA base K (jx_up σ a (.inl (t, n, .inr (.inr (.inr (.inr (va_up f j.toNatClampNeg none))))))) H1 → va_S (jx_A base) H0 H1 locs1 → W p l e R s m args below meth c H1 locs1 cells slots Q (F0 m (pc + 1) ls rest)) : W p l e R s m args below meth c H locs cells slots Q (F0 m pc ls (.null :: .int j :: .ref a :: rest)) := by
  have har := (hK.2 t _ (jx_tys_at ht)).1 n (fun j => va_rf (f j))
  simp only [hE] at har
  refine va_WaastN (C := E) hx hb hat har (fun h => by cases h) (by show ¬ (j < 0 ∨ (arrV _ _ _).slots.size ≤ _); rw [arrV_size]; exact hin) rfl rfl hdg fun H1 e1 z oq => ?_
  exact kk H1 _ (hR.set hba ⟨ht, fun _ => trivial⟩ (e1.trans (congrArg some (jx_cell_q (y := none)))) z oq) (hS.put z oq hba)
theorem jx_aast_ok (C0 : jx_Cx p s m args c i) (hK : va_K D tb_cl (jx_tys dA) s) (hN : ∀ w ∈ jx_N, va_Nw w s) (hc : jx_Cst base K s) (hR : jx_Rep D dA base K σ H) (hS : va_S (jx_A base) H0 H locs) (hg : jx_ast σ a j v = some σ') (hdg : decode (tb_code i) pc = .ok (.aastore, 1))
    (kk : ∀ (H1 : Heap) (locs1 : List Loc), jx_Rep D dA base K σ' H1 → va_S (jx_A base) H0 H1 locs1 → W p l e R s m args below meth c H1 locs1 cells slots Q (F0 m (pc + 1) ls rest)) : W p l e R s m args below meth c H locs cells slots Q (F0 m pc ls (v :: .int j :: .ref a :: rest)) := by
  obtain ⟨hx, hb, -, -⟩ := C0
  unfold jx_ast at hg
  split at hg
  · rename_i t n f ha
    split at hg
    · rename_i hh
      obtain ⟨ht, hin⟩ := hh
      have ht6 : t < 6 := by omega
      obtain ⟨hba, -, hat⟩ := hR.arr hc ha (by omega)
      split at hg
      · cases hg
        rcases ht with rfl | rfl
        · exact jx_aastN hx hb hK hR hS (by decide) hba hat rfl hin hdg kk
        · exact jx_aastN hx hb hK hR hS (by decide) hba hat rfl hin hdg kk
      · rename_i b
        split at hg
        · rename_i ci fs hbv
          split at hg
          · rename_i hci
            cases hg
            obtain ⟨-, hatb⟩ := hR.obj hc hbv
            rcases hci with ⟨rfl, rfl⟩ | ⟨rfl, hci⟩
            · refine jx_aastA hx hb hK hR hS (by decide) hba hat rfl (va_rAny hK (jx_P1 hatb) (q0 := 0) rfl (r := ("QuotaPeers$Connection", tf_5, 10)) rfl (fun comp c0 h1 h2 => ?_)) hin hdg kk
              have hcls := (hK.1 5 _ rfl).2
              cases h1.symm.trans h2
              cases h1.symm.trans hcls.1
              exact va_assign hcls
            · obtain ⟨r, hr, hw⟩ := jx_objs hci
              refine jx_aastA hx hb hK hR hS (by decide) hba hat rfl (va_rAny hK (jx_P1 hatb) (q0 := 0) rfl hr (fun comp c0 h1 h2 => ?_)) hin hdg kk
              obtain ⟨c1, t1, f1, f2, f3⟩ := Cond.castable_spec (va_Nw.use (A := args) rfl (hN _ hw))
              cases h1.symm.trans f2
              cases h2.symm.trans f1
              exact f3
          · cases hg
        · cases hg
      · cases hg
    · cases hg
  · cases hg
theorem jx_new_ok (C0 : jx_Cx p s m args c i) (hK : va_K D tb_cl (jx_tys dA) s) (hR : jx_Rep D dA base K σ H) (hS : va_S (jx_A base) H0 H locs) {ci : Nat} (hf : tb_new (tb_ow i) idx = some ci) (hg : jx_newo σ ci = some (v, σ')) (hcells : cells + (σ'.2.1 - σ.2.1) ≤ R.cells) (hslots : slots + (σ'.2.2 - σ.2.2) ≤ R.slots) (hdg : decode (tb_code i) pc = .ok (.new idx, 3))
    (kk : ∀ (H1 : Heap), jx_Rep D dA base K σ' H1 → va_S (jx_A base) H0 H1 locs → W p l e R s m args below meth c H1 locs (cells + (σ'.2.1 - σ.2.1)) (slots + (σ'.2.2 - σ.2.2)) Q (F0 m (pc + 3) ls (v :: rest))) : W p l e R s m args below meth c H locs cells slots Q (F0 m pc ls rest) := by
  obtain ⟨hx, hb, hown, hts⟩ := C0
  unfold jx_newo at hg
  split at hg
  · rename_i q hq
    obtain ⟨C, T, N⟩ := q
    cases hg
    have e1 : (jx_mk σ (.inr (ci, tb_df ci)) N).2.1 - σ.2.1 = 1 := by simp [jx_mk]
    have e2 : (jx_mk σ (.inr (ci, tb_df ci)) N).2.2 - σ.2.2 = N := by simp [jx_mk]
    simp only [e1, e2] at hcells hslots kk
    have hlink : Cond.classLink (tb_Rn (tb_ow i)) idx C ∈ jx_T := by
      unfold tb_new at hf
      cases ef : tb_newL.find? (fun q => q.1 == tb_ow i && q.2.1 == idx) with
      | none => rw [ef] at hf; cases hf
      | some q =>
        rw [ef] at hf
        have hm := List.mem_of_find?_eq_some ef
        have hp := List.find?_some ef
        have hF := jx_newFs q hm
        obtain ⟨o', idx', ci', pl⟩ := q
        simp only [Option.map_some, Option.some.injEq] at hf
        subst hf
        simp only [Bool.and_eq_true, beq_iff_eq] at hp
        obtain ⟨rfl, rfl⟩ := hp
        unfold jx_newF at hF
        simp only [hq, beq_iff_eq] at hF
        exact jx_inT hF rfl
    obtain ⟨hin, hty, -, hdf, hins, hini⟩ := jx_clFs ci _ hq
    have hKn := hK.1 ci _ hq
    have hsz : H.size = σ.2.1 := hR.1.symm
    refine W.newcK hx hb hown (hts _ hlink) (hts _ hins) (hts _ hini) rfl hdg hcells hslots hKn.2.1 hsz fun H1 kC hkC g1 z1 o1 => ?_
    refine kk H1 (hR.mk trivial ?_ (by omega) (fun q hq => o1 q (by omega))) ⟨Nat.le_trans hS.1 (by omega), fun q h1 h2 => (o1 q (by have := hS.1; omega)).trans (hS.2.1 q h1 h2), hS.2.2⟩
    rw [hsz]
    exact ⟨_, hq, (u_born (tb_tt ci) hts hin hKn hkC g1 hty).to hdf⟩
  · cases hg
end JxMake
