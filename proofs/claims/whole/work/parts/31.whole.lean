/-! THE CLAIM OUT OF A PURE STATEMENT: what the interpreter says of the law's method -/
def jx_ci (l : List Int32) : jx_E := .inl (101, l.length, .inl (fun j => l.getD j 0))
def jx_cb : jx_E := .inl (100, 6, .inl (fun j => (kl 0).getD j 0))
def jx_co : jx_E := .inl (104, 0, .inr (.inr (.inr (.inr (fun _ => none)))))
def jx_kis (th : Nat → Nat) (b : Nat) (xl : List Int32) : List (Nat × List Int32) := [(b, xl), (th 2, kl 2), (th 3, kl 3), (th 4, kl 4), (th 5, kl 5), (th 6, kl 6), (th 7, kl 7)]
def jx_K (th : Nat → Nat) (b : Nat) (xl : List Int32) : Nat → Option jx_E := fun a => if a = th 0 then some jx_cb else if a = th 1 then some jx_co else ((jx_kis th b xl).find? (fun q => q.1 == a)).map (fun q => jx_ci q.2)
/-- what the arrays that nobody writes hold -/
def jx_KV (K : Nat → Option jx_E) (th : Nat → Nat) (b : Nat) (xl : List Int32) : Prop := K b = some (jx_ci xl) ∧ K (th 0) = some jx_cb ∧ K (th 1) = some jx_co ∧ ∀ z, 2 ≤ z → z < 8 → K (th z) = some (jx_ci (kl z))
theorem jx_Tuniq {ty ty' : FieldType} {a n n' : Nat} {f f' : Nat → Value} {A : Nat → Prop} {s : State} {H : Heap} (h : va_T ty a n f A s H) (h' : va_T ty' a n' f' A s H) (hn : n < 2 ^ 31) (hn' : n' < 2 ^ 31) : ty = ty' ∧ n = n' ∧ ∀ j, j < n → f j = f' j := by
  obtain ⟨cell, h1, ⟨-, k, hk, comp, hkind⟩, -, h4, h5, h6, -⟩ := h
  obtain ⟨cell', g1, ⟨-, k', gk, comp', gkind⟩, -, g4, g5, g6, -⟩ := h'
  cases h1.symm.trans g1
  cases hk.symm.trans gk
  have e1 : ty = ty' := by
    have := hkind.symm.trans gkind
    cases this
    rfl
  have e2 : n = n' := (nI_eq hn hn').mp (show nI n = nI n' from h5.symm.trans g5)
  subst e2
  refine ⟨e1, rfl, fun j hj => ?_⟩
  exact Option.some.inj ((h6 j hj).symm.trans (g6 j hj))
theorem jx_lists {l1 l2 : List Int32} (hl : l1.length = l2.length) (h : ∀ j, j < l1.length → Value.int (l1.getD j 0) = Value.int (l2.getD j 0)) : l1 = l2 := by
  refine List.ext_getElem hl (fun j h1 h2 => ?_)
  have := Value.int.inj (h j h1)
  simpa [List.getD_eq_getElem?_getD, h1, h2] using this
section JxWhole
variable {s : State} {th : Nat → Nat} {b base : Nat} {xl : List Int32}
/-- the facts of the cells: the octets, the empty row, the rows of numbers -/
def jx_Ts (base : Nat) (th : Nat → Nat) (b : Nat) (xl : List Int32) (s : State) : Prop := va_T .byte (th 0) 6 (fun j => .int ((kl 0).getD j 0)) (jx_A base) s s.heap ∧ va_T (.object "java/lang/Object") (th 1) 0 (fun _ => va_rf none) (jx_A base) s s.heap ∧ ∀ q ∈ jx_kis th b xl, q.2.length < 2 ^ 31 ∧ va_T .int q.1 q.2.length (fun j => .int (q.2.getD j 0)) (jx_A base) s s.heap
theorem jx_Kcst (h : jx_Ts base th b xl s) : jx_Cst base (jx_K th b xl) s := by
  obtain ⟨h0, h1, h2⟩ := h
  intro a e he
  unfold jx_K at he
  split at he
  · rename_i z
    cases he
    exact Or.inl ⟨_, _, rfl, by rw [z]; exact h0⟩
  · split at he
    · rename_i z
      cases he
      exact Or.inr (Or.inr ⟨_, _, rfl, by rw [z]; exact h1⟩)
    · obtain ⟨q, hq, he⟩ := Option.map_eq_some_iff.mp he
      cases he
      have hm := List.mem_of_find?_eq_some hq
      have hp := List.find?_some hq
      simp only [beq_iff_eq] at hp
      exact Or.inr (Or.inl ⟨_, _, rfl, by rw [← hp]; exact (h2 q hm).2⟩)
theorem jx_Kint (h : jx_Ts base th b xl s) {a : Nat} {l : List Int32} (hm : (a, l) ∈ jx_kis th b xl) : jx_K th b xl a = some (jx_ci l) := by
  obtain ⟨h0, h1, h2⟩ := h
  obtain ⟨hlt, hT⟩ := h2 _ hm
  simp only at hlt hT
  unfold jx_K
  split
  · rename_i z
    subst z
    exact absurd (jx_Tuniq hT h0 hlt (by decide)).1 (by decide)
  · split
    · rename_i z
      subst z
      exact absurd (jx_Tuniq hT h1 hlt (by decide)).1 (by decide)
    · cases hf : (jx_kis th b xl).find? (fun q => q.1 == a) with
      | none => exact absurd (List.find?_eq_none.mp hf _ hm) (by simp)
      | some q =>
        have hq := List.mem_of_find?_eq_some hf
        have hp := List.find?_some hf
        simp only [beq_iff_eq] at hp
        obtain ⟨hlt2, hT2⟩ := h2 q hq
        rw [hp] at hT2
        obtain ⟨-, e2, e3⟩ := jx_Tuniq hT2 hT hlt2 hlt
        rw [Option.map_some, jx_lists e2 e3]
theorem jx_KVof (h : jx_Ts base th b xl s) : jx_KV (jx_K th b xl) th b xl := by
  refine ⟨jx_Kint h (by simp [jx_kis]), by simp [jx_K], ?_, ?_⟩
  · unfold jx_K
    split
    · rename_i z
      have h0 := h.1
      rw [← z] at h0
      exact absurd (jx_Tuniq h.2.1 h0 (by decide) (by decide)).1 (by decide)
    · simp
  · intro z h1 h2
    have hz : z = 2 ∨ z = 3 ∨ z = 4 ∨ z = 5 ∨ z = 6 ∨ z = 7 := by omega
    rcases hz with rfl | rfl | rfl | rfl | rfl | rfl <;> exact jx_Kint h (by simp [jx_kis])
theorem jx_Klt (h : jx_Cst base (jx_K th b xl) s) {a : Nat} {e : jx_E} (he : jx_K th b xl a = some e) : a < s.heap.size := by
  rcases h a e he with ⟨n, f, -, cell, h1, -⟩ | ⟨n, f, -, cell, h1, -⟩ | ⟨n, f, -, cell, h1, -⟩ <;> exact (Array.getElem?_eq_some_iff.mp h1).1
end JxWhole
/-- what is left to show: pure -/
def jx_Pure (N : Nat) : Prop := ∀ (th : Nat → Nat) (base b : Nat) (xl : List Int32) (K : Nat → Option jx_E), xl.length ≤ N → jx_KV K th b xl → (∀ a e, K a = some e → a < base) →
  ∃ (n d : Nat) (σ' : jx_S), d ≤ 2000 ∧ jx_loop th (jx_call th d n) n 282 0 [(0, .ref b)] [] (K, base, 0) = some (some (.int 1), σ') ∧ σ'.2.1 ≤ base + 600000 ∧ σ'.2.2 ≤ 7302250
set_option maxHeartbeats 4000000 in
theorem jx_start_of (hpure : jx_Pure 5632) {p : Program} {e : Env} {s : State} {m : MethodId} {below : List Frame} {meth : Method} {c : Code} (l : Launch) {b L : Nat} {xs : Nat → Int32} (hL : L ≤ 5632) (C0 : lw_At p s m meth c b L xs) : W p l e room_1 s m #[Value.ref b] below meth c s.heap [] 0 0 (lw_Z below #[Value.ref b] s) (entryFrame m ([Value.ref b] : List Value).toArray 4) := by
  obtain ⟨hx, hb, hr, hml, hown, hts, hX, hbl, hlocks, hgv⟩ := C0
  have hA : ∀ a : Nat, a < s.heap.size → ¬ jx_A s.heap.size a := fun a h z => absurd h (Nat.not_lt.mpr z)
  obtain ⟨D, hD⟩ := jx_known hts
  obtain ⟨dA, hdA⟩ := jx_dA hts
  have hK : va_K D tb_cl (jx_tys dA) s := ⟨hD, hdA⟩
  obtain ⟨t0, z0, T0⟩ := jx_st_0 hts hgv hA
  obtain ⟨t1, z1, T1⟩ := jx_st_1 hts hgv hA
  obtain ⟨t2, z2, T2⟩ := jx_st_2 hts hgv hA
  obtain ⟨t3, z3, T3⟩ := jx_st_3 hts hgv hA
  obtain ⟨t4, z4, T4⟩ := jx_st_4 hts hgv hA
  obtain ⟨t5, z5, T5⟩ := jx_st_5 hts hgv hA
  obtain ⟨t6, z6, T6⟩ := jx_st_6 hts hgv hA
  obtain ⟨t7, z7, T7⟩ := jx_st_7 hts hgv hA
  obtain ⟨mi, hM⟩ := va_Mi.of (C := "[Ljava/lang/Object;") (flat_of_before _ hgv _ (by decide +kernel))
  obtain ⟨th, hth⟩ : ∃ th : Nat → Nat, th 0 = t0 ∧ th 1 = t1 ∧ th 2 = t2 ∧ th 3 = t3 ∧ th 4 = t4 ∧ th 5 = t5 ∧ th 6 = t6 ∧ th 7 = t7 ∧ th 100 = mi :=
    ⟨fun z => match z with | 0 => t0 | 1 => t1 | 2 => t2 | 3 => t3 | 4 => t4 | 5 => t5 | 6 => t6 | 7 => t7 | _ => mi, rfl, rfl, rfl, rfl, rfl, rfl, rfl, rfl, rfl⟩
  obtain ⟨rfl, rfl, rfl, rfl, rfl, rfl, rfl, rfl, rfl⟩ := hth
  obtain ⟨xl, hxl⟩ : ∃ xl : List Int32, xl = (List.range L).map xs := ⟨_, rfl⟩
  have hlen : xl.length = L := by rw [hxl]; simp
  have hTb : va_T .int b xl.length (fun j => .int (xl.getD j 0)) (jx_A s.heap.size) s s.heap := by
    obtain ⟨scr, g1, g2, g3, g4, g5⟩ := hX
    refine ⟨scr, g1, g2, g3, by omega, by rw [g4, hlen], fun j hj => ?_, hA b hbl⟩
    rw [hlen] at hj
    rw [g5 j hj, hxl]
    simp [List.getD_eq_getElem?_getD, hj]
  have hTs : jx_Ts s.heap.size th b xl s := by
    refine ⟨T0, T1, ?_⟩
    intro q hq
    simp only [jx_kis, List.mem_cons, List.not_mem_nil, or_false] at hq
    rcases hq with rfl | rfl | rfl | rfl | rfl | rfl | rfl
    · exact ⟨by show xl.length < 2 ^ 31; omega, hTb⟩
    · exact ⟨show (kl 2).length < 2 ^ 31 by decide, T2⟩
    · exact ⟨show (kl 3).length < 2 ^ 31 by decide, T3⟩
    · exact ⟨show (kl 4).length < 2 ^ 31 by decide, T4⟩
    · exact ⟨show (kl 5).length < 2 ^ 31 by decide, T5⟩
    · exact ⟨show (kl 6).length < 2 ^ 31 by decide, T6⟩
    · exact ⟨show (kl 7).length < 2 ^ 31 by decide, T7⟩
  have hC := jx_Kcst hTs
  have hKx : jx_Kx th D dA s.heap.size (jx_K th b xl) s := by
    refine ⟨hK, jx_Nlt hts, jx_Fs hts, hM, fun z r hr => ?_, hC⟩
    match z, hr with
    | 0, hr => cases hr; exact z0
    | 1, hr => cases hr; exact z1
    | 2, hr => cases hr; exact z2
    | 3, hr => cases hr; exact z3
    | 4, hr => cases hr; exact z4
    | 5, hr => cases hr; exact z5
    | 6, hr => cases hr; exact z6
    | 7, hr => cases hr; exact z7
    | k + 8, hr => simp [tb_sn] at hr
  have hR : jx_Rep D dA s.heap.size (jx_K th b xl) (jx_K th b xl, s.heap.size, 0) s.heap := ⟨rfl, Nat.le_refl _, fun a e he => Or.inr he⟩
  obtain ⟨n, d, σ', hd, hrun, hc1, hc2⟩ := hpure th s.heap.size b xl (jx_K th b xl) (by omega) (jx_KVof hTs) (fun a e he => jx_Klt hC he)
  have hcall : ∀ (j : Nat) (as : List Value) (σ : jx_S) (r : Option Value) (σ' : jx_S), jx_call th d n j as σ = some (r, σ') → j < 282 → plainName (tb_y j).cls = true → (σ.2.1 ≤ σ'.2.1 ∧ σ.2.2 ≤ σ'.2.2) ∧ ∃ d' : Nat, d = d' + 1 ∧ jx_Met l th D dA s.heap.size (jx_K th b xl) d' j as σ r σ' := by
    intro j as σ r σ' h hj hpl
    cases d with
    | zero => unfold jx_call at h; cases h
    | succ d' => exact ⟨jx_call_mono th n (d' + 1) j as σ r σ' h, d', rfl, jx_call_ok l th D dA s.heap.size (jx_K th b xl) n d' j as σ r σ' h hj hpl⟩
  have hC0 : jx_Cx p s m #[Value.ref b] c 282 := ⟨hx, hb.trans (by rfl), by rw [show tb_Rn (tb_ow 282) = R_law by decide +kernel]; exact hown, jx_Tlt hts⟩
  have hl := lv_entry ([.ref b]) (n := 4) (Nat.le_of_ble_eq_true rfl)
  rw [lg_entry_eq]
  generalize (lg_sl ([.ref b]) ++ List.replicate (4 - (lg_sl ([.ref b])).length) Slot.unset).toArray = ls at hl ⊢
  have hl : lv_has ls 4 [(0, .ref b)] := hl
  obtain ⟨hm, hk⟩ := jx_loop_ok (l := l) (e := e) (R := room_1) (below := below) (meth := meth) (Q := lw_Z below #[Value.ref b] s) hC0 (hml.trans (by rfl)) (fun z => absurd z (by decide +kernel)) hKx (d := d) (show d + 1 ≤ 2048 by omega) (show 40 * (d + 1) ≤ 84000 by omega) hcall n 0 _ _ _ _ _ hrun
  simp only at hm hk
  refine hk s.heap [] 0 0 ls hR va_S.rf hl (show 0 + (σ'.2.1 - s.heap.size) ≤ 600000 by omega) (show 0 + (σ'.2.2 - 0) ≤ 7302250 by omega) ?_
  intro H1 locs1 pc1 len1 ins1 ls1 st1 hR1 hS1 hdg hret
  have hrt : tb_ret 282 = ret := by rfl
  rw [hrt] at hret
  have hdg2 : decode code pc1 = .ok (ins1, len1) := hdg
  refine va_forget (fun q hq => hS1.2.2 q hq) ?_
  refine W.widen (k := 600000) (n := 7302250) (by omega) (by omega) ?_
  unfold jx_ret at hret
  split at hret
  · split at hret <;> cases hret
  · split at hret
    · split at hret
      · rename_i hh
        obtain ⟨rfl, -⟩ := hh
        cases hret
        exact lw_ret hx hb hr hlocks hdg2
      · cases hret
    · cases hret
  · split at hret
    · split at hret
      · cases hret
      · cases hret
    · cases hret
  · split at hret
    · split at hret
      · rename_i hh
        cases hret
        exact absurd hh.2 (by decide)
      · cases hret
    · split at hret
      · rename_i hh
        cases hret
        exact absurd hh.2 (by decide)
      · cases hret
    · cases hret
  · cases hret
