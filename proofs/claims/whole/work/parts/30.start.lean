/-! written by gen_start.py: the law's entry, in the interpreter's words -/
def kl_0 : List Int32 := [109, 46, 104, 111, 109, 101]
def kl_2 : List Int32 := [264, 296, 258]
def kl_3 : List Int32 := [264, 296]
def kl_4 : List Int32 := [264, 296, 273]
def kl_5 : List Int32 := [263, 264, 296, 416, 415]
def kl_6 : List Int32 := []
def kl_7 : List Int32 := [268, 264, 296]
def kl (z : Nat) : List Int32 := match z with
  | 0 => kl_0
  | 2 => kl_2
  | 3 => kl_3
  | 4 => kl_4
  | 5 => kl_5
  | 6 => kl_6
  | 7 => kl_7
  | _ => []
theorem jx_Tlt {args : Array Value} {s : State} (hts : ∀ w ∈ lw_tbl, w.before args s = true) : ∀ w ∈ jx_T, w.before args s = true := fun w hw => hts w (List.mem_filter.mp hw).1
theorem jx_known {args : Array Value} {s : State} (hts : ∀ w ∈ lw_tbl, w.before args s = true) : ∃ D : va_G, ∀ (k : Nat) (q : vw_C), tb_cl[k]? = some q → u_Kn s q.1 q.2.1 q.2.2 (D.1 k) (D.2 k) := by
  have h : ∀ k : Nat, ∃ x : ClassId × (Nat → Nat), ∀ q, tb_cl[k]? = some q → u_Kn s q.1 q.2.1 q.2.2 x.1 x.2 := by
    intro k
    cases e : tb_cl[k]? with
    | none => exact ⟨(0, fun _ => 0), fun q h => by cases h⟩
    | some q =>
      obtain ⟨h1, -, -, -, h5, -⟩ := jx_clFs k q e
      obtain ⟨cC, iS, hk⟩ := u_known (jx_Tlt hts) h1 (jx_Tlt hts _ h5)
      exact ⟨(cC, iS), fun q' h' => by cases h'; exact hk⟩
  exact ⟨(fun k => (Classical.choose (h k)).1, fun k => (Classical.choose (h k)).2), fun k q hq => Classical.choose_spec (h k) q hq⟩
theorem jx_arrP {args : Array Value} {s : State} {ty : FieldType} (h : (Cond.arrayClass ty).before args s = true) : ∃ cA : ClassId, ArrOfT s cA ty ∧ s.vm.findClass ("[" ++ ty.toString) = some cA := by
  obtain ⟨c, k, comp, h1, h2, h3⟩ := Cond.arrayClass_spec h
  exact ⟨c, fun n z => ⟨fun k h => (by cases h), k, h2, comp, h3⟩, h1⟩
theorem jx_arrQ {s : State} {C : String} (h : va_Nw (.arrayOver (.object C)) s) : ∃ cA : ClassId, ArrOfT s cA (.object C) ∧ va_RA s cA (.object C) := by
  obtain ⟨comp, c, k, h1, -, h3, h4, h5⟩ := Cond.arrayOver_spec (show (Cond.arrayOver (.object C)).before #[] s = true from h)
  exact ⟨c, fun n z => ⟨fun k h => (by cases h), k, h3, comp, h4⟩, k, comp, h3, h4, h1, h5⟩
theorem jx_Nlt {args : Array Value} {s : State} (hts : ∀ w ∈ lw_tbl, w.before args s = true) : ∀ w ∈ jx_N, va_Nw w s := by
  intro w hw
  obtain ⟨h1, h2⟩ := List.mem_filter.mp hw
  unfold jx_isN at h2
  split at h2
  · exact va_Nw.of rfl (hts _ h1)
  · exact va_Nw.of rfl (hts _ h1)
  · exact va_AO.of (hts _ h1)
  · exact va_Nw.of rfl (hts _ h1)
  · exact va_Nw.of rfl (hts _ h1)
  · cases h2
theorem jx_dA {args : Array Value} {s : State} (hts : ∀ w ∈ lw_tbl, w.before args s = true) : ∃ dA : Nat → ClassId, ∀ (k : Nat) (q : ClassId × FieldType), (jx_tys dA)[k]? = some q → ArrOfT s q.1 q.2 ∧ va_RA s q.1 q.2 := by
  have ht := jx_Tlt hts
  have hn := jx_Nlt hts
  obtain ⟨c0, a0, b0⟩ := jx_arrP (ht _ jx_arr_byte)
  obtain ⟨c1, a1, b1⟩ := jx_arrP (ht _ jx_arr_int)
  obtain ⟨c2, a2, b2⟩ := jx_arrP (ht _ jx_arr_long)
  obtain ⟨c3, a3, b3⟩ := jx_arrP (ht _ jx_arr_boolean)
  obtain ⟨c4, a4, b4⟩ := jx_arrQ (hn _ jx_over_Object)
  obtain ⟨c5, a5, b5⟩ := jx_arrQ (hn _ jx_over_Conn)
  refine ⟨fun t => match t with | 0 => c0 | 1 => c1 | 2 => c2 | 3 => c3 | 4 => c4 | _ => c5, ?_⟩
  intro k q h
  match k, h with
  | 0, h => cases h; exact ⟨a0, b0⟩
  | 1, h => cases h; exact ⟨a1, b1⟩
  | 2, h => cases h; exact ⟨a2, b2⟩
  | 3, h => cases h; exact ⟨a3, b3⟩
  | 4, h => cases h; exact ⟨a4, b4⟩
  | 5, h => cases h; exact ⟨a5, b5⟩
  | n + 6, h => simp [jx_tys] at h
theorem jx_Fs {args : Array Value} {s : State} (hts : ∀ w ∈ lw_tbl, w.before args s = true) : ∀ q ∈ tb_if, va_Fw "java/util/ArrayList" q.1 q.2 s := by
  intro q hq
  simp only [tb_if, List.mem_cons, List.not_mem_nil, or_false] at hq
  rcases hq with rfl | rfl | rfl | rfl | rfl
  · obtain ⟨h1, h2, h3, h4, h5⟩ := jx_if_0; exact va_Fw.of (hts _ h1) (hts _ h2) (hts _ h3) (hts _ h4) (hts _ h5)
  · obtain ⟨h1, h2, h3, h4, h5⟩ := jx_if_1; exact va_Fw.of (hts _ h1) (hts _ h2) (hts _ h3) (hts _ h4) (hts _ h5)
  · obtain ⟨h1, h2, h3, h4, h5⟩ := jx_if_2; exact va_Fw.of (hts _ h1) (hts _ h2) (hts _ h3) (hts _ h4) (hts _ h5)
  · obtain ⟨h1, h2, h3, h4, h5⟩ := jx_if_3; exact va_Fw.of (hts _ h1) (hts _ h2) (hts _ h3) (hts _ h4) (hts _ h5)
  · obtain ⟨h1, h2, h3, h4, h5⟩ := jx_if_4; exact va_Fw.of (hts _ h1) (hts _ h2) (hts _ h3) (hts _ h4) (hts _ h5)
set_option maxRecDepth 100000 in
theorem jx_st_0 {args : Array Value} {s : State} {A : Nat → Prop} (hts : ∀ w ∈ lw_tbl, w.before args s = true) (hgv : (Jvm.Cond.and given_1 narrow_1).before args s = true) (hA : ∀ a : Nat, a < s.heap.size → ¬ A a) : ∃ t : Nat, va_Z "QuotaPeers" "FIRST_HOST" "[B" (.ref t) A s s.heap ∧ va_T .byte t 6 (fun j => .int ((kl 0).getD j 0)) A s s.heap := by
  have hs := flat_of_before _ hgv
  have hel : ∀ j : Nat, j < 6 → (Term.elem (Term.static "QuotaPeers" "FIRST_HOST" "[B") (.int (Int32.ofNat j))).eval args s none [] s = some ((fun j => .int ((kl 0).getD j 0)) j) := by
    intro j hj
    match j, hj with
    | 0, _ => exact va_eqt (z := 109) (hs _ (by decide +kernel))
    | 1, _ => exact va_eqt (z := 46) (hs _ (by decide +kernel))
    | 2, _ => exact va_eqt (z := 104) (hs _ (by decide +kernel))
    | 3, _ => exact va_eqt (z := 111) (hs _ (by decide +kernel))
    | 4, _ => exact va_eqt (z := 109) (hs _ (by decide +kernel))
    | 5, _ => exact va_eqt (z := 101) (hs _ (by decide +kernel))
  obtain ⟨t, h1, h2⟩ := va_Tof (tm := (Term.static "QuotaPeers" "FIRST_HOST" "[B")) (ty := .byte) (N := 6) (f := (fun j => .int ((kl 0).getD j 0))) (A := A) (args := args) (s := s) (by decide) (hs _ (by decide +kernel)) (va_eqt (z := 6) (hs _ (by decide +kernel))) hel hA
  exact ⟨t, va_Zof (hts _ (List.mem_of_getElem? (i := 163) (by decide +kernel))) (hts _ (List.mem_of_getElem? (i := 133) (by decide +kernel))) h1 hA, h2⟩
set_option maxRecDepth 100000 in
theorem jx_st_1 {args : Array Value} {s : State} {A : Nat → Prop} (hts : ∀ w ∈ lw_tbl, w.before args s = true) (hgv : (Jvm.Cond.and given_1 narrow_1).before args s = true) (hA : ∀ a : Nat, a < s.heap.size → ¬ A a) : ∃ t : Nat, va_Z "java/util/ArrayList" "DEFAULTCAPACITY_EMPTY_ELEMENTDATA" "[Ljava/lang/Object;" (.ref t) A s s.heap ∧ va_T (.object "java/lang/Object") t 0 (fun _ => va_rf none) A s s.heap := by
  have hs := flat_of_before _ hgv
  have hel : ∀ j : Nat, j < 0 → (Term.elem (Term.static "java/util/ArrayList" "DEFAULTCAPACITY_EMPTY_ELEMENTDATA" "[Ljava/lang/Object;") (.int (Int32.ofNat j))).eval args s none [] s = some ((fun _ => va_rf none) j) := by
    intro j hj
    omega
  obtain ⟨t, h1, h2⟩ := va_Tof (tm := (Term.static "java/util/ArrayList" "DEFAULTCAPACITY_EMPTY_ELEMENTDATA" "[Ljava/lang/Object;")) (ty := (.object "java/lang/Object")) (N := 0) (f := (fun _ => va_rf none)) (A := A) (args := args) (s := s) (by decide) (hs _ (by decide +kernel)) (va_eqt (z := 0) (hs _ (by decide +kernel))) hel hA
  exact ⟨t, va_Zof (hts _ (List.mem_of_getElem? (i := 179) (by decide +kernel))) (hts _ (List.mem_of_getElem? (i := 136) (by decide +kernel))) h1 hA, h2⟩
set_option maxRecDepth 100000 in
theorem jx_st_2 {args : Array Value} {s : State} {A : Nat → Prop} (hts : ∀ w ∈ lw_tbl, w.before args s = true) (hgv : (Jvm.Cond.and given_1 narrow_1).before args s = true) (hA : ∀ a : Nat, a < s.heap.size → ¬ A a) : ∃ t : Nat, va_Z "QuotaPeers" "OPENING_MUSTS" "[I" (.ref t) A s s.heap ∧ va_T .int t 3 (fun j => .int ((kl 2).getD j 0)) A s s.heap := by
  have hs := flat_of_before _ hgv
  have hel : ∀ j : Nat, j < 3 → (Term.elem (Term.static "QuotaPeers" "OPENING_MUSTS" "[I") (.int (Int32.ofNat j))).eval args s none [] s = some ((fun j => .int ((kl 2).getD j 0)) j) := by
    intro j hj
    match j, hj with
    | 0, _ => exact va_eqt (z := 264) (hs _ (by decide +kernel))
    | 1, _ => exact va_eqt (z := 296) (hs _ (by decide +kernel))
    | 2, _ => exact va_eqt (z := 258) (hs _ (by decide +kernel))
  obtain ⟨t, h1, h2⟩ := va_Tof (tm := (Term.static "QuotaPeers" "OPENING_MUSTS" "[I")) (ty := .int) (N := 3) (f := (fun j => .int ((kl 2).getD j 0))) (A := A) (args := args) (s := s) (by decide) (hs _ (by decide +kernel)) (va_eqt (z := 3) (hs _ (by decide +kernel))) hel hA
  exact ⟨t, va_Zof (hts _ (List.mem_of_getElem? (i := 782) (by decide +kernel))) (hts _ (List.mem_of_getElem? (i := 133) (by decide +kernel))) h1 hA, h2⟩
set_option maxRecDepth 100000 in
theorem jx_st_3 {args : Array Value} {s : State} {A : Nat → Prop} (hts : ∀ w ∈ lw_tbl, w.before args s = true) (hgv : (Jvm.Cond.and given_1 narrow_1).before args s = true) (hA : ∀ a : Nat, a < s.heap.size → ¬ A a) : ∃ t : Nat, va_Z "QuotaPeers" "WATCH_MUSTS" "[I" (.ref t) A s s.heap ∧ va_T .int t 2 (fun j => .int ((kl 3).getD j 0)) A s s.heap := by
  have hs := flat_of_before _ hgv
  have hel : ∀ j : Nat, j < 2 → (Term.elem (Term.static "QuotaPeers" "WATCH_MUSTS" "[I") (.int (Int32.ofNat j))).eval args s none [] s = some ((fun j => .int ((kl 3).getD j 0)) j) := by
    intro j hj
    match j, hj with
    | 0, _ => exact va_eqt (z := 264) (hs _ (by decide +kernel))
    | 1, _ => exact va_eqt (z := 296) (hs _ (by decide +kernel))
  obtain ⟨t, h1, h2⟩ := va_Tof (tm := (Term.static "QuotaPeers" "WATCH_MUSTS" "[I")) (ty := .int) (N := 2) (f := (fun j => .int ((kl 3).getD j 0))) (A := A) (args := args) (s := s) (by decide) (hs _ (by decide +kernel)) (va_eqt (z := 2) (hs _ (by decide +kernel))) hel hA
  exact ⟨t, va_Zof (hts _ (List.mem_of_getElem? (i := 784) (by decide +kernel))) (hts _ (List.mem_of_getElem? (i := 133) (by decide +kernel))) h1 hA, h2⟩
set_option maxRecDepth 100000 in
theorem jx_st_4 {args : Array Value} {s : State} {A : Nat → Prop} (hts : ∀ w ∈ lw_tbl, w.before args s = true) (hgv : (Jvm.Cond.and given_1 narrow_1).before args s = true) (hA : ∀ a : Nat, a < s.heap.size → ¬ A a) : ∃ t : Nat, va_Z "QuotaPeers" "ENDING_MUSTS" "[I" (.ref t) A s s.heap ∧ va_T .int t 3 (fun j => .int ((kl 4).getD j 0)) A s s.heap := by
  have hs := flat_of_before _ hgv
  have hel : ∀ j : Nat, j < 3 → (Term.elem (Term.static "QuotaPeers" "ENDING_MUSTS" "[I") (.int (Int32.ofNat j))).eval args s none [] s = some ((fun j => .int ((kl 4).getD j 0)) j) := by
    intro j hj
    match j, hj with
    | 0, _ => exact va_eqt (z := 264) (hs _ (by decide +kernel))
    | 1, _ => exact va_eqt (z := 296) (hs _ (by decide +kernel))
    | 2, _ => exact va_eqt (z := 273) (hs _ (by decide +kernel))
  obtain ⟨t, h1, h2⟩ := va_Tof (tm := (Term.static "QuotaPeers" "ENDING_MUSTS" "[I")) (ty := .int) (N := 3) (f := (fun j => .int ((kl 4).getD j 0))) (A := A) (args := args) (s := s) (by decide) (hs _ (by decide +kernel)) (va_eqt (z := 3) (hs _ (by decide +kernel))) hel hA
  exact ⟨t, va_Zof (hts _ (List.mem_of_getElem? (i := 786) (by decide +kernel))) (hts _ (List.mem_of_getElem? (i := 133) (by decide +kernel))) h1 hA, h2⟩
set_option maxRecDepth 100000 in
theorem jx_st_5 {args : Array Value} {s : State} {A : Nat → Prop} (hts : ∀ w ∈ lw_tbl, w.before args s = true) (hgv : (Jvm.Cond.and given_1 narrow_1).before args s = true) (hA : ∀ a : Nat, a < s.heap.size → ¬ A a) : ∃ t : Nat, va_Z "QuotaPeers" "CREDIT_MUSTS" "[I" (.ref t) A s s.heap ∧ va_T .int t 5 (fun j => .int ((kl 5).getD j 0)) A s s.heap := by
  have hs := flat_of_before _ hgv
  have hel : ∀ j : Nat, j < 5 → (Term.elem (Term.static "QuotaPeers" "CREDIT_MUSTS" "[I") (.int (Int32.ofNat j))).eval args s none [] s = some ((fun j => .int ((kl 5).getD j 0)) j) := by
    intro j hj
    match j, hj with
    | 0, _ => exact va_eqt (z := 263) (hs _ (by decide +kernel))
    | 1, _ => exact va_eqt (z := 264) (hs _ (by decide +kernel))
    | 2, _ => exact va_eqt (z := 296) (hs _ (by decide +kernel))
    | 3, _ => exact va_eqt (z := 416) (hs _ (by decide +kernel))
    | 4, _ => exact va_eqt (z := 415) (hs _ (by decide +kernel))
  obtain ⟨t, h1, h2⟩ := va_Tof (tm := (Term.static "QuotaPeers" "CREDIT_MUSTS" "[I")) (ty := .int) (N := 5) (f := (fun j => .int ((kl 5).getD j 0))) (A := A) (args := args) (s := s) (by decide) (hs _ (by decide +kernel)) (va_eqt (z := 5) (hs _ (by decide +kernel))) hel hA
  exact ⟨t, va_Zof (hts _ (List.mem_of_getElem? (i := 788) (by decide +kernel))) (hts _ (List.mem_of_getElem? (i := 133) (by decide +kernel))) h1 hA, h2⟩
set_option maxRecDepth 100000 in
theorem jx_st_6 {args : Array Value} {s : State} {A : Nat → Prop} (hts : ∀ w ∈ lw_tbl, w.before args s = true) (hgv : (Jvm.Cond.and given_1 narrow_1).before args s = true) (hA : ∀ a : Nat, a < s.heap.size → ¬ A a) : ∃ t : Nat, va_Z "QuotaPeers" "NO_MUSTS" "[I" (.ref t) A s s.heap ∧ va_T .int t 0 (fun j => .int ((kl 6).getD j 0)) A s s.heap := by
  have hs := flat_of_before _ hgv
  have hel : ∀ j : Nat, j < 0 → (Term.elem (Term.static "QuotaPeers" "NO_MUSTS" "[I") (.int (Int32.ofNat j))).eval args s none [] s = some ((fun j => .int ((kl 6).getD j 0)) j) := by
    intro j hj
    omega
  obtain ⟨t, h1, h2⟩ := va_Tof (tm := (Term.static "QuotaPeers" "NO_MUSTS" "[I")) (ty := .int) (N := 0) (f := (fun j => .int ((kl 6).getD j 0))) (A := A) (args := args) (s := s) (by decide) (hs _ (by decide +kernel)) (va_eqt (z := 0) (hs _ (by decide +kernel))) hel hA
  exact ⟨t, va_Zof (hts _ (List.mem_of_getElem? (i := 790) (by decide +kernel))) (hts _ (List.mem_of_getElem? (i := 133) (by decide +kernel))) h1 hA, h2⟩
set_option maxRecDepth 100000 in
theorem jx_st_7 {args : Array Value} {s : State} {A : Nat → Prop} (hts : ∀ w ∈ lw_tbl, w.before args s = true) (hgv : (Jvm.Cond.and given_1 narrow_1).before args s = true) (hA : ∀ a : Nat, a < s.heap.size → ¬ A a) : ∃ t : Nat, va_Z "QuotaPeers" "ANSWER_MUSTS" "[I" (.ref t) A s s.heap ∧ va_T .int t 3 (fun j => .int ((kl 7).getD j 0)) A s s.heap := by
  have hs := flat_of_before _ hgv
  have hel : ∀ j : Nat, j < 3 → (Term.elem (Term.static "QuotaPeers" "ANSWER_MUSTS" "[I") (.int (Int32.ofNat j))).eval args s none [] s = some ((fun j => .int ((kl 7).getD j 0)) j) := by
    intro j hj
    match j, hj with
    | 0, _ => exact va_eqt (z := 268) (hs _ (by decide +kernel))
    | 1, _ => exact va_eqt (z := 264) (hs _ (by decide +kernel))
    | 2, _ => exact va_eqt (z := 296) (hs _ (by decide +kernel))
  obtain ⟨t, h1, h2⟩ := va_Tof (tm := (Term.static "QuotaPeers" "ANSWER_MUSTS" "[I")) (ty := .int) (N := 3) (f := (fun j => .int ((kl 7).getD j 0))) (A := A) (args := args) (s := s) (by decide) (hs _ (by decide +kernel)) (va_eqt (z := 3) (hs _ (by decide +kernel))) hel hA
  exact ⟨t, va_Zof (hts _ (List.mem_of_getElem? (i := 825) (by decide +kernel))) (hts _ (List.mem_of_getElem? (i := 133) (by decide +kernel))) h1 hA, h2⟩
