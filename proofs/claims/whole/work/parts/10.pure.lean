/-! THE INTERPRETER, pure part: locals are a list of (place, value), as lv_has has them; what an instruction does to locals and stack alone -/
abbrev jx_L : Type := List (Nat × Value)
def jx_lget : jx_L → Nat → Option Value
  | [], _ => none
  | (j, v) :: r, i => if j = i then some v else jx_lget r i
theorem jx_lget_mem : ∀ {l : jx_L} {i : Nat} {v : Value}, jx_lget l i = some v → (i, v) ∈ l
  | [], _, _, h => by cases h
  | (j, w) :: r, i, v, h => by
    unfold jx_lget at h
    split at h
    · rename_i e
      cases h
      subst e
      exact List.mem_cons_self
    · exact List.mem_cons_of_mem _ (jx_lget_mem h)
def jx_set1 (l : jx_L) (i : Nat) (v : Value) : jx_L := (i, v) :: l.filter (fun q => !(q.1 == i) && !(q.1 + 1 == i && q.2.category == 2))
def jx_set2 (l : jx_L) (i : Nat) (v : Value) : jx_L := (i, v) :: l.filter (fun q => !(q.1 == i) && (!(q.1 == i + 1) && !(q.1 + 1 == i && q.2.category == 2)))
def jx_isI : Value → Bool
  | .int _ => true
  | _ => false
def jx_isJ : Value → Bool
  | .long _ => true
  | _ => false
def jx_isR : Value → Bool
  | .ref _ => true
  | .null => true
  | _ => false
theorem jx_isI_ex {v : Value} (h : jx_isI v = true) : ∃ x, v = .int x := by
  cases v <;> first | exact ⟨_, rfl⟩ | cases h
theorem jx_isJ_ex {v : Value} (h : jx_isJ v = true) : ∃ x, v = .long x := by
  cases v <;> first | exact ⟨_, rfl⟩ | cases h
theorem jx_isR_ex {v : Value} (h : jx_isR v = true) : v = .null ∨ ∃ a, v = .ref a := by
  cases v <;> first | exact Or.inl rfl | exact Or.inr ⟨_, rfl⟩ | cases h
/-- a load: the local at i, if it is of the kind -/
def jx_ld (kind : Value → Bool) (l : jx_L) (i : Nat) (st : List Value) : Option (jx_L × List Value) := match jx_lget l i with
  | some v => if kind v = true then some (l, v :: st) else none
  | none => none
theorem jx_ld_some {kind : Value → Bool} {l : jx_L} {i : Nat} {st : List Value} {q : jx_L × List Value} (h : jx_ld kind l i st = some q) : ∃ v, kind v = true ∧ (i, v) ∈ l ∧ q = (l, v :: st) := by
  unfold jx_ld at h
  split at h
  · rename_i v e
    split at h
    · rename_i hk
      cases h
      exact ⟨v, hk, jx_lget_mem e, rfl⟩
    · cases h
  · cases h
def jx_sto (kind : Value → Bool) (nL : Nat) (l : jx_L) (i : Nat) (st : List Value) : Option (jx_L × List Value) := match st with
  | v :: r => if kind v = true ∧ i < nL then some (jx_set1 l i v, r) else none
  | _ => none
theorem jx_sto_some {kind : Value → Bool} {nL : Nat} {l : jx_L} {i : Nat} {st : List Value} {q : jx_L × List Value} (h : jx_sto kind nL l i st = some q) : ∃ v r, st = v :: r ∧ kind v = true ∧ i < nL ∧ q = (jx_set1 l i v, r) := by
  unfold jx_sto at h
  split at h
  · rename_i v r
    split at h
    · rename_i hk
      cases h
      exact ⟨v, r, rfl, hk.1, hk.2, rfl⟩
    · cases h
  · cases h
def jx_sto2 (nL : Nat) (l : jx_L) (i : Nat) (st : List Value) : Option (jx_L × List Value) := match st with
  | .long x :: r => if i + 1 < nL then some (jx_set2 l i (.long x), r) else none
  | _ => none
theorem jx_sto2_some {nL : Nat} {l : jx_L} {i : Nat} {st : List Value} {q : jx_L × List Value} (h : jx_sto2 nL l i st = some q) : ∃ x r, st = .long x :: r ∧ i + 1 < nL ∧ q = (jx_set2 l i (.long x), r) := by
  unfold jx_sto2 at h
  split at h
  · rename_i x r
    split at h
    · rename_i hk
      cases h
      exact ⟨x, r, rfl, hk, rfl⟩
    · cases h
  · cases h
def jx_inc (nL : Nat) (l : jx_L) (i : Nat) (n : Int) (st : List Value) : Option (jx_L × List Value) := match jx_lget l i with
  | some (.int x) => if i < nL then some (jx_set1 l i (.int (x + Int32.ofInt n)), st) else none
  | _ => none
theorem jx_inc_some {nL : Nat} {l : jx_L} {i : Nat} {n : Int} {st : List Value} {q : jx_L × List Value} (h : jx_inc nL l i n st = some q) : ∃ x, (i, Value.int x) ∈ l ∧ i < nL ∧ q = (jx_set1 l i (.int (x + Int32.ofInt n)), st) := by
  unfold jx_inc at h
  split at h
  · rename_i x e
    split at h
    · rename_i hk
      cases h
      exact ⟨x, jx_lget_mem e, hk, rfl⟩
    · cases h
  · cases h
def jx_ii (l : jx_L) (f : Int32 → Int32 → Int32) (st : List Value) : Option (jx_L × List Value) := match st with
  | .int y :: .int x :: r => some (l, .int (f x y) :: r)
  | _ => none
theorem jx_ii_some {l : jx_L} {f : Int32 → Int32 → Int32} {st : List Value} {q : jx_L × List Value} (h : jx_ii l f st = some q) : ∃ x y r, st = .int y :: .int x :: r ∧ q = (l, .int (f x y) :: r) := by
  unfold jx_ii at h
  split at h
  · cases h; exact ⟨_, _, _, rfl, rfl⟩
  · cases h
def jx_iid (l : jx_L) (f : Int32 → Int32 → Int32) (st : List Value) : Option (jx_L × List Value) := match st with
  | .int y :: .int x :: r => if y = 0 then none else some (l, .int (f x y) :: r)
  | _ => none
theorem jx_iid_some {l : jx_L} {f : Int32 → Int32 → Int32} {st : List Value} {q : jx_L × List Value} (h : jx_iid l f st = some q) : ∃ x y r, st = .int y :: .int x :: r ∧ ¬ y = 0 ∧ q = (l, .int (f x y) :: r) := by
  unfold jx_iid at h
  split at h
  · split at h
    · cases h
    · rename_i e
      cases h; exact ⟨_, _, _, rfl, e, rfl⟩
  · cases h
def jx_ll (l : jx_L) (f : Int64 → Int64 → Value) (st : List Value) : Option (jx_L × List Value) := match st with
  | .long y :: .long x :: r => some (l, f x y :: r)
  | _ => none
theorem jx_ll_some {l : jx_L} {f : Int64 → Int64 → Value} {st : List Value} {q : jx_L × List Value} (h : jx_ll l f st = some q) : ∃ x y r, st = .long y :: .long x :: r ∧ q = (l, f x y :: r) := by
  unfold jx_ll at h
  split at h
  · cases h; exact ⟨_, _, _, rfl, rfl⟩
  · cases h
def jx_lld (l : jx_L) (f : Int64 → Int64 → Int64) (st : List Value) : Option (jx_L × List Value) := match st with
  | .long y :: .long x :: r => if y = 0 then none else some (l, .long (f x y) :: r)
  | _ => none
theorem jx_lld_some {l : jx_L} {f : Int64 → Int64 → Int64} {st : List Value} {q : jx_L × List Value} (h : jx_lld l f st = some q) : ∃ x y r, st = .long y :: .long x :: r ∧ ¬ y = 0 ∧ q = (l, .long (f x y) :: r) := by
  unfold jx_lld at h
  split at h
  · split at h
    · cases h
    · rename_i e
      cases h; exact ⟨_, _, _, rfl, e, rfl⟩
  · cases h
def jx_li (l : jx_L) (f : Int64 → Int32 → Int64) (st : List Value) : Option (jx_L × List Value) := match st with
  | .int y :: .long x :: r => some (l, .long (f x y) :: r)
  | _ => none
theorem jx_li_some {l : jx_L} {f : Int64 → Int32 → Int64} {st : List Value} {q : jx_L × List Value} (h : jx_li l f st = some q) : ∃ x y r, st = .int y :: .long x :: r ∧ q = (l, .long (f x y) :: r) := by
  unfold jx_li at h
  split at h
  · cases h; exact ⟨_, _, _, rfl, rfl⟩
  · cases h
def jx_i1 (l : jx_L) (f : Int32 → Value) (st : List Value) : Option (jx_L × List Value) := match st with
  | .int x :: r => some (l, f x :: r)
  | _ => none
theorem jx_i1_some {l : jx_L} {f : Int32 → Value} {st : List Value} {q : jx_L × List Value} (h : jx_i1 l f st = some q) : ∃ x r, st = .int x :: r ∧ q = (l, f x :: r) := by
  unfold jx_i1 at h
  split at h
  · cases h; exact ⟨_, _, rfl, rfl⟩
  · cases h
def jx_l1 (l : jx_L) (f : Int64 → Value) (st : List Value) : Option (jx_L × List Value) := match st with
  | .long x :: r => some (l, f x :: r)
  | _ => none
theorem jx_l1_some {l : jx_L} {f : Int64 → Value} {st : List Value} {q : jx_L × List Value} (h : jx_l1 l f st = some q) : ∃ x r, st = .long x :: r ∧ q = (l, f x :: r) := by
  unfold jx_l1 at h
  split at h
  · cases h; exact ⟨_, _, rfl, rfl⟩
  · cases h
/-- the stack's own words: 'k' tells what becomes of the topmost values -/
def jx_s1 (l : jx_L) (f : Value → List Value → List Value) (st : List Value) : Option (jx_L × List Value) := match st with
  | v :: r => if v.category = 1 then some (l, f v r) else none
  | _ => none
theorem jx_s1_some {l : jx_L} {f : Value → List Value → List Value} {st : List Value} {q : jx_L × List Value} (h : jx_s1 l f st = some q) : ∃ v r, st = v :: r ∧ v.category = 1 ∧ q = (l, f v r) := by
  unfold jx_s1 at h
  split at h
  · split at h
    · rename_i e
      cases h; exact ⟨_, _, rfl, e, rfl⟩
    · cases h
  · cases h
def jx_s2 (l : jx_L) (f : Value → Value → List Value → List Value) (st : List Value) : Option (jx_L × List Value) := match st with
  | v :: w :: r => if v.category = 1 ∧ w.category = 1 then some (l, f v w r) else none
  | _ => none
theorem jx_s2_some {l : jx_L} {f : Value → Value → List Value → List Value} {st : List Value} {q : jx_L × List Value} (h : jx_s2 l f st = some q) : ∃ v w r, st = v :: w :: r ∧ v.category = 1 ∧ w.category = 1 ∧ q = (l, f v w r) := by
  unfold jx_s2 at h
  split at h
  · split at h
    · rename_i e
      cases h; exact ⟨_, _, _, rfl, e.1, e.2, rfl⟩
    · cases h
  · cases h
def jx_s3 (l : jx_L) (f : Value → Value → Value → List Value → List Value) (st : List Value) : Option (jx_L × List Value) := match st with
  | v :: w :: x :: r => if v.category = 1 ∧ w.category = 1 ∧ x.category = 1 then some (l, f v w x r) else none
  | _ => none
theorem jx_s3_some {l : jx_L} {f : Value → Value → Value → List Value → List Value} {st : List Value} {q : jx_L × List Value} (h : jx_s3 l f st = some q) : ∃ v w x r, st = v :: w :: x :: r ∧ v.category = 1 ∧ w.category = 1 ∧ x.category = 1 ∧ q = (l, f v w x r) := by
  unfold jx_s3 at h
  split at h
  · split at h
    · rename_i e
      cases h; exact ⟨_, _, _, _, rfl, e.1, e.2.1, e.2.2, rfl⟩
    · cases h
  · cases h
/-- dup2, pop2: one value of category 2, or two of category 1 -/
def jx_d2 (l : jx_L) (f : Value → List Value → List Value) (g : Value → Value → List Value → List Value) (st : List Value) : Option (jx_L × List Value) := match st with
  | v :: r => if v.category = 2 then some (l, f v r) else jx_s2 l g (v :: r)
  | _ => none
theorem jx_d2_some {l : jx_L} {f : Value → List Value → List Value} {g : Value → Value → List Value → List Value} {st : List Value} {q : jx_L × List Value} (h : jx_d2 l f g st = some q) : (∃ v r, st = v :: r ∧ v.category = 2 ∧ q = (l, f v r)) ∨ (∃ v w r, st = v :: w :: r ∧ v.category = 1 ∧ w.category = 1 ∧ q = (l, g v w r)) := by
  unfold jx_d2 at h
  split at h
  · split at h
    · rename_i e
      cases h; exact Or.inl ⟨_, _, rfl, e, rfl⟩
    · exact Or.inr (jx_s2_some h)
  · cases h
def jx_len : Instr → Nat
  | .bipush _ => 2
  | .sipush _ => 3
  | .iload _ => 2
  | .lload _ => 2
  | .aload _ => 2
  | .istore _ => 2
  | .lstore _ => 2
  | .astore _ => 2
  | .iinc _ _ => 3
  | _ => 1
def jx_pure (nL : Nat) (ins : Instr) (l : jx_L) (st : List Value) : Option (jx_L × List Value) := match ins with
  | .iconst n => some (l, .int (Int32.ofInt n) :: st)
  | .bipush n => some (l, .int (Int8.ofInt n).toInt32 :: st)
  | .sipush n => some (l, .int (Int16.ofInt n).toInt32 :: st)
  | .lconst n => some (l, .long (Int64.ofNat (n : Nat)) :: st)
  | .aconst_null => some (l, .null :: st)
  | .iload_n k => jx_ld jx_isI l k st
  | .iload i => jx_ld jx_isI l i st
  | .lload_n k => jx_ld jx_isJ l k st
  | .lload i => jx_ld jx_isJ l i st
  | .aload_n k => jx_ld jx_isR l k st
  | .aload i => jx_ld jx_isR l i st
  | .istore_n k => jx_sto jx_isI nL l k st
  | .istore i => jx_sto jx_isI nL l i st
  | .astore_n k => jx_sto jx_isR nL l k st
  | .astore i => jx_sto jx_isR nL l i st
  | .lstore_n k => jx_sto2 nL l k st
  | .lstore i => jx_sto2 nL l i st
  | .iinc i n => jx_inc nL l i n st
  | .iadd => jx_ii l (fun x y => x + y) st
  | .isub => jx_ii l (fun x y => x - y) st
  | .imul => jx_ii l (fun x y => x * y) st
  | .iand => jx_ii l (fun x y => x &&& y) st
  | .ior => jx_ii l (fun x y => x ||| y) st
  | .ixor => jx_ii l (fun x y => x ^^^ y) st
  | .idiv => jx_iid l (fun x y => x / y) st
  | .irem => jx_iid l (fun x y => x - x / y * y) st
  | .ineg => jx_i1 l (fun x => .int (-x)) st
  | .ishl => jx_ii l (fun x y => x <<< (y &&& 31)) st
  | .ishr => jx_ii l (fun x y => x >>> (y &&& 31)) st
  | .iushr => jx_ii l (fun x y => (x.toUInt32 >>> (y.toUInt32 &&& Int32.toUInt32 31)).toInt32) st
  | .ladd => jx_ll l (fun x y => .long (x + y)) st
  | .lsub => jx_ll l (fun x y => .long (x - y)) st
  | .lmul => jx_ll l (fun x y => .long (x * y)) st
  | .land => jx_ll l (fun x y => .long (x &&& y)) st
  | .lor => jx_ll l (fun x y => .long (x ||| y)) st
  | .lxor => jx_ll l (fun x y => .long (x ^^^ y)) st
  | .ldiv => jx_lld l (fun x y => x / y) st
  | .lrem => jx_lld l (fun x y => x - x / y * y) st
  | .lneg => jx_l1 l (fun x => .long (-x)) st
  | .lshl => jx_li l (fun x y => x <<< (y.toInt64 &&& 63)) st
  | .lshr => jx_li l (fun x y => x >>> (y.toInt64 &&& 63)) st
  | .lushr => jx_li l (fun x y => (x.toUInt64 >>> (y.toInt64.toUInt64 &&& Int64.toUInt64 63)).toInt64) st
  | .lcmp => jx_ll l (fun x y => .int (lg_cmp x y)) st
  | .i2l => jx_i1 l (fun x => .long x.toInt64) st
  | .l2i => jx_l1 l (fun x => .int x.toInt32) st
  | .i2b => jx_i1 l (fun x => .int x.toInt8.toInt32) st
  | .i2s => jx_i1 l (fun x => .int x.toInt16.toInt32) st
  | .i2c => jx_i1 l (fun x => .int (x.toUInt32 % 65536).toInt32) st
  | .dup => jx_s1 l (fun v r => v :: v :: r) st
  | .pop => jx_s1 l (fun _ r => r) st
  | .dup_x1 => jx_s2 l (fun v w r => v :: w :: v :: r) st
  | .dup_x2 => jx_s3 l (fun v w x r => v :: w :: x :: v :: r) st
  | .dup2 => jx_d2 l (fun v r => v :: v :: r) (fun v w r => v :: w :: v :: w :: r) st
  | .pop2 => jx_d2 l (fun _ r => r) (fun _ _ r => r) st
  | _ => none
section JxPure
variable {p : Program} {l : Launch} {e : Env} {R : Room} {s : State} {m : MethodId} {args : Array Value} {below : List Frame} {meth : Method} {c : Code} {H : Heap} {locs : List Loc} {cells slots : Nat} {Q : State → Prop}
variable {cc : ByteArray} {pc nL : Nat} {ls : Array Slot} {lv lv' : jx_L} {st st' : List Value}
theorem jx_has {i : Nat} {v : Value} (hl : lv_has ls nL lv) (h : (i, v) ∈ lv) : ls[i]? = some (.val v) := hl.2.2 (i, v) h
set_option maxHeartbeats 4000000 in
theorem jx_pure_ok (hx : p.tables.exec = Jvm.exec) (hb : c.code = cc) {ins : Instr} (hdg : decode cc pc = .ok (ins, jx_len ins)) (h : jx_pure nL ins lv st = some (lv', st')) (hl : lv_has ls nL lv)
    (k : ∀ ls' : Array Slot, lv_has ls' nL lv' → W p l e R s m args below meth c H locs cells slots Q (F0 m (pc + jx_len ins) ls' st')) : W p l e R s m args below meth c H locs cells slots Q (F0 m pc ls st) := by
  unfold jx_pure at h
  split at h
  · cases h; exact lv_iconst hx hb hdg rfl (k _ hl)
  · cases h; exact lv_bipush hx hb hdg rfl (k _ hl)
  · cases h; exact lv_sipush hx hb hdg rfl (k _ hl)
  · cases h; exact lv_lconst hx hb hdg rfl (k _ hl)
  · cases h; exact lv_null hx hb hdg (k _ hl)
  · obtain ⟨v, hk, hm, hq⟩ := jx_ld_some h
    cases hq
    obtain ⟨x, rfl⟩ := jx_isI_ex hk
    exact lv_iload_n hx hb hdg rfl (jx_has hl hm) (k _ hl)
  · obtain ⟨v, hk, hm, hq⟩ := jx_ld_some h
    cases hq
    obtain ⟨x, rfl⟩ := jx_isI_ex hk
    exact lv_iload hx hb hdg (jx_has hl hm) (k _ hl)
  · obtain ⟨v, hk, hm, hq⟩ := jx_ld_some h
    cases hq
    obtain ⟨x, rfl⟩ := jx_isJ_ex hk
    exact lv_lload_n hx hb hdg rfl (jx_has hl hm) (k _ hl)
  · obtain ⟨v, hk, hm, hq⟩ := jx_ld_some h
    cases hq
    obtain ⟨x, rfl⟩ := jx_isJ_ex hk
    exact lv_lload hx hb hdg (jx_has hl hm) (k _ hl)
  · obtain ⟨v, hk, hm, hq⟩ := jx_ld_some h
    cases hq
    rcases jx_isR_ex hk with rfl | ⟨x, rfl⟩
    · exact lv_aload_nN hx hb hdg rfl (jx_has hl hm) (k _ hl)
    · exact lv_aload_n hx hb hdg rfl (jx_has hl hm) (k _ hl)
  · obtain ⟨v, hk, hm, hq⟩ := jx_ld_some h
    cases hq
    rcases jx_isR_ex hk with rfl | ⟨x, rfl⟩
    · exact lv_aloadN hx hb hdg (jx_has hl hm) (k _ hl)
    · exact lv_aload hx hb hdg (jx_has hl hm) (k _ hl)
  · obtain ⟨v, r, rfl, hk, hn, hq⟩ := jx_sto_some h
    cases hq
    obtain ⟨x, rfl⟩ := jx_isI_ex hk
    exact lv_istore_n hx hb hdg rfl hl hn rfl k
  · obtain ⟨v, r, rfl, hk, hn, hq⟩ := jx_sto_some h
    cases hq
    obtain ⟨x, rfl⟩ := jx_isI_ex hk
    exact lv_istore hx hb hdg hl hn rfl k
  · obtain ⟨v, r, rfl, hk, hn, hq⟩ := jx_sto_some h
    cases hq
    rcases jx_isR_ex hk with rfl | ⟨x, rfl⟩
    · exact lv_astore_nN hx hb hdg rfl hl hn rfl k
    · exact lv_astore_n hx hb hdg rfl hl hn rfl k
  · obtain ⟨v, r, rfl, hk, hn, hq⟩ := jx_sto_some h
    cases hq
    rcases jx_isR_ex hk with rfl | ⟨x, rfl⟩
    · exact lv_astoreN hx hb hdg hl hn rfl k
    · exact lv_astore hx hb hdg hl hn rfl k
  · obtain ⟨x, r, rfl, hn, hq⟩ := jx_sto2_some h
    cases hq
    exact lv_lstore_n hx hb hdg rfl hl hn rfl k
  · obtain ⟨x, r, rfl, hn, hq⟩ := jx_sto2_some h
    cases hq
    exact lv_lstore hx hb hdg hl hn rfl k
  · obtain ⟨x, hm, hn, hq⟩ := jx_inc_some h
    cases hq
    obtain ⟨j, hj⟩ := List.getElem?_of_mem hm
    exact lv_iinc hx hb hdg hl hj rfl hn rfl k
  · obtain ⟨x, y, r, rfl, hq⟩ := jx_ii_some h
    cases hq; exact lv_iadd hx hb hdg (k _ hl)
  · obtain ⟨x, y, r, rfl, hq⟩ := jx_ii_some h
    cases hq; exact lv_isub hx hb hdg (k _ hl)
  · obtain ⟨x, y, r, rfl, hq⟩ := jx_ii_some h
    cases hq; exact lv_imul hx hb hdg (k _ hl)
  · obtain ⟨x, y, r, rfl, hq⟩ := jx_ii_some h
    cases hq; exact lv_iand hx hb hdg (k _ hl)
  · obtain ⟨x, y, r, rfl, hq⟩ := jx_ii_some h
    cases hq; exact lv_ior hx hb hdg (k _ hl)
  · obtain ⟨x, y, r, rfl, hq⟩ := jx_ii_some h
    cases hq; exact lv_ixor hx hb hdg (k _ hl)
  · obtain ⟨x, y, r, rfl, hne, hq⟩ := jx_iid_some h
    cases hq; exact lv_idiv hx hb hdg hne (k _ hl)
  · obtain ⟨x, y, r, rfl, hne, hq⟩ := jx_iid_some h
    cases hq; exact lv_irem hx hb hdg hne (k _ hl)
  · obtain ⟨x, r, rfl, hq⟩ := jx_i1_some h
    cases hq; exact lv_ineg hx hb hdg (k _ hl)
  · obtain ⟨x, y, r, rfl, hq⟩ := jx_ii_some h
    cases hq; exact lv_ishl hx hb hdg (k _ hl)
  · obtain ⟨x, y, r, rfl, hq⟩ := jx_ii_some h
    cases hq; exact lv_ishr hx hb hdg (k _ hl)
  · obtain ⟨x, y, r, rfl, hq⟩ := jx_ii_some h
    cases hq; exact lv_iushr hx hb hdg rfl (k _ hl)
  · obtain ⟨x, y, r, rfl, hq⟩ := jx_ll_some h
    cases hq; exact lv_ladd hx hb hdg (k _ hl)
  · obtain ⟨x, y, r, rfl, hq⟩ := jx_ll_some h
    cases hq; exact lv_lsub hx hb hdg (k _ hl)
  · obtain ⟨x, y, r, rfl, hq⟩ := jx_ll_some h
    cases hq; exact lv_lmul hx hb hdg (k _ hl)
  · obtain ⟨x, y, r, rfl, hq⟩ := jx_ll_some h
    cases hq; exact lv_land hx hb hdg (k _ hl)
  · obtain ⟨x, y, r, rfl, hq⟩ := jx_ll_some h
    cases hq; exact lv_lor hx hb hdg (k _ hl)
  · obtain ⟨x, y, r, rfl, hq⟩ := jx_ll_some h
    cases hq; exact lv_lxor hx hb hdg (k _ hl)
  · obtain ⟨x, y, r, rfl, hne, hq⟩ := jx_lld_some h
    cases hq; exact lv_ldiv hx hb hdg hne (k _ hl)
  · obtain ⟨x, y, r, rfl, hne, hq⟩ := jx_lld_some h
    cases hq; exact lv_lrem hx hb hdg hne (k _ hl)
  · obtain ⟨x, r, rfl, hq⟩ := jx_l1_some h
    cases hq; exact lv_lneg hx hb hdg (k _ hl)
  · obtain ⟨x, y, r, rfl, hq⟩ := jx_li_some h
    cases hq; exact lv_lshl hx hb hdg rfl (k _ hl)
  · obtain ⟨x, y, r, rfl, hq⟩ := jx_li_some h
    cases hq; exact lv_lshr hx hb hdg rfl (k _ hl)
  · obtain ⟨x, y, r, rfl, hq⟩ := jx_li_some h
    cases hq; exact lv_lushr hx hb hdg rfl (k _ hl)
  · obtain ⟨x, y, r, rfl, hq⟩ := jx_ll_some h
    cases hq; exact W.lcmp hx hb hdg (k _ hl)
  · obtain ⟨x, r, rfl, hq⟩ := jx_i1_some h
    cases hq; exact lv_i2l hx hb hdg rfl (k _ hl)
  · obtain ⟨x, r, rfl, hq⟩ := jx_l1_some h
    cases hq; exact lv_l2i hx hb hdg rfl (k _ hl)
  · obtain ⟨x, r, rfl, hq⟩ := jx_i1_some h
    cases hq; exact lv_i2b hx hb hdg rfl (k _ hl)
  · obtain ⟨x, r, rfl, hq⟩ := jx_i1_some h
    cases hq; exact lv_i2s hx hb hdg rfl (k _ hl)
  · obtain ⟨x, r, rfl, hq⟩ := jx_i1_some h
    cases hq; exact lv_i2c hx hb hdg rfl (k _ hl)
  · obtain ⟨v, r, rfl, hc, hq⟩ := jx_s1_some h
    cases hq; exact lv_dup hx hb hdg hc (k _ hl)
  · obtain ⟨v, r, rfl, hc, hq⟩ := jx_s1_some h
    cases hq; exact lv_pop hx hb hdg hc (k _ hl)
  · obtain ⟨v, w, r, rfl, hc, hc2, hq⟩ := jx_s2_some h
    cases hq; exact lv_dup_x1 hx hb hdg hc hc2 (k _ hl)
  · obtain ⟨v, w, x, r, rfl, hc, hc2, hc3, hq⟩ := jx_s3_some h
    cases hq; exact lv_dup_x2 hx hb hdg hc hc2 hc3 (k _ hl)
  · rcases jx_d2_some h with ⟨v, r, rfl, hc, hq⟩ | ⟨v, w, r, rfl, hc, hc2, hq⟩
    · cases hq; exact lv_dup2_2 hx hb hdg hc (k _ hl)
    · cases hq; exact lv_dup2_11 hx hb hdg hc hc2 (k _ hl)
  · rcases jx_d2_some h with ⟨v, r, rfl, hc, hq⟩ | ⟨v, w, r, rfl, hc, hc2, hq⟩
    · cases hq; exact lv_pop2_2 hx hb hdg hc (k _ hl)
    · cases hq; exact lv_pop2_11 hx hb hdg hc hc2 (k _ hl)
  · cases h
end JxPure
/-! branches -/
def jx_tgt (pc : Nat) (off : Int) : Option Nat := if 0 ≤ (pc : Int) + off then some ((pc : Int) + off).toNat else none
theorem jx_tgt_some {pc t : Nat} {off : Int} (h : jx_tgt pc off = some t) : (pc : Int) + off = (t : Int) := by
  unfold jx_tgt at h
  split at h
  · cases h; omega
  · cases h
def jx_if (b : Bool) (pc : Nat) (off : Int) (r : List Value) : Option (Nat × List Value) := match jx_tgt pc off with
  | some t => some (if b = true then t else pc + 3, r)
  | none => none
def jx_c1 (cd : ClassFile.Cond) (x : Int32) : Bool := match cd with
  | .eq => decide (x = 0)
  | .ne => !decide (x = 0)
  | .lt => decide (x < 0)
  | .ge => decide (0 ≤ x)
  | .gt => decide (0 < x)
  | .le => decide (x ≤ 0)
def jx_c2 (cd : ClassFile.Cond) (x y : Int32) : Bool := match cd with
  | .eq => decide (x = y)
  | .ne => !decide (x = y)
  | .lt => decide (x < y)
  | .ge => decide (y ≤ x)
  | .gt => decide (y < x)
  | .le => decide (x ≤ y)
def jx_br (ins : Instr) (len pc : Nat) (st : List Value) : Option (Nat × List Value) := match ins with
  | .goto off => if len = 3 then (jx_tgt pc off).map (fun t => (t, st)) else none
  | .ifCond cd off => match st with
    | .int x :: r => if len = 3 then jx_if (jx_c1 cd x) pc off r else none
    | _ => none
  | .if_icmp cd off => match st with
    | .int y :: .int x :: r => if len = 3 then jx_if (jx_c2 cd x y) pc off r else none
    | _ => none
  | .ifnull off => match st with
    | v :: r => if len = 3 ∧ jx_isR v = true then jx_if (decide (v = .null)) pc off r else none
    | _ => none
  | .ifnonnull off => match st with
    | v :: r => if len = 3 ∧ jx_isR v = true then jx_if (!decide (v = .null)) pc off r else none
    | _ => none
  | .if_acmp cd off => match st with
    | w :: v :: r => if len = 3 ∧ jx_isR v = true ∧ jx_isR w = true then jx_if (match cd with | .eq => decide (v = w) | .ne => !decide (v = w)) pc off r else none
    | _ => none
  | .tableswitch dflt lo hi offs => match st with
    | .int x :: r => if x.toInt < lo ∨ hi < x.toInt then (jx_tgt pc dflt).map (fun t => (t, r)) else (offs[(x.toInt - lo).toNat]?).bind (fun o => (jx_tgt pc o).map (fun t => (t, r)))
    | _ => none
  | .lookupswitch dflt ps => match st with
    | .int x :: r => if (ps.toList.zip (ps.toList.drop 1)).all (fun (a, next) => a.1 < next.1) = true then (jx_tgt pc (Op.lookupswitch.offset ps.toList dflt x.toInt)).map (fun t => (t, r)) else none
    | _ => none
  | _ => none
theorem jx_isR_rf {v : Value} (h : jx_isR v = true) : ∃ o : Option Nat, v = va_rf o := by
  rcases jx_isR_ex h with rfl | ⟨a, rfl⟩
  · exact ⟨none, rfl⟩
  · exact ⟨some a, rfl⟩
theorem jx_rf_inj {a b : Option Nat} (h : va_rf a = va_rf b) : a = b := by
  cases a <;> cases b <;> first | rfl | (cases h; rfl) | cases h
theorem jx_if_t {b : Bool} {pc t : Nat} {off : Int} {r st' : List Value} (h : jx_if b pc off r = some (t, st')) : ∃ t0 : Nat, (pc : Int) + off = (t0 : Int) ∧ st' = r ∧ t = if b = true then t0 else pc + 3 := by
  unfold jx_if at h
  split at h
  · rename_i t0 e
    cases h
    exact ⟨t0, jx_tgt_some e, rfl, rfl⟩
  · cases h
theorem jx_map_t {pc t : Nat} {off : Int} {r st' : List Value} (h : (jx_tgt pc off).map (fun t => (t, r)) = some (t, st')) : (pc : Int) + off = (t : Int) ∧ st' = r := by
  cases e : jx_tgt pc off with
  | none => rw [e] at h; cases h
  | some t' =>
    rw [e] at h
    cases h
    exact ⟨jx_tgt_some e, rfl⟩
section JxBr
variable {p : Program} {l : Launch} {e : Env} {R : Room} {s : State} {m : MethodId} {args : Array Value} {below : List Frame} {meth : Method} {c : Code} {H : Heap} {locs : List Loc} {cells slots : Nat} {Q : State → Prop}
variable {cc : ByteArray} {pc t len : Nat} {ls : Array Slot} {st st' : List Value}
set_option maxHeartbeats 4000000 in
theorem jx_br_ok (hx : p.tables.exec = Jvm.exec) (hb : c.code = cc) {ins : Instr} (hdg : decode cc pc = .ok (ins, len)) (h : jx_br ins len pc st = some (t, st'))
    (k : W p l e R s m args below meth c H locs cells slots Q (F0 m t ls st')) : W p l e R s m args below meth c H locs cells slots Q (F0 m pc ls st) := by
  unfold jx_br at h
  split at h
  · split at h
    · rename_i off hl
      subst hl
      obtain ⟨ht, rfl⟩ := jx_map_t h
      exact lv_goto hx hb hdg ht k
    · cases h
  · rename_i cd off
    split at h
    · rename_i x r
      split at h
      · rename_i hl
        subst hl
        obtain ⟨t0, ht, rfl, rfl⟩ := jx_if_t h
        cases cd
        · exact lv_if_eq hx hb hdg ht (fun q => by simpa [jx_c1, q] using k) (fun q => by simpa [jx_c1, q] using k)
        · exact lv_if_ne hx hb hdg ht (fun q => by simpa [jx_c1, q] using k) (fun q => by simpa [jx_c1, q] using k)
        · exact lv_if_lt hx hb hdg ht (fun q => by simpa [jx_c1, q] using k) (fun q => by simpa [jx_c1, q] using k)
        · exact lv_if_ge hx hb hdg ht (fun q => by simpa [jx_c1, q] using k) (fun q => by simpa [jx_c1, q] using k)
        · exact lv_if_gt hx hb hdg ht (fun q => by simpa [jx_c1, q] using k) (fun q => by simpa [jx_c1, q] using k)
        · exact lv_if_le hx hb hdg ht (fun q => by simpa [jx_c1, q] using k) (fun q => by simpa [jx_c1, q] using k)
      · cases h
    · cases h
  · rename_i cd off
    split at h
    · rename_i y x r
      split at h
      · rename_i hl
        subst hl
        obtain ⟨t0, ht, rfl, rfl⟩ := jx_if_t h
        cases cd
        · exact lv_icmp_eq hx hb hdg ht (fun q => by simpa [jx_c2, q] using k) (fun q => by simpa [jx_c2, q] using k)
        · exact lv_icmp_ne hx hb hdg ht (fun q => by simpa [jx_c2, q] using k) (fun q => by simpa [jx_c2, q] using k)
        · exact lv_icmp_lt hx hb hdg ht (fun q => by simpa [jx_c2, q] using k) (fun q => by simpa [jx_c2, q] using k)
        · exact lv_icmp_ge hx hb hdg ht (fun q => by simpa [jx_c2, q] using k) (fun q => by simpa [jx_c2, q] using k)
        · exact lv_icmp_gt hx hb hdg ht (fun q => by simpa [jx_c2, q] using k) (fun q => by simpa [jx_c2, q] using k)
        · exact lv_icmp_le hx hb hdg ht (fun q => by simpa [jx_c2, q] using k) (fun q => by simpa [jx_c2, q] using k)
      · cases h
    · cases h
  · rename_i off
    split at h
    · rename_i v r
      split at h
      · rename_i hl
        obtain ⟨hl, hr⟩ := hl
        subst hl
        obtain ⟨t0, ht, rfl, rfl⟩ := jx_if_t h
        rcases jx_isR_ex hr with rfl | ⟨a, rfl⟩
        · exact lv_ifnullN hx hb hdg ht (by simpa using k)
        · exact lv_ifnull hx hb hdg (by simpa using k)
      · cases h
    · cases h
  · rename_i off
    split at h
    · rename_i v r
      split at h
      · rename_i hl
        obtain ⟨hl, hr⟩ := hl
        subst hl
        obtain ⟨t0, ht, rfl, rfl⟩ := jx_if_t h
        rcases jx_isR_ex hr with rfl | ⟨a, rfl⟩
        · exact lv_ifnonnullN hx hb hdg (by simpa using k)
        · exact lv_ifnonnull hx hb hdg ht (by simpa using k)
      · cases h
    · cases h
  · rename_i cd off
    split at h
    · rename_i w v r
      split at h
      · rename_i hl
        obtain ⟨hl, hr, hw⟩ := hl
        subst hl
        obtain ⟨t0, ht, rfl, rfl⟩ := jx_if_t h
        obtain ⟨a, rfl⟩ := jx_isR_rf hr
        obtain ⟨b, rfl⟩ := jx_isR_rf hw
        cases cd
        · exact lv_acmp_eq hx hb hdg ht (fun q => by subst q; simpa using k) (fun q => by
            have hne : ¬ va_rf a = va_rf b := fun z => q (jx_rf_inj z)
            simpa [hne] using k)
        · exact lv_acmp_ne hx hb hdg ht (fun q => by
            have hne : ¬ va_rf a = va_rf b := fun z => q (jx_rf_inj z)
            simpa [hne] using k) (fun q => by subst q; simpa using k)
      · cases h
    · cases h
  · rename_i dflt lo hi offs
    split at h
    · rename_i x r
      split at h
      · rename_i ho
        obtain ⟨ht, rfl⟩ := jx_map_t h
        exact lv_tableOut hx hb hdg ho ht k
      · rename_i ho
        cases e : offs[(x.toInt - lo).toNat]? with
        | none => rw [e] at h; cases h
        | some o =>
          rw [e] at h
          obtain ⟨ht, rfl⟩ := jx_map_t h
          exact lv_tableIn hx hb hdg (fun q => ho (Or.inl q)) (fun q => ho (Or.inr q)) e ht k
    · cases h
  · rename_i dflt ps
    split at h
    · rename_i x r
      split at h
      · rename_i hp
        obtain ⟨ht, rfl⟩ := jx_map_t h
        exact lv_lookup hx hb hdg hp rfl ht k
      · cases h
    · cases h
  · cases h
end JxBr
