/-! THE INTERPRETER, arrays -/
def jx_tyt : Nat → FieldType
  | 0 => .byte
  | 1 => .int
  | 2 => .long
  | 3 => .boolean
  | 4 => .object "java/lang/Object"
  | _ => .object "QuotaPeers$Connection"
theorem jx_tys_at {dA : Nat → ClassId} {t : Nat} (ht : t < 6) : (jx_tys dA)[t]? = some (dA t, jx_tyt t) := by
  match t, ht with
  | 0, _ => rfl
  | 1, _ => rfl
  | 2, _ => rfl
  | 3, _ => rfl
  | 4, _ => rfl
  | 5, _ => rfl
def jx_al (σ : jx_S) (a : Nat) : Option Int32 := match σ.1 a with
  | some (.inl (_, n, _)) => some (Int32.ofNat n)
  | _ => none
def jx_ild (σ : jx_S) (ts : List Nat) (a : Nat) (j : Int32) : Option Value := match σ.1 a with
  | some (.inl (t, n, .inl f)) => if t ∈ ts ∧ ¬ (j < 0 ∨ n ≤ j.toNatClampNeg) then some (.int (f j.toNatClampNeg)) else none
  | _ => none
def jx_lld1 (σ : jx_S) (a : Nat) (j : Int32) : Option Value := match σ.1 a with
  | some (.inl (t, n, .inr (.inl f))) => if t = 2 ∧ ¬ (j < 0 ∨ n ≤ j.toNatClampNeg) then some (.long (f j.toNatClampNeg)) else none
  | _ => none
def jx_ald (σ : jx_S) (a : Nat) (j : Int32) : Option Value := match σ.1 a with
  | some (.inl (t, n, .inr (.inr (.inr (.inr f))))) => if (t = 4 ∨ t = 5) ∧ ¬ (j < 0 ∨ n ≤ j.toNatClampNeg) then some (va_rf (f j.toNatClampNeg)) else none
  | _ => none
def jx_ist (σ : jx_S) (a : Nat) (j x : Int32) : Option jx_S := match σ.1 a with
  | some (.inl (t, n, .inl f)) => if t = 1 ∧ ¬ (j < 0 ∨ n ≤ j.toNatClampNeg) then some (jx_up σ a (.inl (t, n, .inl (upd f j.toNatClampNeg x)))) else none
  | _ => none
def jx_bst (σ : jx_S) (a : Nat) (j x : Int32) : Option jx_S := match σ.1 a with
  | some (.inl (t, n, .inl f)) => if t = 0 ∧ ¬ (j < 0 ∨ n ≤ j.toNatClampNeg) then some (jx_up σ a (.inl (t, n, .inl (upd f j.toNatClampNeg (vp_nar .byte x))))) else
    if t = 3 ∧ ¬ (j < 0 ∨ n ≤ j.toNatClampNeg) then some (jx_up σ a (.inl (t, n, .inl (upd f j.toNatClampNeg (vp_nar .boolean x))))) else none
  | _ => none
def jx_lst (σ : jx_S) (a : Nat) (j : Int32) (x : Int64) : Option jx_S := match σ.1 a with
  | some (.inl (t, n, .inr (.inl f))) => if t = 2 ∧ ¬ (j < 0 ∨ n ≤ j.toNatClampNeg) then some (jx_up σ a (.inl (t, n, .inr (.inl (vp_updL f j.toNatClampNeg x))))) else none
  | _ => none
section JxArr
variable {p : Program} {l : Launch} {e : Env} {R : Room} {s : State} {m : MethodId} {args : Array Value} {below : List Frame} {meth : Method} {c : Code} {H : Heap} {locs : List Loc} {cells slots : Nat} {Q : State → Prop}
variable {D : va_G} {dA : Nat → ClassId} {base : Nat} {K : Nat → Option jx_E} {σ σ' : jx_S} {i pc a : Nat} {j x : Int32} {v : Value} {ls : Array Slot} {rest : List Value} {H0 : Heap}
theorem jx_talen (hx : p.tables.exec = Jvm.exec) (hb : c.code = tb_code i) {ty : FieldType} {n : Nat} {f : Nat → Value} {A : Nat → Prop} (hT : va_T ty a n f A s s.heap) (hS : va_S A s.heap H locs) (hdg : decode (tb_code i) pc = .ok (.arraylength, 1))
    (kk : W p l e R s m args below meth c H locs cells slots Q (F0 m (pc + 1) ls (.int (Int32.ofNat n) :: rest))) : W p l e R s m args below meth c H locs cells slots Q (F0 m pc ls (.ref a :: rest)) := by
  obtain ⟨cell, h1, h2, h3, h4, h5, h6, h7⟩ := hT
  exact W.alen (n := Int32.ofNat n) hx hb (by rw [hS.2.1 a (Array.getElem?_eq_some_iff.mp h1).1 h7]; exact h1) h2 h5 rfl rfl hdg kk
theorem jx_alen_ok (C0 : jx_Cx p s m args c i) (hK : va_K D tb_cl (jx_tys dA) s) (hc : jx_Cst base K s) (hR : jx_Rep D dA base K σ H) (hS : va_S (jx_A base) s.heap H locs) {r : Int32} (hg : jx_al σ a = some r) (hdg : decode (tb_code i) pc = .ok (.arraylength, 1))
    (kk : W p l e R s m args below meth c H locs cells slots Q (F0 m (pc + 1) ls (.int r :: rest))) : W p l e R s m args below meth c H locs cells slots Q (F0 m pc ls (.ref a :: rest)) := by
  obtain ⟨hx, hb, -, -⟩ := C0
  unfold jx_al at hg
  split at hg
  · rename_i t n y ha
    cases hg
    rcases hR.2.2 a _ ha with ⟨-, ht, hat⟩ | q
    · exact va_alen hx hb hK (jx_P1 hat) 0 t rfl (jx_tys_at ht.1) rfl hdg kk
    · rcases hc a _ q with ⟨n', f', e', hT⟩ | ⟨n', f', e', hT⟩ | ⟨n', f', e', hT⟩ <;> (cases e'; exact jx_talen hx hb hT hS hdg kk)
  · cases hg
theorem jx_iald_ok (C0 : jx_Cx p s m args c i) (hK : va_K D tb_cl (jx_tys dA) s) (hc : jx_Cst base K s) (hR : jx_Rep D dA base K σ H) (hS : va_S (jx_A base) s.heap H locs) (hg : jx_ild σ [1, 101] a j = some v) (hdg : decode (tb_code i) pc = .ok (.iaload, 1))
    (kk : W p l e R s m args below meth c H locs cells slots Q (F0 m (pc + 1) ls (v :: rest))) : W p l e R s m args below meth c H locs cells slots Q (F0 m pc ls (.int j :: .ref a :: rest)) := by
  obtain ⟨hx, hb, -, -⟩ := C0
  unfold jx_ild at hg
  split at hg
  · rename_i t n f ha
    split at hg
    · rename_i hh
      obtain ⟨htt, hin⟩ := hh
      cases hg
      rcases hR.2.2 a _ ha with ⟨-, ht, hat⟩ | q
      · have ht1 : t = 1 := by
          simp only [List.mem_cons, List.not_mem_nil, or_false] at htt
          have : t < 6 := ht.1
          omega
        subst ht1
        exact va_iald hx hb hK (jx_P1 hat) 0 1 rfl rfl hin hdg kk
      · rcases hc a _ q with ⟨n', f', e', hT⟩ | ⟨n', f', e', hT⟩ | ⟨n', f', e', hT⟩
        · cases e'; simp at htt
        · cases e'; exact va_ti hx hb hT hS hin rfl hdg kk
        · cases e'
    · cases hg
  · cases hg
theorem jx_bald_ok (C0 : jx_Cx p s m args c i) (hK : va_K D tb_cl (jx_tys dA) s) (hc : jx_Cst base K s) (hR : jx_Rep D dA base K σ H) (hS : va_S (jx_A base) s.heap H locs) (hg : jx_ild σ [0, 3, 100] a j = some v) (hdg : decode (tb_code i) pc = .ok (.baload, 1))
    (kk : W p l e R s m args below meth c H locs cells slots Q (F0 m (pc + 1) ls (v :: rest))) : W p l e R s m args below meth c H locs cells slots Q (F0 m pc ls (.int j :: .ref a :: rest)) := by
  obtain ⟨hx, hb, -, -⟩ := C0
  unfold jx_ild at hg
  split at hg
  · rename_i t n f ha
    split at hg
    · rename_i hh
      obtain ⟨htt, hin⟩ := hh
      cases hg
      rcases hR.2.2 a _ ha with ⟨-, ht, hat⟩ | q
      · have ht1 : t = 0 ∨ t = 3 := by
          simp only [List.mem_cons, List.not_mem_nil, or_false] at htt
          have : t < 6 := ht.1
          omega
        rcases ht1 with rfl | rfl
        · exact va_bald hx hb hK (jx_P1 hat) 0 0 rfl rfl hin hdg kk
        · exact va_zald hx hb hK (jx_P1 hat) 0 3 rfl rfl hin hdg kk
      · rcases hc a _ q with ⟨n', f', e', hT⟩ | ⟨n', f', e', hT⟩ | ⟨n', f', e', hT⟩
        · cases e'; exact va_tb hx hb hT hS hin rfl hdg kk
        · cases e'; simp at htt
        · cases e'
    · cases hg
  · cases hg
theorem jx_lald_ok (C0 : jx_Cx p s m args c i) (hK : va_K D tb_cl (jx_tys dA) s) (hc : jx_Cst base K s) (hR : jx_Rep D dA base K σ H) (hg : jx_lld1 σ a j = some v) (hdg : decode (tb_code i) pc = .ok (.laload, 1))
    (kk : W p l e R s m args below meth c H locs cells slots Q (F0 m (pc + 1) ls (v :: rest))) : W p l e R s m args below meth c H locs cells slots Q (F0 m pc ls (.int j :: .ref a :: rest)) := by
  obtain ⟨hx, hb, -, -⟩ := C0
  unfold jx_lld1 at hg
  split at hg
  · rename_i t n f ha
    split at hg
    · rename_i hh
      obtain ⟨rfl, hin⟩ := hh
      cases hg
      obtain ⟨-, -, hat⟩ := hR.arr hc ha (by decide)
      exact va_lald hx hb hK (jx_P1 (e := .inl (dA 2, n, .inr (.inl f))) hat) 0 2 rfl rfl hin hdg kk
    · cases hg
  · cases hg
theorem jx_aald_ok (C0 : jx_Cx p s m args c i) (hK : va_K D tb_cl (jx_tys dA) s) (hc : jx_Cst base K s) (hR : jx_Rep D dA base K σ H) (hg : jx_ald σ a j = some v) (hdg : decode (tb_code i) pc = .ok (.aaload, 1))
    (kk : W p l e R s m args below meth c H locs cells slots Q (F0 m (pc + 1) ls (v :: rest))) : W p l e R s m args below meth c H locs cells slots Q (F0 m pc ls (.int j :: .ref a :: rest)) := by
  obtain ⟨hx, hb, -, -⟩ := C0
  unfold jx_ald at hg
  split at hg
  · rename_i t n f ha
    split at hg
    · rename_i hh
      obtain ⟨ht, hin⟩ := hh
      cases hg
      rcases ht with rfl | rfl
      · obtain ⟨-, -, hat⟩ := hR.arr hc ha (by decide)
        exact va_aldq hx hb hK (jx_P1 (e := .inl (dA 4, n, .inr (.inr (.inr (.inr f))))) hat) 0 4 rfl rfl hin hdg kk
      · obtain ⟨-, -, hat⟩ := hR.arr hc ha (by decide)
        exact va_aldq hx hb hK (jx_P1 (e := .inl (dA 5, n, .inr (.inr (.inr (.inr f))))) hat) 0 5 rfl rfl hin hdg kk
    · cases hg
  · cases hg
theorem jx_cell_i {cA : ClassId} {n k : Nat} {f : Nat → Int32} {y : Int32} {w : Value} (hw : w = .int y) : (vp_cell cA (n, .inl f)).setSlot k w = vp_cell cA (n, .inl (upd f k y)) := by
  rw [vp_cell_i, vp_cell_i, arrV_store]
  congr 2
  funext q
  by_cases hq : q = k
  · subst hq
    simp [updV, upd, hw]
  · simp [updV, upd, hq]
theorem jx_cell_l {cA : ClassId} {n k : Nat} {f : Nat → Int64} {y : Int64} : (vp_cell cA (n, .inr (.inl f))).setSlot k (.long y) = vp_cell cA (n, .inr (.inl (vp_updL f k y))) := by
  rw [vp_cell_l, vp_cell_l, arrV_store]
  congr 2
  funext q
  by_cases hq : q = k
  · subst hq
    simp [updV, vp_updL]
  · simp [updV, vp_updL, hq]
theorem jx_cell_q {cA : ClassId} {n k : Nat} {f : Nat → Option Nat} {y : Option Nat} : (vp_cell cA (n, .inr (.inr (.inr (.inr f))))).setSlot k (va_rf y) = vp_cell cA (n, .inr (.inr (.inr (.inr (va_up f k y))))) := by
  rw [vp_cell_q, vp_cell_q, arrV_store]
  congr 2
  funext q
  by_cases hq : q = k
  · subst hq
    simp [updV, va_up]
  · simp [updV, va_up, hq]
theorem jx_byt_upd {n k : Nat} {f : Nat → Int32} {x : Int32} (h : ∀ j : Nat, fits .byte (.int (f j)) = true) : jx_byt (n, .inl (upd f k (vp_nar .byte x))) := by
  intro j
  by_cases hq : j = k
  · simp only [upd, hq, if_true]
    rw [vp_nar_byte]
    exact pk_fb x
  · simp only [upd, hq, if_false]
    exact h j
theorem jx_iast_ok (C0 : jx_Cx p s m args c i) (hK : va_K D tb_cl (jx_tys dA) s) (hc : jx_Cst base K s) (hR : jx_Rep D dA base K σ H) (hS : va_S (jx_A base) H0 H locs) (hg : jx_ist σ a j x = some σ') (hdg : decode (tb_code i) pc = .ok (.iastore, 1))
    (kk : ∀ (H1 : Heap) (locs1 : List Loc), jx_Rep D dA base K σ' H1 → va_S (jx_A base) H0 H1 locs1 → W p l e R s m args below meth c H1 locs1 cells slots Q (F0 m (pc + 1) ls rest)) : W p l e R s m args below meth c H locs cells slots Q (F0 m pc ls (.int x :: .int j :: .ref a :: rest)) := by
  obtain ⟨hx, hb, -, -⟩ := C0
  unfold jx_ist at hg
  split at hg
  · rename_i t n f ha
    split at hg
    · rename_i hh
      obtain ⟨rfl, hin⟩ := hh
      cases hg
      obtain ⟨hba, -, hat⟩ := hR.arr hc ha (by decide)
      refine W.iast hx hb hat ((hK.2 1 _ rfl).1 n (fun j => .int (f j))) (fun q => by cases q) (by show ¬ (j < 0 ∨ (arrV _ _ _).slots.size ≤ _); rw [arrV_size]; exact hin) rfl rfl hdg fun H1 e1 z oq => ?_
      exact kk H1 _ (hR.set hba ⟨by decide, fun h => absurd h (by decide)⟩ (show H1[a]? = some (vp_cell _ _) by rw [e1, jx_cell_i rfl]) z oq) (hS.put z oq hba)
    · cases hg
  · cases hg
theorem jx_bast_ok (C0 : jx_Cx p s m args c i) (hK : va_K D tb_cl (jx_tys dA) s) (hc : jx_Cst base K s) (hR : jx_Rep D dA base K σ H) (hS : va_S (jx_A base) H0 H locs) (hg : jx_bst σ a j x = some σ') (hdg : decode (tb_code i) pc = .ok (.bastore, 1))
    (kk : ∀ (H1 : Heap) (locs1 : List Loc), jx_Rep D dA base K σ' H1 → va_S (jx_A base) H0 H1 locs1 → W p l e R s m args below meth c H1 locs1 cells slots Q (F0 m (pc + 1) ls rest)) : W p l e R s m args below meth c H locs cells slots Q (F0 m pc ls (.int x :: .int j :: .ref a :: rest)) := by
  obtain ⟨hx, hb, -, -⟩ := C0
  unfold jx_bst at hg
  split at hg
  · rename_i t n f ha
    split at hg
    · rename_i hh
      obtain ⟨rfl, hin⟩ := hh
      cases hg
      obtain ⟨hba, -, hat⟩ := hR.arr hc ha (by decide)
      refine W.bast hx hb hat ((hK.2 0 _ rfl).1 n (fun j => .int (f j))) (fun q => by cases q) (by show ¬ (j < 0 ∨ (arrV _ _ _).slots.size ≤ _); rw [arrV_size]; exact hin) rfl rfl hdg fun H1 e1 z oq => ?_
      exact kk H1 _ (hR.set hba ⟨by decide, fun _ => jx_byt_upd (hR.byt hc ha)⟩ (e1.trans (congrArg some (jx_cell_i (w := narrow .byte (.int x)) (y := vp_nar .byte x) rfl))) z oq) (hS.put z oq hba)
    · split at hg
      · rename_i hh
        obtain ⟨rfl, hin⟩ := hh
        cases hg
        obtain ⟨hba, -, hat⟩ := hR.arr hc ha (by decide)
        refine W.zast hx hb hat ((hK.2 3 _ rfl).1 n (fun j => .int (f j))) (fun q => by cases q) (by show ¬ (j < 0 ∨ (arrV _ _ _).slots.size ≤ _); rw [arrV_size]; exact hin) rfl rfl hdg fun H1 e1 z oq => ?_
        exact kk H1 _ (hR.set hba ⟨by decide, fun h => absurd h (by decide)⟩ (e1.trans (congrArg some (jx_cell_i (w := narrow .boolean (.int x)) (y := vp_nar .boolean x) rfl))) z oq) (hS.put z oq hba)
      · cases hg
  · cases hg
theorem jx_last_ok (C0 : jx_Cx p s m args c i) (hK : va_K D tb_cl (jx_tys dA) s) (hc : jx_Cst base K s) (hR : jx_Rep D dA base K σ H) (hS : va_S (jx_A base) H0 H locs) {x : Int64} (hg : jx_lst σ a j x = some σ') (hdg : decode (tb_code i) pc = .ok (.lastore, 1))
    (kk : ∀ (H1 : Heap) (locs1 : List Loc), jx_Rep D dA base K σ' H1 → va_S (jx_A base) H0 H1 locs1 → W p l e R s m args below meth c H1 locs1 cells slots Q (F0 m (pc + 1) ls rest)) : W p l e R s m args below meth c H locs cells slots Q (F0 m pc ls (.long x :: .int j :: .ref a :: rest)) := by
  obtain ⟨hx, hb, -, -⟩ := C0
  unfold jx_lst at hg
  split at hg
  · rename_i t n f ha
    split at hg
    · rename_i hh
      obtain ⟨rfl, hin⟩ := hh
      cases hg
      obtain ⟨hba, -, hat⟩ := hR.arr hc ha (by decide)
      refine W.last hx hb hat ((hK.2 2 _ rfl).1 n (fun j => .long (f j))) (fun q => by cases q) (by show ¬ (j < 0 ∨ (arrV _ _ _).slots.size ≤ _); rw [arrV_size]; exact hin) rfl rfl hdg fun H1 e1 z oq => ?_
      exact kk H1 _ (hR.set hba ⟨by decide, fun h => absurd h (by decide)⟩ (show H1[a]? = some (vp_cell _ _) by rw [e1, jx_cell_l]) z oq) (hS.put z oq hba)
    · cases hg
  · cases hg
end JxArr
