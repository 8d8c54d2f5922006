/-! WHAT AN ACTIVATION NEEDS, as a function of its table: right once and for all -/
def jx_c1p (cd : ClassFile.Cond) (x : Int32) : Prop := match cd with
  | .eq => x = 0
  | .ne => ¬ x = 0
  | .lt => x < 0
  | .ge => 0 ≤ x
  | .gt => 0 < x
  | .le => x ≤ 0
def jx_c2p (cd : ClassFile.Cond) (x y : Int32) : Prop := match cd with
  | .eq => x = y
  | .ne => ¬ x = y
  | .lt => x < y
  | .ge => y ≤ x
  | .gt => y < x
  | .le => x ≤ y
theorem jx_c1p_iff {cd : ClassFile.Cond} {x : Int32} : jx_c1 cd x = true ↔ jx_c1p cd x := by cases cd <;> simp [jx_c1, jx_c1p]
theorem jx_c2p_iff {cd : ClassFile.Cond} {x y : Int32} : jx_c2 cd x y = true ↔ jx_c2p cd x y := by cases cd <;> simp [jx_c2, jx_c2p]
def jx_swx : List (Int32 × Nat) → Int32 → (Nat → Prop) → Prop
  | [], _, _ => True
  | (k, t) :: r, x, K => (x = k → K t) ∧ jx_swx r x K
def jx_swd : List (Int32 × Nat) → Int32 → Prop → Prop
  | [], _, P => P
  | (k, _) :: r, x, P => ¬ x = k → jx_swd r x P
def jx_fd : List jx_D → Nat → Option jx_D
  | [], _ => none
  | q :: r, pc => match Nat.beq q.1 pc with
    | true => some q
    | false => jx_fd r pc
def jx_cu : List (Nat × List Nat) → Nat → Option (List Nat)
  | [], _ => none
  | (p, ks) :: r, pc => match Nat.beq p pc with
    | true => some ks
    | false => jx_cu r pc
def jx_pk : List Nat → jx_L → jx_L
  | [], _ => []
  | k :: ks, l => match jx_lget l k with
    | some v => (k, v) :: jx_pk ks l
    | none => jx_pk ks l
def jx_nx {S : Type} (cut : List (Nat × List Nat)) (J : Nat → jx_L → List Value → S → Prop) (W : Nat → jx_L → List Value → S → Prop) (pc : Nat) (l : jx_L) (st : List Value) (s : S) : Prop := match jx_cu cut pc with
  | some ks => J pc (jx_pk ks l) st s
  | none => W pc l st s
def jx_w1 {S : Type} (hp : jx_D → List Value → S → (List Value → S → Prop) → Prop) (rc : S → Nat → Nat → Prop → Prop) (C : Nat → List Value → S → (Option Value → S → Prop) → Prop) (nl : Nat) (Q : Option Value → S → Prop) (q : jx_D) (nx : Nat → jx_L → List Value → S → Prop) (l : jx_L) (st : List Value) (s : S) : Prop := match q with
  | (pc, ins, len, kd, a, b, c, sw, w) => match kd with
    | 0 => (match sw with
      | [(x, _)] => nx (pc + len) l (.int x :: st) s
      | _ => (match jx_pure nl ins l st with
        | some (l', st') => nx (pc + len) l' st' s
        | none => False))
    | 1 => (match ins, st with
      | .ifCond cd _, .int x :: r => (jx_c1p cd x → nx a l r s) ∧ (¬ jx_c1p cd x → nx (pc + 3) l r s)
      | _, _ => False)
    | 2 => (match ins, st with
      | .if_icmp cd _, .int y :: .int x :: r => (jx_c2p cd x y → nx a l r s) ∧ (¬ jx_c2p cd x y → nx (pc + 3) l r s)
      | _, _ => False)
    | 3 => (match ins, st with
      | .ifnull _, .null :: r => nx a l r s
      | .ifnull _, .ref _ :: r => nx (pc + 3) l r s
      | .ifnonnull _, .null :: r => nx (pc + 3) l r s
      | .ifnonnull _, .ref _ :: r => nx a l r s
      | _, _ => False)
    | 4 => (match ins, st with
      | .if_acmp cd _, .ref y :: .ref x :: r => (match cd with
        | .eq => (x = y → nx a l r s) ∧ (¬ x = y → nx (pc + 3) l r s)
        | .ne => (x = y → nx (pc + 3) l r s) ∧ (¬ x = y → nx a l r s))
      | _, _ => False)
    | 5 => nx a l st s
    | 6 => (match st with
      | .int x :: r => jx_swx sw x (fun t => nx t l r s) ∧ jx_swd sw x (nx a l r s)
      | _ => False)
    | 7 => (match c, st with
      | 0, [] => Q none s
      | 1, [.int x] => Q (some (.int x)) s
      | 2, [.int x] => (x = 0 ∨ x = 1) ∧ Q (some (.int x)) s
      | 3, [.long x] => Q (some (.long x)) s
      | 4, [.ref o] => Q (some (.ref o)) s
      | 4, [.null] => Q (some .null) s
      | _, _ => False)
    | 8 => (match st.drop b with
      | .ref o :: r => (match Nat.ble (jx_sm r) 8 with
        | true => rc s o c (C a (.ref o :: (st.take b).reverse) s (fun v s' => nx (pc + len) l (v.toList ++ r) s'))
        | false => False)
      | _ => False)
    | 9 => (match st.drop b with
      | .ref o :: r => (match Nat.ble (jx_sm r) 8 with
        | true => C a (.ref o :: (st.take b).reverse) s (fun v s' => nx (pc + len) l (v.toList ++ r) s')
        | false => False)
      | _ => False)
    | 10 => (match Nat.ble b st.length, Nat.ble (jx_sm (st.drop b)) 8 with
      | true, true => C a ((st.take b).reverse) s (fun v s' => nx (pc + len) l (v.toList ++ st.drop b) s')
      | _, _ => False)
    | _ => hp (pc, ins, len, kd, a, b, c, sw, w) st s (fun st' s' => nx (pc + len) l st' s')
def jx_wx {S : Type} (hp : jx_D → List Value → S → (List Value → S → Prop) → Prop) (rc : S → Nat → Nat → Prop → Prop) (C : Nat → List Value → S → (Option Value → S → Prop) → Prop) (J : Nat → jx_L → List Value → S → Prop) (dt : List jx_D) (nl : Nat) (cut : List (Nat × List Nat)) (Q : Option Value → S → Prop) : Nat → Nat → jx_L → List Value → S → Prop
  | 0, _, _, _, _ => False
  | n + 1, pc, l, st, s => match jx_fd dt pc with
    | none => False
    | some q => jx_w1 hp rc C nl Q q (jx_nx cut J (jx_wx hp rc C J dt nl cut Q n)) l st s
/-- the call, the activation, over states of another form -/
def jx_fc {S : Type} (th : Nat → Nat) (g : Nat → Nat) (γ : S → jx_S) (d j : Nat) (as : List Value) (s : S) (Q : Option Value → S → Prop) : Prop := jc th d j (as.map (jx_rn g)) (γ s) (fun r σ' => ∃ (r' : Option Value) (s' : S), r = r'.map (jx_rn g) ∧ σ' = γ s' ∧ Q r' s')
def jx_fj {S : Type} (th : Nat → Nat) (g : Nat → Nat) (γ : S → jx_S) (d i pc : Nat) (l : jx_L) (st : List Value) (s : S) (Q : Option Value → S → Prop) : Prop := ∀ L, jx_Lr g l L → jw th d i pc L (st.map (jx_rn g)) (γ s) (fun r σ' => ∃ (r' : Option Value) (s' : S), r = r'.map (jx_rn g) ∧ σ' = γ s' ∧ Q r' s')
def jx_hpOK {S : Type} (th : Nat → Nat) (g : Nat → Nat) (γ : S → jx_S) (hp : jx_D → List Value → S → (List Value → S → Prop) → Prop) : Prop := ∀ (i : Nat) (q : jx_D) (st : List Value) (s : S) (K : List Value → S → Prop), jx_ck i q = true → 11 ≤ q.2.2.2.1 → hp q st s K → ∃ (st' : List Value) (s' : S), jx_hp th i q.2.1 q.2.2.1 (st.map (jx_rn g)) (γ s) = some (st'.map (jx_rn g), γ s') ∧ K st' s'
def jx_rcOK {S : Type} (g : Nat → Nat) (γ : S → jx_S) (rc : S → Nat → Nat → Prop → Prop) : Prop := ∀ (s : S) (o c : Nat) (P : Prop), rc s o c P → jx_isC (γ s) (g o) c = true ∧ P
theorem jx_swx_mem {x : Int32} {K : Nat → Prop} : ∀ {sw : List (Int32 × Nat)}, jx_swx sw x K → ∀ q ∈ sw, x = q.1 → K q.2
  | [], _, q, hq, _ => by cases hq
  | (k, t) :: r, h, q, hq, e => by
    rcases List.mem_cons.mp hq with rfl | hq
    · exact h.1 e
    · exact jx_swx_mem h.2 q hq e
theorem jx_swd_of {x : Int32} {P : Prop} : ∀ {sw : List (Int32 × Nat)}, jx_swd sw x P → (∀ q ∈ sw, ¬ x = q.1) → P
  | [], h, _ => h
  | (k, t) :: r, h, hn => jx_swd_of (h (hn (k, t) (List.mem_cons_self ..))) (fun q hq => hn q (List.mem_cons_of_mem _ hq))
theorem jx_sw_look {pc a : Nat} {dflt : Int} {x : Int32} {K : Nat → Prop} (ha : jx_tgt pc dflt = some a) : ∀ (sw : List (Int32 × Nat)) (ps : List (Int × Int)), sw.map (fun q => (q.1.toInt, some q.2)) = ps.map (fun q => (q.1, jx_tgt pc q.2)) → jx_swx sw x K → jx_swd sw x (K a) → ∃ t, jx_tgt pc (Op.lookupswitch.offset ps dflt x.toInt) = some t ∧ K t
  | [], [], _, _, h2 => ⟨a, ha, h2⟩
  | [], _ :: _, h, _, _ => by cases h
  | _ :: _, [], h, _, _ => by cases h
  | (k, t) :: sw, (p, o) :: ps, h, h1, h2 => by
    simp only [List.map_cons, List.cons.injEq, Prod.mk.injEq] at h
    obtain ⟨⟨rfl, e⟩, h⟩ := h
    rw [Op.lookupswitch.offset_cons]
    by_cases hx : k.toInt = x.toInt
    · rw [if_pos hx]
      exact ⟨t, e.symm, h1.1 (Int32.toInt_inj.mp hx.symm)⟩
    · rw [if_neg hx]
      exact jx_sw_look ha sw ps h h1.2 (h2 (fun z => hx (by rw [z])))
theorem jx_sw_ok {ins : Instr} {len pc a : Nat} {sw : List (Int32 × Nat)} {x : Int32} {r : List Value} {K : Nat → Prop} (h : jx_swc ins pc a sw = true) (h1 : jx_swx sw x K) (h2 : jx_swd sw x (K a)) : ∃ t, jx_br ins len pc (.int x :: r) = some (t, r) ∧ K t := by
  unfold jx_swc at h
  split at h
  · rename_i dflt lo hi offs
    simp only [Bool.and_eq_true, decide_eq_true_eq, List.all_eq_true, List.mem_range] at h
    obtain ⟨⟨⟨ha, hl⟩, hh⟩, hk⟩ := h
    by_cases hx : x.toInt < lo ∨ hi < x.toInt
    · refine ⟨a, by simp only [jx_br, if_pos hx, ha, Option.map_some], ?_⟩
      refine jx_swd_of h2 (fun q hq e => ?_)
      obtain ⟨k, hklt, hkq⟩ := List.getElem_of_mem hq
      have := hk k hklt
      rw [List.getElem?_eq_getElem hklt, hkq] at this
      split at this
      · rename_i q0 o e1 e2
        cases e1
        simp only [Bool.and_eq_true, decide_eq_true_eq] at this
        rw [← e] at this
        omega
      · cases this
    · have hklt : (x.toInt - lo).toNat < sw.length := by omega
      have := hk _ hklt
      rw [List.getElem?_eq_getElem hklt] at this
      split at this
      · rename_i q0 o e1 e2
        cases e1
        simp only [Bool.and_eq_true, decide_eq_true_eq] at this
        refine ⟨(sw[(x.toInt - lo).toNat]).2, by simp only [jx_br, if_neg hx, e2, Option.bind_some, this.2, Option.map_some], ?_⟩
        refine jx_swx_mem h1 _ (List.getElem_mem hklt) (Int32.toInt_inj.mp ?_)
        omega
      · cases this
  · rename_i dflt ps
    simp only [Bool.and_eq_true, decide_eq_true_eq] at h
    obtain ⟨⟨ha, hs⟩, hm⟩ := h
    obtain ⟨t, ht, hK⟩ := jx_sw_look ha sw ps.toList hm h1 h2
    exact ⟨t, by simp only [jx_br, if_pos hs, ht, Option.map_some], hK⟩
  · cases h
section JxWx
variable {S : Type} {th : Nat → Nat} {g : Nat → Nat} {γ : S → jx_S} {d i pc len kd a b c nl j : Nat} {ins : Instr} {sw : List (Int32 × Nat)} {w : Int64} {l : jx_L} {st as : List Value} {s : S} {Q Q' : Option Value → S → Prop}
variable {hp : jx_D → List Value → S → (List Value → S → Prop) → Prop} {rc : S → Nat → Nat → Prop → Prop} {C : Nat → List Value → S → (Option Value → S → Prop) → Prop} {nx : Nat → jx_L → List Value → S → Prop}
theorem jx_sm_rn (r : List Value) : jx_sm (r.map (jx_rn g)) = jx_sm r := by
  simp only [jx_sm, List.map_map]
  congr 1
  exact List.map_congr_left (fun v _ => jx_rn_cat v)
theorem jx_fc.up {d' : Nat} (h : jx_fc th g γ d j as s Q) (hd : d ≤ d') : jx_fc th g γ d' j as s Q := jc.up h hd
theorem jx_fc.mp (h : jx_fc th g γ d j as s Q) (hq : ∀ r s', Q r s' → Q' r s') : jx_fc th g γ d j as s Q' := jc.mp h (fun r σ' ⟨r', s', e1, e2, q⟩ => ⟨r', s', e1, e2, hq _ _ q⟩)
theorem jx_fj.mp (h : jx_fj th g γ d i pc l st s Q) (hq : ∀ r s', Q r s' → Q' r s') : jx_fj th g γ d i pc l st s Q' := fun L hL => jw.mp (h L hL) (fun r σ' ⟨r', s', e1, e2, q⟩ => ⟨r', s', e1, e2, hq _ _ q⟩)
theorem jx_if_of {bb : Bool} {off : Int} {t : Nat} {r : List Value} (ht : jx_tgt pc off = some t) : jx_if bb pc off r = some (if bb = true then t else pc + 3, r) := by
  unfold jx_if
  rw [ht]
theorem jx_toL (v : Option Value) (r : List Value) : (v.map (jx_rn g)).toList ++ r.map (jx_rn g) = (v.toList ++ r).map (jx_rn g) := by cases v <;> rfl
theorem jx_w1_call {r : List Value} (hC : jx_fc th g γ d j as s (fun v s' => nx (pc + len) l (v.toList ++ r) s')) (hnx : ∀ pc l st s, nx pc l st s → jx_fj th g γ d i pc l st s Q) {L : jx_L} (hL : jx_Lr g l L) : jc th d j (as.map (jx_rn g)) (γ s) (fun v σ' => jw th d i (pc + len) L (v.toList ++ r.map (jx_rn g)) σ' (fun r σ' => ∃ (r' : Option Value) (s' : S), r = r'.map (jx_rn g) ∧ σ' = γ s' ∧ Q r' s')) := by
  refine jc.mp hC (fun v σ' ⟨v', s', e1, e2, q⟩ => ?_)
  subst e1 e2
  rw [jx_toL]
  exact hnx _ _ _ _ q L hL
theorem jx_drop_eq {r : List Value} {v : Value} (h : st.drop b = v :: r) : st = st.take b ++ v :: r ∧ (st.take b).length = b := by
  refine ⟨by rw [← h]; exact (List.take_append_drop b st).symm, ?_⟩
  have : (st.drop b).length ≠ 0 := by rw [h]; simp
  simp only [List.length_drop] at this
  simp only [List.length_take]
  omega
set_option maxHeartbeats 4000000 in
theorem jx_w1_ok (hck : jx_ck i (pc, ins, len, kd, a, b, c, sw, w) = true) (hnl : tb_nl i = nl) (hhp : jx_hpOK th g γ hp) (hrc : jx_rcOK g γ rc) (hC : ∀ j as s Q, C j as s Q → jx_fc th g γ d j as s Q) (hg : kd = 4 → ∀ x y, g x = g y → x = y) (hnx : ∀ pc l st s, nx pc l st s → jx_fj th g γ d i pc l st s Q)
    (h : jx_w1 hp rc C nl Q (pc, ins, len, kd, a, b, c, sw, w) nx l st s) : jx_fj th g γ d i pc l st s Q := by
  intro L hL
  subst hnl
  have hck0 := hck
  unfold jx_ck at hck
  simp only [Bool.and_eq_true, decide_eq_true_eq] at hck
  obtain ⟨hd, hck⟩ := hck
  unfold jx_w1 at h
  simp only at h
  split at h
  · simp only [Bool.and_eq_true, decide_eq_true_eq] at hck
    obtain ⟨hlen, hck⟩ := hck
    split at h
    · rename_i x _
      simp only [decide_eq_true_eq] at hck
      exact jw_pure hd hlen (jx_cst_pure hck _ _ _) (hnx _ _ _ _ h L hL)
    · split at h
      · rename_i l' st' e
        obtain ⟨L', e', hL'⟩ := jx_pure_r e hL
        exact jw_pure hd hlen e' (hnx _ _ _ _ h L' hL')
      · exact h.elim
  · split at h
    · rename_i cd off x r
      simp only [Bool.and_eq_true, decide_eq_true_eq] at hck
      obtain ⟨⟨h3, ht⟩, -⟩ := hck
      have ht : jx_tgt pc off = some a := ht
      have hb : jx_br (.ifCond cd off) len pc ((.int x :: r).map (jx_rn g)) = some (if jx_c1 cd x = true then a else pc + 3, r.map (jx_rn g)) := by
        show (if len = 3 then jx_if (jx_c1 cd x) pc off (r.map (jx_rn g)) else none) = _
        rw [if_pos h3, jx_if_of ht]
      by_cases hx : jx_c1p cd x
      · rw [if_pos (jx_c1p_iff.mpr hx)] at hb
        exact jw_br hd hb (hnx _ _ _ _ (h.1 hx) L hL)
      · rw [if_neg (fun z => hx (jx_c1p_iff.mp z))] at hb
        exact jw_br hd hb (hnx _ _ _ _ (h.2 hx) L hL)
    · exact h.elim
  · split at h
    · rename_i cd off y x r
      simp only [Bool.and_eq_true, decide_eq_true_eq] at hck
      obtain ⟨⟨h3, ht⟩, -⟩ := hck
      have ht : jx_tgt pc off = some a := ht
      have hb : jx_br (.if_icmp cd off) len pc ((.int y :: .int x :: r).map (jx_rn g)) = some (if jx_c2 cd x y = true then a else pc + 3, r.map (jx_rn g)) := by
        show (if len = 3 then jx_if (jx_c2 cd x y) pc off (r.map (jx_rn g)) else none) = _
        rw [if_pos h3, jx_if_of ht]
      by_cases hx : jx_c2p cd x y
      · rw [if_pos (jx_c2p_iff.mpr hx)] at hb
        exact jw_br hd hb (hnx _ _ _ _ (h.1 hx) L hL)
      · rw [if_neg (fun z => hx (jx_c2p_iff.mp z))] at hb
        exact jw_br hd hb (hnx _ _ _ _ (h.2 hx) L hL)
    · exact h.elim
  · simp only [Bool.and_eq_true, decide_eq_true_eq] at hck
    obtain ⟨⟨h3, ht⟩, -⟩ := hck
    split at h
    · rename_i off r
      have ht : jx_tgt pc off = some a := ht
      refine jw_br hd (t := a) (st' := r.map (jx_rn g)) ?_ (hnx _ _ _ _ h L hL)
      show (if len = 3 ∧ jx_isR .null = true then jx_if (decide (Value.null = Value.null)) pc off (r.map (jx_rn g)) else none) = _
      rw [if_pos ⟨h3, rfl⟩, jx_if_of ht]
      simp
    · rename_i off o r
      have ht : jx_tgt pc off = some a := ht
      refine jw_br hd (t := pc + 3) (st' := r.map (jx_rn g)) ?_ (hnx _ _ _ _ h L hL)
      show (if len = 3 ∧ jx_isR (.ref (g o)) = true then jx_if (decide (Value.ref (g o) = Value.null)) pc off (r.map (jx_rn g)) else none) = _
      rw [if_pos ⟨h3, rfl⟩, jx_if_of ht]
      simp
    · rename_i off r
      have ht : jx_tgt pc off = some a := ht
      refine jw_br hd (t := pc + 3) (st' := r.map (jx_rn g)) ?_ (hnx _ _ _ _ h L hL)
      show (if len = 3 ∧ jx_isR .null = true then jx_if (!decide (Value.null = Value.null)) pc off (r.map (jx_rn g)) else none) = _
      rw [if_pos ⟨h3, rfl⟩, jx_if_of ht]
      simp
    · rename_i off o r
      have ht : jx_tgt pc off = some a := ht
      refine jw_br hd (t := a) (st' := r.map (jx_rn g)) ?_ (hnx _ _ _ _ h L hL)
      show (if len = 3 ∧ jx_isR (.ref (g o)) = true then jx_if (!decide (Value.ref (g o) = Value.null)) pc off (r.map (jx_rn g)) else none) = _
      rw [if_pos ⟨h3, rfl⟩, jx_if_of ht]
      simp
    · exact h.elim
  · simp only [Bool.and_eq_true, decide_eq_true_eq] at hck
    obtain ⟨⟨h3, ht⟩, -⟩ := hck
    split at h
    · rename_i cd off y x r
      have ht : jx_tgt pc off = some a := ht
      have hgi := hg rfl
      have hxy : (Value.ref (g x) = Value.ref (g y)) ↔ x = y := ⟨fun e => hgi _ _ (Value.ref.inj e), fun e => by rw [e]⟩
      split at h
      · have hb : jx_br (.if_acmp .eq off) len pc ((.ref y :: .ref x :: r).map (jx_rn g)) = some (if x = y then a else pc + 3, r.map (jx_rn g)) := by
          show (if len = 3 ∧ jx_isR (.ref (g x)) = true ∧ jx_isR (.ref (g y)) = true then jx_if (decide (Value.ref (g x) = Value.ref (g y))) pc off (r.map (jx_rn g)) else none) = _
          rw [if_pos ⟨h3, rfl, rfl⟩, jx_if_of ht]
          simp only [decide_eq_true_eq, hxy]
        by_cases hx : x = y
        · rw [if_pos hx] at hb
          exact jw_br hd hb (hnx _ _ _ _ (h.1 hx) L hL)
        · rw [if_neg hx] at hb
          exact jw_br hd hb (hnx _ _ _ _ (h.2 hx) L hL)
      · have hb : jx_br (.if_acmp .ne off) len pc ((.ref y :: .ref x :: r).map (jx_rn g)) = some (if x = y then pc + 3 else a, r.map (jx_rn g)) := by
          show (if len = 3 ∧ jx_isR (.ref (g x)) = true ∧ jx_isR (.ref (g y)) = true then jx_if (!decide (Value.ref (g x) = Value.ref (g y))) pc off (r.map (jx_rn g)) else none) = _
          rw [if_pos ⟨h3, rfl, rfl⟩, jx_if_of ht]
          by_cases hx : x = y
          · simp [hx]
          · simp [hx, hxy]
        by_cases hx : x = y
        · rw [if_pos hx] at hb
          exact jw_br hd hb (hnx _ _ _ _ (h.1 hx) L hL)
        · rw [if_neg hx] at hb
          exact jw_br hd hb (hnx _ _ _ _ (h.2 hx) L hL)
    · exact h.elim
  · simp only [Bool.and_eq_true, decide_eq_true_eq] at hck
    obtain ⟨⟨h3, ht⟩, hm⟩ := hck
    split at hm
    · rename_i off
      have ht : jx_tgt pc off = some a := ht
      refine jw_br hd (t := a) (st' := st.map (jx_rn g)) ?_ (hnx _ _ _ _ h L hL)
      simp only [jx_br, if_pos h3, ht, Option.map_some]
    · cases hm
  · split at h
    · rename_i x r
      obtain ⟨t, hb, ht⟩ := jx_sw_ok (len := len) (r := r.map (jx_rn g)) hck h.1 h.2
      exact jw_br hd hb (hnx _ _ _ _ ht L hL)
    · exact h.elim
  · simp only [Bool.and_eq_true, decide_eq_true_eq] at hck
    obtain ⟨rfl, hm⟩ := hck
    split at h
    · simp only [jx_rck, Bool.and_eq_true, decide_eq_true_eq] at hm
      obtain ⟨rfl, hr⟩ := hm
      exact jw_vret hd hr ⟨_, _, rfl, rfl, h⟩
    · simp only [jx_rck, Bool.and_eq_true, decide_eq_true_eq] at hm
      obtain ⟨rfl, hr⟩ := hm
      exact jw_iret hd hr ⟨some (.int _), _, rfl, rfl, h⟩
    · simp only [jx_rck, Bool.and_eq_true, decide_eq_true_eq] at hm
      obtain ⟨rfl, hr⟩ := hm
      exact jw_zret hd hr h.1 ⟨some (.int _), _, rfl, rfl, h.2⟩
    · simp only [jx_rck, Bool.and_eq_true, decide_eq_true_eq] at hm
      obtain ⟨rfl, hr⟩ := hm
      exact jw_lret hd hr ⟨some (.long _), _, rfl, rfl, h⟩
    · simp only [jx_rck, Bool.and_eq_true, decide_eq_true_eq] at hm
      obtain ⟨rfl, hr⟩ := hm
      split at hr
      · rename_i e
        exact jw_oret hd e rfl ⟨some (.ref _), _, rfl, rfl, h⟩
      · rename_i e
        exact jw_aret hd e rfl ⟨some (.ref _), _, rfl, rfl, h⟩
      · cases hr
    · simp only [jx_rck, Bool.and_eq_true, decide_eq_true_eq] at hm
      obtain ⟨rfl, hr⟩ := hm
      split at hr
      · rename_i e
        exact jw_oret hd e rfl ⟨some .null, _, rfl, rfl, h⟩
      · rename_i e
        exact jw_aret hd e rfl ⟨some .null, _, rfl, rfl, h⟩
      · cases hr
    · exact h.elim
  · split at h
    · rename_i o r e
      obtain ⟨e1, e2⟩ := jx_drop_eq e
      split at h
      · rename_i hs
        have hs : jx_sm (r.map (jx_rn g)) ≤ 8 := by rw [jx_sm_rn]; exact Nat.le_of_ble_eq_true hs
        obtain ⟨hc, h⟩ := hrc _ _ _ _ h
        have kk := jx_w1_call (hC _ _ _ _ h) hnx hL
        have est : st.map (jx_rn g) = (st.take b).map (jx_rn g) ++ .ref (g o) :: r.map (jx_rn g) := by
          have := congrArg (List.map (jx_rn g)) e1
          simpa only [List.map_append, List.map_cons, jx_rn] using this
        have eas : (Value.ref o :: (st.take b).reverse).map (jx_rn g) = .ref (g o) :: ((st.take b).map (jx_rn g)).reverse := by
          rw [List.map_cons, List.map_reverse]
          rfl
        have hlen : ((st.take b).map (jx_rn g)).length = b := by rw [List.length_map]; exact e2
        rw [eas] at kk
        rw [est]
        simp only at hck
        split at hck
        · rename_i idx
          simp only [Bool.and_eq_true, Bool.or_eq_true, decide_eq_true_eq] at hck
          obtain ⟨⟨rfl, hno⟩, hi⟩ := hck
          rcases hi with hi | hi
          · exact jw_callv hd rfl hno (by rw [hlen]; exact hi) (Or.inl rfl) hs hc kk
          · exact jw_callv hd rfl hno (by rw [hlen]; exact hi) (Or.inr rfl) hs hc kk
        · rename_i idx cnt
          simp only [Bool.and_eq_true, decide_eq_true_eq] at hck
          obtain ⟨rfl, hi⟩ := hck
          exact jw_callf hd rfl (by rw [hlen]; exact hi) hs hc kk
        · cases hck
      · exact h.elim
    · exact h.elim
  · split at h
    · rename_i o r e
      obtain ⟨e1, e2⟩ := jx_drop_eq e
      split at h
      · rename_i hs
        have hs : jx_sm (r.map (jx_rn g)) ≤ 8 := by rw [jx_sm_rn]; exact Nat.le_of_ble_eq_true hs
        have kk := jx_w1_call (hC _ _ _ _ h) hnx hL
        have est : st.map (jx_rn g) = (st.take b).map (jx_rn g) ++ .ref (g o) :: r.map (jx_rn g) := by
          have := congrArg (List.map (jx_rn g)) e1
          simpa only [List.map_append, List.map_cons, jx_rn] using this
        have eas : (Value.ref o :: (st.take b).reverse).map (jx_rn g) = .ref (g o) :: ((st.take b).map (jx_rn g)).reverse := by
          rw [List.map_cons, List.map_reverse]
          rfl
        have hlen : ((st.take b).map (jx_rn g)).length = b := by rw [List.length_map]; exact e2
        rw [eas] at kk
        rw [est]
        simp only at hck
        split at hck
        · rename_i idx
          simp only [Bool.and_eq_true, Bool.or_eq_true, decide_eq_true_eq] at hck
          obtain ⟨⟨⟨rfl, hno⟩, hr⟩, hi⟩ := hck
          rcases hi with hi | hi
          · exact jw_calli hd rfl hno (by rw [hlen]; exact hi) (Or.inl rfl) hr hs kk
          · exact jw_calli hd rfl hno (by rw [hlen]; exact hi) (Or.inr rfl) hr hs kk
        · cases hck
      · exact h.elim
    · exact h.elim
  · split at h
    · rename_i hb hs
      have hs : jx_sm ((st.drop b).map (jx_rn g)) ≤ 8 := by rw [jx_sm_rn]; exact Nat.le_of_ble_eq_true hs
      have hb : b ≤ st.length := Nat.le_of_ble_eq_true hb
      have kk := jx_w1_call (hC _ _ _ _ h) hnx hL
      have est : st.map (jx_rn g) = (st.take b).map (jx_rn g) ++ (st.drop b).map (jx_rn g) := by
        rw [← List.map_append, List.take_append_drop]
      have eas : ((st.take b).reverse).map (jx_rn g) = ((st.take b).map (jx_rn g)).reverse := by rw [List.map_reverse]
      have hlen : ((st.take b).map (jx_rn g)).length = b := by rw [List.length_map, List.length_take]; omega
      rw [eas] at kk
      rw [est]
      simp only at hck
      split at hck
      · rename_i idx
        simp only [Bool.and_eq_true, decide_eq_true_eq] at hck
        obtain ⟨⟨rfl, hno⟩, hi⟩ := hck
        exact jw_calls hd rfl hno (by rw [hlen]; exact hi) hs kk
      · cases hck
    · exact h.elim
  · rename_i n0 n1 n2 n3 n4 n5 n6 n7 n8 n9 n10
    have hk : 11 ≤ kd := by
      rcases Nat.lt_or_ge kd 11 with hlt | hge
      · exfalso
        have : kd = 0 ∨ kd = 1 ∨ kd = 2 ∨ kd = 3 ∨ kd = 4 ∨ kd = 5 ∨ kd = 6 ∨ kd = 7 ∨ kd = 8 ∨ kd = 9 ∨ kd = 10 := by omega
        rcases this with e | e | e | e | e | e | e | e | e | e | e
        · exact n0 e
        · exact n1 e
        · exact n2 e
        · exact n3 e
        · exact n4 e
        · exact n5 e
        · exact n6 e
        · exact n7 e
        · exact n8 e
        · exact n9 e
        · exact n10 e
      · exact hge
    obtain ⟨st', s', e, k⟩ := hhp i _ st s _ hck0 hk h
    exact jw_hp hd e (hnx _ _ _ _ k L hL)
theorem jx_pk_mem {q : Nat × Value} : ∀ {ks : List Nat}, q ∈ jx_pk ks l → q ∈ l
  | [], h => by cases h
  | k :: ks, h => by
    unfold jx_pk at h
    split at h
    · rename_i v e
      rcases List.mem_cons.mp h with rfl | h
      · exact jx_lget_mem e
      · exact jx_pk_mem h
    · exact jx_pk_mem h
theorem jx_Lr.pk {L : jx_L} {ks : List Nat} (h : jx_Lr g l L) : jx_Lr g (jx_pk ks l) L := ⟨fun q hq => h.1 q (jx_pk_mem hq), h.2⟩
theorem jx_fd_mem {q : jx_D} : ∀ {dt : List jx_D}, jx_fd dt pc = some q → q ∈ dt ∧ q.1 = pc
  | [], h => by cases h
  | r :: dt, h => by
    unfold jx_fd at h
    split at h
    · rename_i e
      cases h
      exact ⟨List.mem_cons_self .., Nat.eq_of_beq_eq_true e⟩
    · obtain ⟨h1, h2⟩ := jx_fd_mem h
      exact ⟨List.mem_cons_of_mem _ h1, h2⟩
/-- what the function asks for is enough -/
theorem jx_wx_ok {dt : List jx_D} {cut : List (Nat × List Nat)} {J : Nat → jx_L → List Value → S → Prop} (hdt : ∀ q ∈ dt, jx_ck i q = true) (hnl : tb_nl i = nl) (hhp : jx_hpOK th g γ hp) (hrc : jx_rcOK g γ rc) (hC : ∀ j as s Q, C j as s Q → jx_fc th g γ d j as s Q) (hg : (∀ q ∈ dt, q.2.2.2.1 ≠ 4) ∨ ∀ x y, g x = g y → x = y) (hJ : ∀ pc l st s, J pc l st s → jx_fj th g γ d i pc l st s Q) :
    ∀ (n pc : Nat) (l : jx_L) (st : List Value) (s : S), jx_wx hp rc C J dt nl cut Q n pc l st s → jx_fj th g γ d i pc l st s Q := by
  intro n
  induction n with
  | zero => intro pc l st s h; exact h.elim
  | succ n ih =>
    intro pc l st s h
    unfold jx_wx at h
    split at h
    · exact h.elim
    · rename_i q e
      obtain ⟨hq, hpc⟩ := jx_fd_mem e
      obtain ⟨pc', ins, len, kd, a, b, c, sw, w⟩ := q
      simp only at hpc
      subst hpc
      refine jx_w1_ok (hdt _ hq) hnl hhp hrc hC (fun e4 => ?_) (fun pc l st s hn => ?_) h
      · rcases hg with hg | hg
        · exact absurd e4 (hg _ hq)
        · exact hg
      · unfold jx_nx at hn
        split at hn
        · exact fun L hL => hJ _ _ _ _ hn L hL.pk
        · exact ih _ _ _ _ hn
theorem jx_args_mem : ∀ (as : List Value) (k : Nat) (q : Nat × Value), q ∈ lv_args k as → k ≤ q.1
  | [], k, q, h => by cases h
  | v :: vs, k, q, h => by
    unfold lv_args at h
    rcases List.mem_cons.mp h with rfl | h
    · exact Nat.le_refl _
    · have := jx_args_mem vs _ q h
      split at this <;> omega
theorem jx_args_r : ∀ (as : List Value) (k : Nat), jx_Lr g (lv_args k as) (lv_args k (as.map (jx_rn g)))
  | [], k => ⟨fun q h => (by cases h), fun q h => (by cases h)⟩
  | v :: vs, k => by
    rw [List.map_cons]
    unfold lv_args
    rw [jx_rn_cat]
    refine (jx_args_r vs _).cons (fun q hq => ?_)
    have := jx_args_mem _ _ q hq
    split at this <;> omega
theorem jx_sl_rn : ∀ (as : List Value), (lg_sl (as.map (jx_rn g))).length = (lg_sl as).length
  | [] => rfl
  | v :: vs => by
    have ih := jx_sl_rn vs
    simp only [lg_sl, List.map_cons, List.flatMap_cons, List.length_append] at ih ⊢
    rw [ih, jx_rn_cat]
    split <;> rfl
/-- a call, by its table -/
theorem jx_fc_of (hl : (lg_sl as).length ≤ tb_nl j) (h : jx_fj th g γ d j 0 (lv_args 0 as) [] s Q) : jx_fc th g γ (d + 1) j as s Q := jc.of (by rw [jx_sl_rn]; exact hl) (h _ (jx_args_r as 0))
end JxWx
