/-! THE INTERPRETER is right: calls -/
theorem jx_q_in {j : Nat} (h : j < 282) : tb_q j ∈ tb_m ∧ tb_q j = tb_m.getD j (0, ⟨"", "", ""⟩, ByteArray.empty, 0, none, 0) := by
  have hl : j < tb_m.length := by rw [jx_mlen]; exact h
  have e : tb_q j = tb_m[j] := by
    unfold tb_q
    rw [List.getD_eq_getElem?_getD, List.getElem?_append_left hl, List.getElem?_eq_getElem hl]
    rfl
  refine ⟨by rw [e]; exact List.getElem_mem hl, ?_⟩
  rw [e, List.getD_eq_getElem?_getD, List.getElem?_eq_getElem hl]
  rfl
theorem jx_yj {j : Nat} (h : j < 282) : tb_yj j = tb_y j := by
  unfold tb_yj tb_y
  rw [(jx_q_in h).2]
/-- what is known of each method: its code word, its owner's name, no handle -/
theorem jx_mK {j : Nat} (h : j < 282) : Cond.code (tb_y j) (tb_code j) (tb_nl j) (tb_ret j) ∈ jx_T ∧ tb_Rn (tb_ow j) = (tb_y j).cls ∧ (tb_y j).cls ≠ "java/lang/invoke/MethodHandle" ∧ (tb_y j).cls ≠ "java/lang/invoke/VarHandle" := by
  have hq := (jx_q_in h).1
  have h1 := jx_mCs _ hq
  have h2 := jx_mFs _ hq
  unfold jx_mF at h2
  simp only [Bool.and_eq_true, beq_iff_eq, bne_iff_ne, ne_eq] at h2
  exact ⟨jx_inT h1 rfl, h2.1.1, h2.1.2, h2.2⟩
def jx_ws (j : Nat) : List Cond := Cond.code (tb_y j) (tb_code j) (tb_nl j) (tb_ret j) :: jx_T
theorem jx_Tgood : GoodIn jx_T jx_T := fun w hw => ⟨hw, good_of_word (List.mem_filter.mp hw).2⟩
theorem jx_wsG {j : Nat} (h : j < 282) : GoodIn jx_T (jx_ws j) := fun w hw => (List.mem_cons.mp hw).elim (fun e => by rw [e]; exact jx_Tgood _ (jx_mK h).1) (fun z => jx_Tgood w z)
theorem jx_consG {w : Cond} {ws : List Cond} (h1 : w ∈ jx_T) (h2 : GoodIn jx_T ws) : GoodIn jx_T (w :: ws) := fun x hx => (List.mem_cons.mp hx).elim (fun e => by rw [e]; exact jx_Tgood _ h1) (h2 x)
def jx_rm (d mc ms : Nat) : Room := { frames := d + 1, cells := mc, slots := ms, locals := 40 * (d + 1) }
def jx_Pc (th : Nat → Nat) (D : va_G) (dA : Nat → ClassId) (base : Nat) (K : Nat → Option jx_E) (as : List Value) (σ : jx_S) : Array Value → State → Prop := va_Pc as (fun U => jx_Kx th D dA base K U ∧ jx_Rep D dA base K σ U.heap)
def jx_Q (D : va_G) (dA : Nat → ClassId) (base : Nat) (K : Nat → Option jx_E) (r : Option Value) (σ' : jx_S) : Array Value → State → Outcome → State → Prop := fun _ st o t => o = .returned r ∧ jx_Rep D dA base K σ' t.heap ∧ va_F (jx_A base) st t
def jx_Met (l : Launch) (th : Nat → Nat) (D : va_G) (dA : Nat → ClassId) (base : Nat) (K : Nat → Option jx_E) (d j : Nat) (as : List Value) (σ : jx_S) (r : Option Value) (σ' : jx_S) : Prop :=
  Met l (tb_y j) (jx_ws j) (jx_rm d (σ'.2.1 - σ.2.1) (σ'.2.2 - σ.2.2)) (jx_Pc th D dA base K as σ) (jx_Q D dA base K r σ') (σ'.2.1 - σ.2.1) (σ'.2.2 - σ.2.2) (jx_A base)
theorem jx_blind {th : Nat → Nat} {D : va_G} {dA : Nat → ClassId} {base : Nat} {K : Nat → Option jx_E} {as : List Value} {σ : jx_S} : FrameBlind (jx_Pc th D dA base K as σ) := fun _ U g mk h => ⟨h.1, h.2.1.same rfl rfl, h.2.2⟩
/-- what the table of calls says of an entry -/
def jx_IF (o idx kd j n ci : Nat) : Prop := j < 282 ∧ plainName (tb_y j).cls = true ∧ (parseMethodDescriptor (tb_y j).desc).map (fun d => d.parameters.length) = some n ∧ Cond.initialized (tb_y j).cls ∈ jx_T ∧
  ((kd = 0 ∧ Cond.methodLink (tb_Rn o) idx (tb_y j) ∈ jx_T ∧ Cond.selects (tb_y j).cls (tb_y j) (tb_y j) ∈ jx_T ∧ Cond.instanceMethod (tb_y j) ∈ jx_T ∧ tb_Rn ci = (tb_y j).cls ∧ ci < 13) ∨
  (kd = 1 ∧ Cond.methodLink (tb_Rn o) idx (tb_y j) ∈ jx_T ∧ Cond.instanceMethod (tb_y j) ∈ jx_T ∧ (tb_y j).name = "<init>") ∨
  (kd = 2 ∧ Cond.methodLink (tb_Rn o) idx (tb_y j) ∈ jx_T ∧ Cond.static (tb_y j) ∈ jx_T) ∨
  (kd = 3 ∧ ci = 1 ∧ ∃ x : MethodName, (x, tb_y j) ∈ tb_if ∧ Cond.methodLink (tb_Rn o) idx x ∈ jx_T ∧ Cond.selects "java/util/ArrayList" x (tb_y j) ∈ jx_T ∧ Cond.instanceMethod (tb_y j) ∈ jx_T ∧ (parseMethodDescriptor x.desc).map (fun d => d.parameters.length) = some n) ∨
  (kd = 4 ∧ Cond.methodLinkNest (tb_Rn o) idx (tb_y j) "QuotaPeers" ∈ jx_N ∧ Cond.selects (tb_y j).cls (tb_y j) (tb_y j) ∈ jx_T ∧ Cond.instanceMethod (tb_y j) ∈ jx_T ∧ tb_Rn ci = (tb_y j).cls ∧ ci < 13) ∨
  (kd = 5 ∧ Cond.methodLinkNest (tb_Rn o) idx (tb_y j) "QuotaPeers" ∈ jx_N ∧ Cond.instanceMethod (tb_y j) ∈ jx_T ∧ (tb_y j).name = "<init>"))
set_option maxHeartbeats 4000000 in
theorem jx_IF_of {o idx kd j n ci : Nat} (hf : tb_inv o idx = some (kd, j, n, ci)) : jx_IF o idx kd j n ci := by
  unfold tb_inv at hf
  cases ef : tb_invL.find? (fun q => q.1 == o && q.2.1 == idx) with
  | none => rw [ef] at hf; cases hf
  | some r =>
    rw [ef] at hf
    have hm := List.mem_of_find?_eq_some ef
    have hp := List.find?_some ef
    have hF := jx_invFs r hm
    obtain ⟨o', idx', kd', j', n', ci', p1, p2, p3, p4⟩ := r
    simp only [Option.map_some, Option.some.injEq, Prod.mk.injEq] at hf
    obtain ⟨rfl, rfl, rfl, rfl⟩ := hf
    simp only [Bool.and_eq_true, beq_iff_eq] at hp
    obtain ⟨rfl, rfl⟩ := hp
    unfold jx_invF at hF
    simp only [Bool.and_eq_true, decide_eq_true_eq, beq_iff_eq] at hF
    obtain ⟨⟨⟨⟨hj, hpl⟩, hn⟩, hi⟩, hF⟩ := hF
    have hy := jx_yj hj
    rw [hy] at hpl hn hi hF
    refine ⟨hj, hpl, hn, jx_inT hi rfl, ?_⟩
    split at hF
    · simp only [Bool.and_eq_true, decide_eq_true_eq, beq_iff_eq] at hF
      obtain ⟨⟨⟨⟨a1, a2⟩, a3⟩, a4⟩, a5⟩ := hF
      exact Or.inl ⟨rfl, jx_inT a1 rfl, jx_inT a2 rfl, jx_inT a3 rfl, a4, a5⟩
    · simp only [Bool.and_eq_true, beq_iff_eq] at hF
      obtain ⟨⟨a1, a2⟩, a3⟩ := hF
      exact Or.inr (Or.inl ⟨rfl, jx_inT a1 rfl, jx_inT a2 rfl, a3⟩)
    · simp only [Bool.and_eq_true, beq_iff_eq] at hF
      obtain ⟨a1, a2⟩ := hF
      exact Or.inr (Or.inr (Or.inl ⟨rfl, jx_inT a1 rfl, jx_inT a2 rfl⟩))
    · simp only [Bool.and_eq_true, beq_iff_eq] at hF
      obtain ⟨a0, hF⟩ := hF
      split at hF
      · rename_i q eq
        simp only [Bool.and_eq_true, beq_iff_eq] at hF
        obtain ⟨⟨⟨⟨b0, a1⟩, a2⟩, a3⟩, a4⟩ := hF
        have hq := List.mem_of_find?_eq_some eq
        exact Or.inr (Or.inr (Or.inr (Or.inl ⟨rfl, a0, q.1, by rw [← b0]; exact hq, jx_inT a1 rfl, jx_inT a2 rfl, jx_inT a3 rfl, a4⟩)))
      · cases hF
    · simp only [Bool.and_eq_true, decide_eq_true_eq, beq_iff_eq] at hF
      obtain ⟨⟨⟨⟨a1, a2⟩, a3⟩, a4⟩, a5⟩ := hF
      exact Or.inr (Or.inr (Or.inr (Or.inr (Or.inl ⟨rfl, jx_inN a1 rfl, jx_inT a2 rfl, jx_inT a3 rfl, a4, a5⟩))))
    · simp only [Bool.and_eq_true, beq_iff_eq] at hF
      obtain ⟨⟨a1, a2⟩, a3⟩ := hF
      exact Or.inr (Or.inr (Or.inr (Or.inr (Or.inr ⟨rfl, jx_inN a1 rfl, jx_inT a2 rfl, a3⟩))))
    · cases hF
theorem jx_cl13 {ci : Nat} (h : ci < 13) : ∃ q, tb_cl[ci]? = some q ∧ q.1 = tb_Rn ci := by
  match ci, h with
  | 0, _ => exact ⟨_, rfl, by decide +kernel⟩
  | 1, _ => exact ⟨_, rfl, by decide +kernel⟩
  | 2, _ => exact ⟨_, rfl, by decide +kernel⟩
  | 3, _ => exact ⟨_, rfl, by decide +kernel⟩
  | 4, _ => exact ⟨_, rfl, by decide +kernel⟩
  | 5, _ => exact ⟨_, rfl, by decide +kernel⟩
  | 6, _ => exact ⟨_, rfl, by decide +kernel⟩
  | 7, _ => exact ⟨_, rfl, by decide +kernel⟩
  | 8, _ => exact ⟨_, rfl, by decide +kernel⟩
  | 9, _ => exact ⟨_, rfl, by decide +kernel⟩
  | 10, _ => exact ⟨_, rfl, by decide +kernel⟩
  | 11, _ => exact ⟨_, rfl, by decide +kernel⟩
  | 12, _ => exact ⟨_, rfl, by decide +kernel⟩
section JxAfter
variable {p : Program} {l : Launch} {e : Env} {R : Room} {s : State} {m : MethodId} {args : Array Value} {below : List Frame} {meth : Method} {c : Code} {H : Heap} {locs : List Loc} {cells slots mc ms : Nat} {Q : State → Prop}
variable {D : va_G} {dA : Nat → ClassId} {base : Nat} {K : Nat → Option jx_E} {σ' : jx_S} {pc : Nat} {ls : Array Slot} {st rest : List Value} {H0 : Heap} {r : Option Value} {a : Array Value}
theorem jx_after (hr : va_Run p l e R s m args below meth c H locs cells slots mc ms (F0 m pc ls st) rest (jx_Q D dA base K r σ' a) (jx_A base)) (hS : va_S (jx_A base) H0 H locs)
    (kk : ∀ (H1 : Heap) (locs1 : List Loc), jx_Rep D dA base K σ' H1 → va_S (jx_A base) H0 H1 locs1 → W p l e R s m args below meth c H1 locs1 (cells + mc) (slots + ms) Q (F0 m (pc + 3) ls (r.toList ++ rest))) : W p l e R s m args below meth c H locs cells slots Q (F0 m pc ls st) := by
  intro T hT X
  obtain ⟨v, st₀, t, T', L, h0, X', hL, e1, e2, ⟨hv, hR, hz, hk⟩, go⟩ := hr T hT X
  cases hv
  rw [h0] at hz hk
  obtain ⟨t2, a1, b1⟩ := kk T'.heap (locs ++ L) (by rw [e1]; exact hR) ⟨Nat.le_trans hS.1 (by rw [e1]; exact hz), fun q h1 h2 => by rw [e1, hk q (Nat.lt_of_lt_of_le h1 hS.1) h2]; exact hS.2.1 q h1 h2, fun q hq => (List.mem_append.mp hq).elim (hS.2.2 q) (hL q)⟩ T' rfl X'
  exact ⟨t2, go t2 a1, b1⟩
theorem jx_after5 (hr : va_Run5 p l e R s m args below meth c H locs cells slots mc ms (F0 m pc ls st) rest (jx_Q D dA base K r σ' a) (jx_A base)) (hS : va_S (jx_A base) H0 H locs)
    (kk : ∀ (H1 : Heap) (locs1 : List Loc), jx_Rep D dA base K σ' H1 → va_S (jx_A base) H0 H1 locs1 → W p l e R s m args below meth c H1 locs1 (cells + mc) (slots + ms) Q (F0 m (pc + 5) ls (r.toList ++ rest))) : W p l e R s m args below meth c H locs cells slots Q (F0 m pc ls st) := by
  intro T hT X
  obtain ⟨v, st₀, t, T', L, h0, X', hL, e1, e2, ⟨hv, hR, hz, hk⟩, go⟩ := hr T hT X
  cases hv
  rw [h0] at hz hk
  obtain ⟨t2, a1, b1⟩ := kk T'.heap (locs ++ L) (by rw [e1]; exact hR) ⟨Nat.le_trans hS.1 (by rw [e1]; exact hz), fun q h1 h2 => by rw [e1, hk q (Nat.lt_of_lt_of_le h1 hS.1) h2]; exact hS.2.1 q h1 h2, fun q hq => (List.mem_append.mp hq).elim (hS.2.2 q) (hL q)⟩ T' rfl X'
  exact ⟨t2, go t2 a1, b1⟩
end JxAfter
