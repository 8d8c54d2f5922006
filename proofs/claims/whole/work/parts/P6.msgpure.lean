/-! WHAT A MESSAGE LEAVES: PEERS, connections, ASKS -/
def SM (n a e : Nat) (f F : jx_F) : Prop := PS F n a ∧ FR n a f F ∧ (f.1 34 0).toInt ≤ (F.1 34 0).toInt ∧ (F.1 34 0).toInt ≤ (f.1 34 0).toInt + e
section JxMsgpure
variable {n a p c e e' h : Nat} {f g F : jx_F} {cv : Int32} {bs : List Int32}
theorem SM.rf (hS : PS f n a) : SM n a 0 f f := ⟨hS, FR.rf, Int.le_refl _, by omega⟩
theorem SM.tr (h : SM n a e f g) (h' : SM n a e' g F) : SM n a (e + e') f F := ⟨h'.1, h.2.1.tr h'.2.1, by have := h.2.2.1; have := h'.2.2.1; omega, by have := h.2.2.2; have := h'.2.2.2; omega⟩
theorem SM.le (h : SM n a e f F) (he : e ≤ e') : SM n a e' f F := ⟨h.1, h.2.1, h.2.2.1, by have := h.2.2.2; omega⟩
theorem SM.u2 {x : Int32} (hS : PS f n a) : SM n a 0 f (rf_ui f 2 0 x) := by
  refine ⟨hS.u2, ⟨fun q j h1 h2 h3 => rf_ui_ne (fun z => ?_), fun u j h1 h2 => rf_ui_ne (by omega), fun _ _ _ => rfl⟩, by rw [rf_ui_ne (by omega)]; exact Int.le_refl _, by rw [rf_ui_ne (by omega)]; omega⟩
  rw [z.1] at h1
  exact absurd h1 (by decide)
theorem SM.msg (hS : PS f n a) (hl : bs.length ≤ 700) (hc : cv.toInt = (c : Int)) (hc8 : c ≤ 8) : SM n a 0 f (R_msg f bs cv) := by
  have o : ∀ q j, q ≠ 65 → q ≠ 2 → q ≠ 31 → q ≠ 32 → q ≠ 66 → (R_msg f bs cv).1 q j = f.1 q j := fun q j h1 h2 h3 h4 h5 => R_msg_o h1 h2 h3 h4 h5
  refine ⟨hS.of (R_msg_ok hS.1.1 hl hc hc8) (fun q j hq => ?_) (fun j => by rw [R_msg_l]) (fun q hq => (hS.2.2.2.2.1 q hq).of (o _ _ (by omega) (by omega) (by omega) (by omega) (by omega)) (o _ _ (by omega) (by omega) (by omega) (by omega) (by omega)) (o _ _ (by omega) (by omega) (by omega) (by omega) (by omega))) (by rw [R_msg_ge]; exact Int.le_refl _), ⟨fun q j h1 h2 h3 => ?_, fun u j h1 h2 => o _ _ (by omega) (by omega) (by omega) (by omega) (by omega), fun u j _ => by rw [R_msg_l]⟩, by rw [R_msg_ge]; exact Int.le_refl _, by rw [R_msg_ge]; omega⟩
  · simp only [List.mem_cons, List.not_mem_nil, or_false] at hq
    exact o _ _ (by omega) (by omega) (by omega) (by omega) (by omega)
  · refine o q j (fun z => ?_) (fun z => ?_) (by omega) (by omega) (fun z => ?_) <;> (rw [z] at h1; exact absurd h1 (by decide))
theorem SM.drop (hS : PS f n a) (c1 : 1 ≤ c) (c2 : c ≤ 8) (h34 : (f.1 34 0).toInt = (h : Int)) (hh : h < 2147482000) : SM n a 64 f (R_drop f n a c) := by
  obtain ⟨r1, r2, r3⟩ := hS.drop c1 c2 ⟨h, h34, hh⟩
  exact ⟨r1, FR.drop hS c1 c2, r2, r3⟩
theorem SM.edg (hS : PS f n a) (hp : p < n) (h34 : (f.1 34 0).toInt = (h : Int)) (hh : h < 2147482000) : SM n a 64 f (R_edg f n a p) := by
  unfold R_edg
  split
  · obtain ⟨r1, r2, r3, r4⟩ := hS.da hp h34 hh
    exact ⟨r1, r4, r2, r3⟩
  · exact (SM.u2 hS).le (by omega)
theorem tset_r {x : Int32} : 0 ≤ (if x.toInt64 &&& 4294967295 = 0 then (1 : Int64) else x.toInt64 &&& 4294967295).toInt ∧ (if x.toInt64 &&& 4294967295 = 0 then (1 : Int64) else x.toInt64 &&& 4294967295).toInt < 4294967296 ∧ ¬ (if x.toInt64 &&& 4294967295 = 0 then (1 : Int64) else x.toInt64 &&& 4294967295) = 0 := by
  by_cases e : x.toInt64 &&& 4294967295 = 0
  · rw [if_pos e]; exact ⟨by decide, by decide, by decide⟩
  · rw [if_neg e]
    refine ⟨m32_nn x, ?_, e⟩
    have h : (x.toInt64 &&& 4294967295).toBitVec.toNat ≤ 4294967295 := by
      show (x.toInt64.toBitVec &&& 4294967295#64).toNat ≤ 4294967295
      rw [BitVec.toNat_and]
      exact Nat.and_le_right
    show (x.toInt64 &&& 4294967295).toBitVec.toInt < _
    rw [BitVec.toInt_eq_toNat_cond]
    split <;> omega
theorem SM.ta (hS : PS f n a) : ∀ (r i : Nat), i + r = a → SM n a 0 f (R_ta f cv p r i)
  | 0, _, _ => SM.u2 hS
  | r + 1, i, hi => by
    unfold R_ta
    split
    · split
      · have o1 : (R_tset f i).1 = f.1 := rfl
        have l1 : ∀ u j, ¬ (u = 53 ∧ j = i) → (R_tset f i).2 u j = f.2 u j := fun u j z => by unfold R_tset; rw [rf_ul_ne z]
        refine ⟨?_, ⟨fun q j _ _ _ => by rw [o1], fun u j _ _ => by rw [o1], fun u j z => l1 u j (by omega)⟩, by rw [o1]; exact Int.le_refl _, by rw [o1]; omega⟩
        obtain ⟨s1, s2, s3, s4, s5, s6, s7⟩ := hS
        refine ⟨s1, s2, s3, fun j hj => ?_, s5, s6, s7⟩
        by_cases e : j = i
        · obtain ⟨u, t, t1, t2, t3, t4⟩ := s4 j hj
          rw [e] at t1 t2 ⊢
          have v : (R_tset f i).2 53 i = if (R_n4 f 7).toInt64 &&& 4294967295 = 0 then 1 else (R_n4 f 7).toInt64 &&& 4294967295 := rf_ul_eq
          obtain ⟨y1, y2, y3⟩ := tset_r (x := R_n4 f 7)
          exact ⟨u, t, t1, t2, by rw [v]; exact ⟨y1, y2⟩, fun z => by rw [v] at z; exact absurd z y3⟩
        · exact (s4 j hj).of ⟨rfl, rfl, rfl, l1 53 j (by omega)⟩ (fun u _ _ _ => ⟨rfl, rfl, rfl⟩)
      · exact SM.ta hS r (i + 1) (by omega)
    · exact SM.u2 hS
/-- the status of a PEER, told by a message -/
theorem SM.hm (hS : PS f n a) (hp : p < n) (ho : R_open (f.1 11 p)) : SM n a 0 f (R_hm f p).2 := by
  have hn4 := hS.1.2.2.1
  obtain ⟨u, u1, u2, u3, u4, u5⟩ := hS.p1 hp
  have u3' := u3.mpr ho
  have hJ := hS.2.2.2.2.1 p (by omega)
  have e15 : f.1 15 p = Int32.ofNat u := i32_eq u1 (by omega)
  obtain ⟨F, hF⟩ : ∃ F, F = (R_hm f p).2 := ⟨_, rfl⟩
  rw [← hF]
  by_cases hlost : F = rf_ui f 2 0 (f.1 2 0 + 1)
  · rw [hlost]; exact SM.u2 hS
  by_cases hsame : F = f
  · rw [hsame]; exact SM.rf hS
  have key : (∀ q j, ¬ ((q = 15 ∨ q = 16 ∨ q = 17 ∨ q = 19) ∧ j = p) → F.1 q j = f.1 q j) ∧ F.2 = f.2 ∧ (F.1 15 p = 1 ∨ (F.1 15 p = 4 ∧ ∃ b : Nat, (F.1 19 p).toInt = (b : Int) ∧ b ≤ 2)) ∧ (F.1 16 p = 0 ∨ F.1 16 p = f.1 16 p) := by
    have w1v : (R_w1 f p).1 16 p = 0 ∨ (R_w1 f p).1 16 p = f.1 16 p := by
      unfold R_w1
      split
      · exact Or.inl rf_ui_eq
      · exact Or.inr rfl
    have w1l : (R_w1 f p).2 = f.2 := by unfold R_w1; split <;> rfl
    unfold R_hm at hF
    by_cases e4 : f.1 15 p = 4
    · rw [if_pos e4] at hF
      by_cases ew : R_wat f p = true
      · rw [if_pos ew] at hF
        have hF : F = rf_ui (rf_ui (R_w1 f p) 19 p (f.1 19 p + 1)) 15 p (if f.1 19 p + 1 = 3 then 1 else 4) := hF
        refine ⟨fun q j z => by rw [hF, rf_ui_ne (by omega), rf_ui_ne (by omega), w1_o (by omega)], by rw [hF]; exact w1l, ?_, by rw [hF, rf_ui_ne (by omega), rf_ui_ne (by omega)]; exact w1v⟩
        obtain ⟨bb, b1, b2⟩ := hJ.2 e4
        have b3 : (f.1 19 p + 1).toInt = ((bb + 1 : Nat) : Int) := by rw [i32_add (c := 1) b1 (by decide) (by omega) (by omega)]; omega
        rw [hF, rf_ui_eq]
        by_cases e3 : f.1 19 p + 1 = 3
        · rw [if_pos e3]; exact Or.inl rfl
        · rw [if_neg e3]
          refine Or.inr ⟨rfl, bb + 1, by rw [rf_ui_ne (by omega), rf_ui_eq]; exact b3, ?_⟩
          have : bb + 1 ≠ 3 := fun z => e3 (Int32.toInt_inj.mp (by rw [b3, z]; decide))
          omega
      · rw [if_neg ew] at hF
        by_cases er : ¬ f.1 69 0 &&& 128 = 0 ∧ (f.1 70 0 = 280 ∨ f.1 70 0 = 282)
        · rw [if_pos er] at hF
          exact absurd hF hsame
        · rw [if_neg er] at hF
          exact absurd hF hlost
    · rw [if_neg e4] at hF
      have hF : F = rf_ui (rf_ui (R_w1 f p) 15 p 1) 17 p (f.1 1 0 + 30) := hF
      exact ⟨fun q j z => by rw [hF, rf_ui_ne (by omega), rf_ui_ne (by omega), w1_o (by omega)], by rw [hF]; exact w1l, Or.inl (by rw [hF, rf_ui_ne (by omega), rf_ui_eq]), by rw [hF, rf_ui_ne (by omega), rf_ui_ne (by omega)]; exact w1v⟩
  obtain ⟨k1, k2, k3, k4⟩ := key
  have h16 : F.1 16 p = 0 ∨ F.1 16 p = 1 := by
    rcases k4 with z | z
    · exact Or.inl z
    · rw [z]; exact u4
  have hJp : ∀ q, q < 4 → PJ_p F q := fun q hq => by
    have hJq := hS.2.2.2.2.1 q hq
    by_cases e : q = p
    · rw [e] at hJq ⊢
      refine ⟨by rw [k1 22 p (by omega)]; exact hJq.1, fun z => ?_⟩
      rcases k3 with y | y
      · rw [y] at z; exact absurd z (by decide)
      · exact y.2
    · exact hJq.of (k1 _ _ (by omega)) (k1 _ _ (by omega)) (k1 _ _ (by omega))
  have hPp : PI_p1 F p := by
    rcases k3 with y | y
    · exact (hS.2.2.1 p hp).re (u := 1) (fun q hq => k1 q p (by simp only [List.mem_cons, List.not_mem_nil, or_false] at hq; omega)) (fun c q hq => k1 q c (by omega)) (by rw [y]; decide) (by omega) ⟨fun _ => ho, fun _ => Or.inl rfl⟩ h16
    · exact (hS.2.2.1 p hp).re (u := 4) (fun q hq => k1 q p (by simp only [List.mem_cons, List.not_mem_nil, or_false] at hq; omega)) (fun c q hq => k1 q c (by omega)) (by rw [y.1]; decide) (by omega) ⟨fun _ => ho, fun _ => Or.inr (Or.inr rfl)⟩ h16
  have gok : R_gok F n a := hS.1.of (hS.1.1.of (k1 _ _ (by omega)) (fun c => k1 _ _ (by omega)) (fun c => k1 _ _ (by omega))) (fun q j hq => k1 q j (by simp only [List.mem_cons, List.not_mem_nil, or_false] at hq; omega))
  refine ⟨hS.one (p := p) gok (fun v hv q hq => k1 q v (by omega)) (fun q j hq => k1 q j (by simp only [List.mem_cons, List.not_mem_nil, or_false] at hq; omega)) ⟨k1 _ _ (by omega), k1 _ _ (by omega), k1 _ _ (by omega)⟩ (fun j => by rw [k2]) (fun _ => hPp) hJp (by rw [k1 34 0 (by omega)]; exact Int.le_refl _), FR.pe hp (fun q j z1 z2 => k1 q j (by omega)) k2, by rw [k1 34 0 (by omega)]; exact Int.le_refl _, by rw [k1 34 0 (by omega)]; omega⟩
/-- an ENDING that came -/
theorem SM.end7 (hS : PS f n a) (hp : p < n) (ho : R_open (f.1 11 p)) (h34 : (f.1 34 0).toInt = (h : Int)) (hh : h < 2147482000) : SM n a 64 f (R_become (rf_ui f 22 p 0) n a p 7) := by
  have hn4 := hS.1.2.2.1
  obtain ⟨f1, hf1⟩ : ∃ f1, f1 = rf_ui f 22 p 0 := ⟨_, rfl⟩
  rw [← hf1]
  have o1 : ∀ q j, ¬ (q = 22 ∧ j = p) → f1.1 q j = f.1 q j := fun q j z => by rw [hf1, rf_ui_ne z]
  have l1 : f1.2 = f.2 := by rw [hf1]; rfl
  have hS1 : PS f1 n a := hS.of (hS.1.1.of (o1 _ _ (by omega)) (fun c => o1 _ _ (by omega)) (fun c => o1 _ _ (by omega))) (fun q j hq => o1 q j (by simp only [List.mem_cons, List.not_mem_nil, or_false] at hq; omega)) (fun j => by rw [l1]) (fun u hu => by
    have := hS.2.2.2.2.1 u hu
    by_cases e : u = p
    · subst e
      unfold PJ_p at this ⊢
      rw [hf1, rf_ui_eq, rf_ui_ne (by omega), rf_ui_ne (by omega)]
      exact ⟨by decide, this.2⟩
    · exact this.of (o1 22 u (by omega)) (o1 15 u (by omega)) (o1 19 u (by omega))) (by rw [o1 34 0 (by omega)]; exact Int.le_refl _)
  have x34 : (f1.1 34 0).toInt = (h : Int) := by rw [o1 34 0 (by omega)]; exact h34
  have ho1 : R_open (f1.1 11 p) := by rw [o1 11 p (by omega)]; exact ho
  have eF : R_become f1 n a p 7 = R_bshut (R_enter f1 p 7) n a p := R_become_yn (fun z => by rcases z with z | z <;> exact absurd z (by decide)) ho1
  rw [eF]
  obtain ⟨F, hF⟩ : ∃ F, F = R_bshut (R_enter f1 p 7) n a p := ⟨_, rfl⟩
  have oe : ∀ q j, ¬ ((q = 11 ∨ q = 12) ∧ j = p) → (R_enter f1 p 7).1 q j = f1.1 q j := fun q j h => enter_o h
  have hPS : PS F n a ∧ (f1.1 34 0).toInt ≤ (F.1 34 0).toInt ∧ (F.1 34 0).toInt ≤ (f1.1 34 0).toInt + 64 := by
    obtain ⟨st, o, kk, u, t1, t2, t3, t4, q5, q6, q7, q8, q9, q10, q11, q12, q13, q14, q15, q16, q17⟩ := hS1.2.2.1 p hp
    rw [hF]
    refine hS1.bshut (g := R_enter f1 p 7) hp ⟨h, x34, by omega⟩ hS1.1.enter (fun u hu hne q _ => oe q u (by omega)) (fun q j hq => oe q j (by omega)) (fun _ => rfl) (fun c _ _ _ q hq => oe q c (by omega)) (fun c c1 c2 _ => (hS1.2.1 c c1 c2).of (fun q hq => oe q c (by omega)) (fun j _ _ => ⟨fun _ => oe 13 j (by omega), fun _ => oe 14 j (by omega)⟩)) ⟨7, o, kk, ⟨by rw [enter_v]; decide, Or.inr rfl⟩, ⟨by rw [oe 13 p (by omega)]; exact t2.1, t2.2⟩, ⟨by rw [oe 14 p (by omega)]; exact t3.1, t3.2⟩, fun z => by rw [oe 27 o (by omega), oe 28 o (by omega)]; exact q5 z, fun z => by rw [oe 27 kk (by omega), oe 28 kk (by omega)]; exact q6 z, fun z => by omega, fun _ => ?_⟩ (oe 10 p (by omega)) (fun q hq => (hS1.2.2.2.2.1 q hq).of (oe _ _ (by omega)) (oe _ _ (by omega)) (oe _ _ (by omega))) (fun c c1 c2 => (hS1.2.2.2.2.2.1 c c1 c2).of (oe _ _ (by omega)) (fun j => oe _ _ (by omega)))
    rw [oe 26 o (by omega)]
    rcases ho1 with e | e
    · refine Or.inl (q12 ?_)
      have := t1.1
      rw [e] at this
      have e5 : (5 : Int32).toInt = 5 := by decide
      omega
    · refine Or.inr (q13 ?_)
      have := t1.1
      rw [e] at this
      have e6 : (6 : Int32).toInt = 6 := by decide
      omega
  rw [← hF]
  have e34 : (f1.1 34 0).toInt = (f.1 34 0).toInt := by rw [o1 34 0 (by omega)]
  refine ⟨hPS.1, ⟨fun q j h1 h2 h3 => ?_, fun u j h1 h2 => ?_, fun u j h1 => ?_⟩, by omega, by omega⟩
  · have hj : ¬ ((11 ≤ q ∧ q ≤ 25) ∧ j = p) := fun z => h3 (by omega) z.1
    rw [hF, R_bshut_o h1 (by omega), enter_o (by omega), o1 q j (by omega)]
  · rw [hF, R_bshut_i (by omega) (by omega), enter_o (by omega), o1 u j (by omega)]
  · rw [hF, R_bshut_l (by omega)]
    show f1.2 u j = _
    rw [l1]
end JxMsgpure
