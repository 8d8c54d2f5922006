/-! THE CLASS: what it does to a PEER -/
theorem rf_ui_comm {f : jx_F} {k j a c : Nat} {x y : Int32} (h : k ≠ a) : rf_ui (rf_ui f k j x) a c y = rf_ui (rf_ui f a c y) k j x := by
  refine Prod.ext (funext fun q => funext fun i => ?_) rfl
  show (if q = a ∧ i = c then y else if q = k ∧ i = j then x else f.1 q i) = if q = k ∧ i = j then x else if q = a ∧ i = c then y else f.1 q i
  by_cases h1 : q = a ∧ i = c
  · rw [if_pos h1, if_neg (fun z => h (z.1.symm.trans h1.1)), if_pos h1]
  · rw [if_neg h1, if_neg h1]
section JxComm
variable {f : jx_F} {k j : Nat} {x : Int32}
theorem R_b_comm {y : Int32} (h1 : k ≠ 65) (h2 : k ≠ 66) : R_b (rf_ui f k j x) y = rf_ui (R_b f y) k j x := by
  unfold R_b
  rw [show (rf_ui f k j x).1 66 0 = f.1 66 0 from rf_ui_ne (fun e => h2 e.1.symm), rf_ui_comm h1, rf_ui_comm h2]
theorem R_bs_comm (h1 : k ≠ 65) (h2 : k ≠ 66) : ∀ (bs : List Int32) (f : jx_F), R_bs (rf_ui f k j x) bs = rf_ui (R_bs f bs) k j x
  | [], _ => rfl
  | y :: bs, f => by
    show R_bs (R_b (rf_ui f k j x) y) bs = rf_ui (R_bs (R_b f y) bs) k j x
    rw [R_b_comm h1 h2, R_bs_comm h1 h2 bs]
theorem R_go3_comm (h1 : k ≠ 65) (h2 : k ≠ 66) : R_go3 (rf_ui f k j x) = rf_ui (R_go3 f) k j x := by
  unfold R_go3
  rw [show (rf_ui f k j x).1 66 0 = f.1 66 0 from rf_ui_ne (fun e => h2 e.1.symm), rf_ui_comm h1, rf_ui_comm h1, rf_ui_comm h1]
theorem R_c1_comm {c i : Int32} (h1 : k ≠ 65) (h2 : k ≠ 31) (h3 : k ≠ 32) (h4 : k ≠ 33) : R_c1 c (rf_ui f k j x) i = rf_ui (R_c1 c f i) k j x := by
  unfold R_c1 R_ix
  rw [show (rf_ui f k j x).1 33 c.toNatClampNeg = f.1 33 c.toNatClampNeg from rf_ui_ne (fun e => h4 e.1.symm), show (rf_ui f k j x).1 32 c.toNatClampNeg = f.1 32 c.toNatClampNeg from rf_ui_ne (fun e => h3 e.1.symm), show (rf_ui f k j x).1 65 i.toNatClampNeg = f.1 65 i.toNatClampNeg from rf_ui_ne (fun e => h1 e.1.symm), rf_ui_comm h2, rf_ui_comm h3]
theorem R_cp_comm {c : Int32} (h1 : k ≠ 65) (h2 : k ≠ 31) (h3 : k ≠ 32) (h4 : k ≠ 33) : ∀ (r : Nat) (i : Int32) (f : jx_F), R_cp c r i (rf_ui f k j x) = rf_ui (R_cp c r i f) k j x
  | 0, _, _ => rfl
  | r + 1, i, f => by
    show R_cp c r (i + 1) (R_c1 c (rf_ui f k j x) i) = rf_ui (R_cp c r (i + 1) (R_c1 c f i)) k j x
    rw [R_c1_comm h1 h2 h3 h4, R_cp_comm h1 h2 h3 h4 r]
theorem R_msg_comm {bs : List Int32} {c : Int32} (h0 : k ≠ 2) (h1 : k ≠ 65) (h2 : k ≠ 31) (h3 : k ≠ 32) (h4 : k ≠ 33) (h5 : k ≠ 66) : R_msg (rf_ui f k j x) bs c = rf_ui (R_msg f bs c) k j x := by
  unfold R_msg
  rw [rf_ui_comm h5, R_bs_comm h1 h5]
  unfold R_go
  rw [R_go3_comm h1 h5]
  generalize R_go3 (R_bs (rf_ui f 66 0 0) bs) = g
  rw [show (rf_ui g k j x).1 32 c.toNatClampNeg = g.1 32 c.toNatClampNeg from rf_ui_ne (fun e => h3 e.1.symm), show (rf_ui g k j x).1 66 0 = g.1 66 0 from rf_ui_ne (fun e => h5 e.1.symm), show (rf_ui (R_bs (rf_ui f 66 0 0) bs) k j x).1 66 0 = (R_bs (rf_ui f 66 0 0) bs).1 66 0 from rf_ui_ne (fun e => h5 e.1.symm)]
  split
  · rw [R_cp_comm h1 h2 h3 h4]
  · rw [show (rf_ui g k j x).1 2 0 = g.1 2 0 from rf_ui_ne (fun e => h0 e.1.symm), rf_ui_comm h0]
end JxComm
section JxPeers
variable {th : Nat → Nat} {d B b p : Nat} {xl : List Int32} {σ σ' : jx_S} {f f' : jx_F} {A : Nat → Nat → Nat} {G : Nat → Nat → Int32} {T : Nat → Nat}
theorem RelC.X (hR : RelC th B b xl σ f A G T) : σ.1 B = some (cx_e B f (A 0 0) (G 0 0)) := hR.1.2.2.2.2.2.1
theorem RelC.pe (hR : RelC th B b xl σ f A G T) (hp : (p : Int) < (f.1 7 0).toInt) : rl_p1 B σ f A G T p := by
  obtain ⟨n, h1, -, -, h2⟩ := hR.2.2.2.1
  exact h2 p (by omega)
theorem RelC.p4 (hR : RelC th B b xl σ f A G T) (hp : (p : Int) < (f.1 7 0).toInt) : p < 4 := by
  obtain ⟨n, h1, h2, -⟩ := hR.2.2.2.1
  omega
/-- fields of one PEER are written -/
theorem RelC.pe1 (hR : RelC th B b xl σ f A G T) (hp : (p : Int) < (f.1 7 0).toInt) (h1 : σ'.1 (A 6 p) = some (cp_e B f' A G p)) (h2 : ∀ q, q ≠ A 6 p → σ'.1 q = σ.1 q) (h3 : σ'.2 = σ.2) (hf : ∀ q j, ¬ (10 ≤ q ∧ q ≤ 25 ∧ j = p) → f'.1 q j = f.1 q j) (hl : f'.2 = f.2) (h22 : f'.1 22 p = f.1 22 p) : RelC th B b xl σ' f' A G T ∧ kp B σ σ' := by
  obtain ⟨a1, a2, a3, a6⟩ := hR.pe hp
  exact ⟨hR.peer hp h2 h3 (fun q j hq _ _ _ => hf q j hq) (fun _ _ _ _ => by rw [hl]) (fun _ _ _ => rfl) h1 (by rw [h22]; exact a6), h3, fun q q1 q2 => h2 q (by have := a1.1; omega)⟩
theorem ui_pe {k : Nat} {x : Int32} (hk : 10 ≤ k ∧ k ≤ 25) (hf : ∀ q j, ¬ (10 ≤ q ∧ q ≤ 25 ∧ j = p) → f'.1 q j = f.1 q j) : ∀ q j, ¬ (10 ≤ q ∧ q ≤ 25 ∧ j = p) → (rf_ui f' k p x).1 q j = f.1 q j := fun q j h => by
  rw [rf_ui_ne (fun e => h (by omega))]
  exact hf q j h
theorem k_enter {s : Int32} (hW : RW th B b xl σ f A T) (hp : (p : Int) < (f.1 7 0).toInt) : jc th (d + 1) 44 [.ref B, .ref (A 6 p), .int s] σ (fun r σ' => r = none ∧ RW th B b xl σ' (R_enter f p s) A T ∧ kp B σ σ') := by
  obtain ⟨G, hR, hls⟩ := hW
  have hX := hR.X
  obtain ⟨a1, a2, a3, a6⟩ := hR.pe hp
  have fin : ∀ s1 s2 : jx_S, ∀ v : Int32, v = (if s = 0 ∨ s = 5 ∨ s = 6 then 2147483647 else f.1 1 0 + 10) → s1.1 (A 6 p) = some (.inr (6, List.set [.int (Int32.ofNat (p + 1)), .ref (A 60 p), .int (f.1 10 p), .int (f.1 11 p), .int (lim f p), va_rf (cc_ref B (f.1 13 p)), va_rf (cc_ref B (f.1 14 p)), .int (f.1 15 p), .int (f.1 16 p), .int (f.1 17 p), .int (f.1 18 p), .int (f.1 19 p), .int (f.1 20 p), .int (f.1 21 p), .int (G 2 p), .int (if f.1 22 p = 0 then 0 else 1), .int (f.1 23 p &&& 64), .int (f.1 24 p), .int (f.1 25 p)] 3 (.int s))) → (∀ q, q ≠ A 6 p → s1.1 q = σ.1 q) → s1.2 = σ.2 → s2.1 (A 6 p) = some (.inr (6, List.set (List.set [.int (Int32.ofNat (p + 1)), .ref (A 60 p), .int (f.1 10 p), .int (f.1 11 p), .int (lim f p), va_rf (cc_ref B (f.1 13 p)), va_rf (cc_ref B (f.1 14 p)), .int (f.1 15 p), .int (f.1 16 p), .int (f.1 17 p), .int (f.1 18 p), .int (f.1 19 p), .int (f.1 20 p), .int (f.1 21 p), .int (G 2 p), .int (if f.1 22 p = 0 then 0 else 1), .int (f.1 23 p &&& 64), .int (f.1 24 p), .int (f.1 25 p)] 3 (.int s)) 4 (.int v))) → (∀ q, q ≠ A 6 p → s2.1 q = s1.1 q) → s2.2 = s1.2 → RW th B b xl s2 (R_enter f p s) A T ∧ kp B σ s2 := by
    intro s1 s2 v hv p1 o1 n1 p2 o2 n2
    obtain ⟨r1, r2⟩ := hR.pe1 (σ' := s2) (f' := R_enter f p s) hp (by
      rw [p2, hv]
      simp [cp_e, lim, R_enter, rf_ui]) (fun q hq => (o2 q hq).trans (o1 q hq)) (n2.trans n1) (ui_pe ⟨by omega, by omega⟩ (ui_pe ⟨by omega, by omega⟩ (fun _ _ _ => rfl))) rfl (R_enter_o (by decide) (by decide))
    exact ⟨⟨G, r1, by rw [R_enter_o (by decide) (by decide)]; exact hls⟩, r2⟩
  refine cl_go dt_44 60 [] dt_44_k rfl ?_
  intro C J hC hJ
  conv => whnf
  refine ⟨fun (h0 : s = 0) => ?_, fun (h0 : ¬ s = 0) => ?_⟩
  · conv => whnf
    refine putK a2 rfl (fit_i _) (fun s1 p1 o1 n1 => ?_)
    conv => whnf
    refine jx_no (show ¬ (1 : Int32) = 0 by decide) ?_
    conv => whnf
    refine putK p1 rfl (fit_i _) (fun s2 p2 o2 n2 => ?_)
    conv => whnf
    exact ⟨rfl, fin s1 s2 _ (by rw [if_pos (Or.inl h0)]) p1 o1 n1 p2 o2 n2⟩
  · conv => whnf
    refine ⟨fun (h5 : s = 5) => ?_, fun (h5 : ¬ s = 5) => ?_⟩
    · conv => whnf
      refine putK a2 rfl (fit_i _) (fun s1 p1 o1 n1 => ?_)
      conv => whnf
      refine jx_no (show ¬ (1 : Int32) = 0 by decide) ?_
      conv => whnf
      refine putK p1 rfl (fit_i _) (fun s2 p2 o2 n2 => ?_)
      conv => whnf
      exact ⟨rfl, fin s1 s2 _ (by rw [if_pos (Or.inr (Or.inl h5))]) p1 o1 n1 p2 o2 n2⟩
    · conv => whnf
      refine ⟨fun (h6 : ¬ s = 6) => ?_, fun (h6 : ¬ ¬ s = 6) => ?_⟩
      · conv => whnf
        refine putK a2 rfl (fit_i _) (fun s1 p1 o1 n1 => ?_)
        conv => whnf
        refine jx_yes (show (0 : Int32) = 0 from rfl) ?_
        conv => whnf
        have hX1 := (o1 B (by have := a1.1; omega)).trans hX
        refine ⟨_, jx_getF_of (hX1) rfl, ?_⟩
        conv => whnf
        refine putK p1 rfl (fit_i _) (fun s2 p2 o2 n2 => ?_)
        conv => whnf
        exact ⟨rfl, fin s1 s2 _ (by rw [if_neg (fun z => z.elim h0 (fun z => z.elim h5 h6))]) p1 o1 n1 p2 o2 n2⟩
      · conv => whnf
        refine putK a2 rfl (fit_i _) (fun s1 p1 o1 n1 => ?_)
        conv => whnf
        refine jx_no (show ¬ (1 : Int32) = 0 by decide) ?_
        conv => whnf
        refine putK p1 rfl (fit_i _) (fun s2 p2 o2 n2 => ?_)
        conv => whnf
        exact ⟨rfl, fin s1 s2 _ (by rw [if_pos (Or.inr (Or.inr (Decidable.not_not.mp h6)))]) p1 o1 n1 p2 o2 n2⟩
theorem k_setTimer (hR : RelC th B b xl σ f A G T) (hp : (p : Int) < (f.1 7 0).toInt) : jc th (d + 1) 30 [.ref B, .ref (A 6 p)] σ (fun r σ' => r = none ∧ RelC th B b xl σ' (rf_ui f 17 p (f.1 1 0 + 30)) A G T ∧ kp B σ σ') := by
  have hX := hR.X
  obtain ⟨a1, a2, a3, a6⟩ := hR.pe hp
  refine cl_go dt_30 60 [] dt_30_k rfl ?_
  intro C J hC hJ
  conv => whnf
  refine ⟨_, jx_getF_of (hX) rfl, ?_⟩
  conv => whnf
  refine putK a2 rfl (fit_i _) (fun s1 p1 o1 n1 => ?_)
  conv => whnf
  refine ⟨rfl, hR.pe1 hp ?_ o1 n1 (ui_pe ⟨by omega, by omega⟩ (fun _ _ _ => rfl)) rfl (rf_ui_ne (by omega))⟩
  rw [p1]
  simp [cp_e, lim, rf_ui]
section JxLine
variable {P : Nat} {v0 v1 v2 v3 v4 v7 v8 v9 v10 v11 v12 v13 v14 v15 v16 v17 v18 : Value} {o5 o6 : Option Nat}
theorem k_line (h : σ.1 P = some (.inr (6, [v0, v1, v2, v3, v4, va_rf o5, va_rf o6, v7, v8, v9, v10, v11, v12, v13, v14, v15, v16, v17, v18]))) : jc th (d + 1) 62 [.ref P] σ (fun r σ' => r = some (va_rf (o5.or o6)) ∧ σ' = σ) := by
  refine cl_go dt_62 60 [] dt_62_k rfl ?_
  intro C J hC hJ
  cases o5 with
  | none =>
    cases o6 with
    | none =>
      rw [show va_rf none = Value.null from rfl] at h
      conv => whnf
      refine ⟨_, jx_getF_of (h) rfl, ?_⟩
      conv => whnf
      refine ⟨_, jx_getF_of (h) rfl, ?_⟩
      conv => whnf
      exact ⟨rfl, rfl⟩
    | some q =>
      rw [show va_rf none = Value.null from rfl, show va_rf (some q) = Value.ref q from rfl] at h
      conv => whnf
      refine ⟨_, jx_getF_of (h) rfl, ?_⟩
      conv => whnf
      refine ⟨_, jx_getF_of (h) rfl, ?_⟩
      conv => whnf
      exact ⟨rfl, rfl⟩
  | some o =>
    rw [show va_rf (some o) = Value.ref o from rfl] at h
    conv => whnf
    refine ⟨_, jx_getF_of (h) rfl, ?_⟩
    conv => whnf
    refine ⟨_, jx_getF_of (h) rfl, ?_⟩
    conv => whnf
    exact ⟨rfl, rfl⟩
end JxLine
theorem k_isOpen (hR : RelC th B b xl σ f A G T) (hp : (p : Int) < (f.1 7 0).toInt) : jc th (d + 1) 64 [.ref (A 6 p)] σ (fun r σ' => ((r = some (.int 1) ∧ R_open (f.1 11 p)) ∨ (r = some (.int 0) ∧ ¬ R_open (f.1 11 p))) ∧ σ' = σ) := by
  obtain ⟨a1, a2, a3, a6⟩ := hR.pe hp
  refine cl_go dt_64 60 [] dt_64_k rfl ?_
  intro C J hC hJ
  conv => whnf
  refine ⟨_, jx_getF_of (a2) rfl, ?_⟩
  conv => whnf
  refine ⟨fun (h5 : f.1 11 p = 5) => ?_, fun (h5 : ¬ f.1 11 p = 5) => ?_⟩
  · conv => whnf
    exact ⟨Or.inr rfl, Or.inl ⟨rfl, Or.inl h5⟩, rfl⟩
  · conv => whnf
    refine ⟨_, jx_getF_of (a2) rfl, ?_⟩
    conv => whnf
    refine ⟨fun (h6 : ¬ f.1 11 p = 6) => ?_, fun (h6 : ¬ ¬ f.1 11 p = 6) => ?_⟩
    · conv => whnf
      exact ⟨Or.inl rfl, Or.inr ⟨rfl, fun z => z.elim h5 h6⟩, rfl⟩
    · conv => whnf
      exact ⟨Or.inr rfl, Or.inl ⟨rfl, Or.inr (Decidable.not_not.mp h6)⟩, rfl⟩
theorem k_isUsable (hR : RelC th B b xl σ f A G T) (hp : (p : Int) < (f.1 7 0).toInt) : jc th (d + 1) 68 [.ref (A 6 p)] σ (fun r σ' => ((r = some (.int 1) ∧ R_us f p) ∨ (r = some (.int 0) ∧ ¬ R_us f p)) ∧ σ' = σ) := by
  obtain ⟨a1, a2, a3, a6⟩ := hR.pe hp
  refine cl_go dt_68 60 [] dt_68_k rfl ?_
  intro C J hC hJ
  conv => whnf
  refine ⟨_, jx_getF_of (a2) rfl, ?_⟩
  conv => whnf
  refine ⟨fun (h1 : ¬ f.1 15 p = 1) => ?_, fun (h1 : ¬ ¬ f.1 15 p = 1) => ?_⟩
  · conv => whnf
    exact ⟨Or.inl rfl, Or.inr ⟨rfl, fun z => h1 z.2⟩, rfl⟩
  · have h1 := Decidable.not_not.mp h1
    conv => whnf
    refine ⟨_, jx_getF_of (a2) rfl, ?_⟩
    conv => whnf
    refine ⟨fun (h5 : f.1 11 p = 5) => ?_, fun (h5 : ¬ f.1 11 p = 5) => ?_⟩
    · conv => whnf
      exact ⟨Or.inr rfl, Or.inl ⟨rfl, Or.inl h5, h1⟩, rfl⟩
    · conv => whnf
      refine ⟨_, jx_getF_of (a2) rfl, ?_⟩
      conv => whnf
      refine ⟨fun (h6 : ¬ f.1 11 p = 6) => ?_, fun (h6 : ¬ ¬ f.1 11 p = 6) => ?_⟩
      · conv => whnf
        exact ⟨Or.inl rfl, Or.inr ⟨rfl, fun z => z.1.elim h5 h6⟩, rfl⟩
      · conv => whnf
        exact ⟨Or.inr rfl, Or.inl ⟨rfl, Or.inr (Decidable.not_not.mp h6), h1⟩, rfl⟩
end JxPeers
