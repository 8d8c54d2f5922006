/-! THE CLASS: connections are closed -/
theorem rf_ui_id {f : jx_F} {k j : Nat} : rf_ui f k j (f.1 k j) = f := by
  refine Prod.ext (funext fun q => funext fun i => ?_) rfl
  show (if q = k ∧ i = j then f.1 k j else f.1 q i) = f.1 q i
  split
  · rename_i h; rw [h.1, h.2]
  · rfl
section JxClose
variable {th : Nat → Nat} {d B b p c cN : Nat} {xl : List Int32} {σ σ' : jx_S} {f f' : jx_F} {A : Nat → Nat → Nat} {G : Nat → Nat → Int32} {T : Nat → Nat}
theorem R_shut0_o {q j : Nat} (h : ¬ ((q = 26 ∨ q = 27 ∨ q = 28 ∨ q = 30) ∧ j = c)) : (R_shut0 f c).1 q j = f.1 q j := by
  unfold R_shut0
  rw [rf_ui_ne (by omega), rf_ui_ne (by omega), rf_ui_ne (by omega), rf_ui_ne (by omega)]
theorem R_shut0_v : (R_shut0 f c).1 26 c = 0 ∧ (R_shut0 f c).1 27 c = 0 ∧ (R_shut0 f c).1 28 c = 0 ∧ (R_shut0 f c).1 30 c = 0 := by
  simp [R_shut0, rf_ui]
theorem R_shut0_u {k j : Nat} {x : Int32} (h1 : k ≠ 26) (h2 : k ≠ 27) (h3 : k ≠ 28) (h4 : k ≠ 30) : R_shut0 (rf_ui f k j x) c = rf_ui (R_shut0 f c) k j x := by
  unfold R_shut0
  rw [rf_ui_comm h1, rf_ui_comm h2, rf_ui_comm h3, rf_ui_comm h4]
theorem i32_p1 {x : Int32} (hp4 : p < 4) (h : x = Int32.ofNat (p + 1)) : ¬ x = 0 ∧ x.toNatClampNeg - 1 = p := by
  have e : x.toInt = ((p + 1 : Nat) : Int) := by rw [h, i32_ofNat (by omega)]
  refine ⟨fun z => ?_, by rw [i32_nat e]; omega⟩
  rw [z] at e
  have : (0 : Int32).toInt = 0 := by decide
  omega
theorem R_shut_own (hp4 : p < 4) (h27 : f.1 27 cN = Int32.ofNat (p + 1)) (h28 : f.1 28 cN = 1) : R_shut f cN = rf_ui (R_shut0 f cN) 13 p 0 := by
  obtain ⟨h1, h2⟩ := i32_p1 hp4 h27
  unfold R_shut R_shutp
  rw [if_neg h1, h2, if_pos h28, if_neg (by rw [h28]; decide), show f.1 14 p = (rf_ui f 13 p 0).1 14 p from (rf_ui_ne (by omega)).symm, rf_ui_id, R_shut0_u (by omega) (by omega) (by omega) (by omega)]
theorem R_shut_came (hp4 : p < 4) (h27 : f.1 27 cN = Int32.ofNat (p + 1)) (h28 : f.1 28 cN = 2) : R_shut f cN = rf_ui (R_shut0 f cN) 14 p 0 := by
  obtain ⟨h1, h2⟩ := i32_p1 hp4 h27
  unfold R_shut R_shutp
  rw [if_neg h1, h2, if_neg (by rw [h28]; decide), if_pos h28, rf_ui_id, R_shut0_u (by omega) (by omega) (by omega) (by omega)]
theorem R_shut_no (h27 : f.1 27 cN = 0) : R_shut f cN = R_shut0 f cN := by
  unfold R_shut
  rw [if_pos h27]
theorem k_close (hR : RelC th B b xl σ f A G T) (hc : c < 8) : jc th (d + 1) 58 [.ref (B + 14 + 3 * c)] σ (fun r σ' => r = none ∧ RelC th B b xl σ' (R_shut0 f (c + 1)) A G T ∧ kp B σ σ') := by
  obtain ⟨hce, hrow⟩ := hR.2.2.1 c hc
  obtain ⟨v26, v27, v28, v30⟩ := R_shut0_v (f := f) (c := c + 1)
  refine cl_go dt_58 60 [] dt_58_k rfl ?_
  intro C J hC hJ
  conv => whnf
  refine putK hce rfl (fit_i _) (fun s1 p1 o1 n1 => ?_)
  conv => whnf
  refine putK p1 rfl (fit_o _ rfl) (fun s2 p2 o2 n2 => ?_)
  conv => whnf
  refine putK p2 rfl (fit_i _) (fun s3 p3 o3 n3 => ?_)
  conv => whnf
  refine putK p3 rfl (fit_i _) (fun s4 p4 o4 n4 => ?_)
  conv => whnf
  have os : ∀ q, q ≠ B + 14 + 3 * c → s4.1 q = σ.1 q := fun q hq => by rw [o4 q hq, o3 q hq, o2 q hq, o1 q hq]
  have ns : s4.2 = σ.2 := by rw [n4, n3, n2, n1]
  refine ⟨rfl, hR.out hc (fun q q1 _ => os q q1) ns (fun q j h1 _ _ _ _ => R_shut0_o (fun e => h1 ⟨by rcases e.1 with z | z | z | z <;> rw [z] <;> decide, e.2⟩)) (fun _ _ _ _ => rfl) (fun _ _ _ => rfl) ⟨?_, ?_⟩, ns, fun q q1 q2 => os q (by omega)⟩
  · rw [p4]
    unfold cc_e
    rw [v26, v27, v28, v30, R_shut0_o (q := 32) (by omega), R_shut0_o (q := 33) (by omega)]
    rfl
  · rw [v26, v30, R_shut0_o (q := 32) (by omega), R_shut0_o (q := 33) (by omega)]
    rcases hrow with ⟨e1, e2, ⟨y1, e3⟩, ⟨y2, e4⟩, e5, e6, e7⟩ | ⟨e1, e2, ⟨y1, n1, e3, e4, e5, e6⟩, y2, a2, z2, e7, e8, e9, e10, e11, e12⟩
    · exact Or.inl ⟨e1, e2, ⟨y1, by rw [os _ (by omega)]; exact e3⟩, ⟨y2, by rw [os _ (by omega)]; exact e4⟩, rfl, rfl, e7⟩
    · refine Or.inr ⟨⟨e1.1, by rw [ns]; exact e1.2.1, e1.2.2⟩, ⟨e2.1, by rw [ns]; exact e2.2.1, e2.2.2⟩, ⟨y1, 0, by rw [os _ (by have := e1.1; omega)]; exact e3, by decide, by omega, fun j hj => by omega⟩, y2, a2, z2, by rw [os _ (by have := e2.1; omega)]; exact e7, e8, e9, e10, e11, fun i hi => ?_⟩
      rw [R_shut0_o (q := 31) (by omega)]
      exact e12 i hi
theorem cc_ref_0 : cc_ref B 0 = none := if_pos rfl
theorem cc_ref_c {x : Int32} (h : x.toInt = ((c + 1 : Nat) : Int)) : cc_ref B x = some (B + 14 + 3 * c) := by
  unfold cc_ref
  rw [if_neg (fun z => by rw [z] at h; have : (0 : Int32).toInt = 0 := by decide
                          omega), i32_nat h]
  rfl
theorem k_dropOwn0 (hR : RelC th B b xl σ f A G T) (hp : (p : Int) < (f.1 7 0).toInt) (h13 : f.1 13 p = 0) : jc th (d + 2) 57 [.ref (A 6 p)] σ (fun r σ' => r = none ∧ σ' = σ) := by
  have a2 := (hR.pe hp).2.1
  unfold cp_e at a2
  rw [h13, cc_ref_0, show va_rf none = Value.null from rfl] at a2
  refine cl_go dt_57 60 [] dt_57_k rfl ?_
  intro C J hC hJ
  conv => whnf
  refine ⟨_, jx_getF_of (a2) rfl, ?_⟩
  conv => whnf
  exact ⟨rfl, rfl⟩
theorem k_dropCame0 (hR : RelC th B b xl σ f A G T) (hp : (p : Int) < (f.1 7 0).toInt) (h14 : f.1 14 p = 0) : jc th (d + 2) 152 [.ref (A 6 p)] σ (fun r σ' => r = none ∧ σ' = σ) := by
  have a2 := (hR.pe hp).2.1
  unfold cp_e at a2
  rw [h14, cc_ref_0, show va_rf none = Value.null from rfl] at a2
  refine cl_go dt_152 60 [] dt_152_k rfl ?_
  intro C J hC hJ
  conv => whnf
  refine ⟨_, jx_getF_of (a2) rfl, ?_⟩
  conv => whnf
  exact ⟨rfl, rfl⟩
theorem k_dropOwn (hR : RelC th B b xl σ f A G T) (hp : (p : Int) < (f.1 7 0).toInt) (hc : c < 8) (h13 : (f.1 13 p).toInt = ((c + 1 : Nat) : Int)) : jc th (d + 2) 57 [.ref (A 6 p)] σ (fun r σ' => r = none ∧ RelC th B b xl σ' (rf_ui (R_shut0 f (c + 1)) 13 p 0) A G T ∧ kp B σ σ') := by
  have a2 := (hR.pe hp).2.1
  unfold cp_e at a2
  rw [cc_ref_c h13, show va_rf (some (B + 14 + 3 * c)) = Value.ref (B + 14 + 3 * c) from rfl] at a2
  refine cl_go dt_57 60 [] dt_57_k rfl ?_
  intro C J hC hJ
  conv => whnf
  refine ⟨_, jx_getF_of (a2) rfl, ?_⟩
  conv => whnf
  refine ⟨_, jx_getF_of (a2) rfl, ?_⟩
  conv => whnf
  refine ⟨jx_isC_of (hR.2.2.1 c hc).1, hC _ _ _ _ ((k_close (d := d) hR hc).mp ?_)⟩
  rintro r s1 ⟨rfl, hR1, hk1⟩
  have hp1 : (p : Int) < ((R_shut0 f (c + 1)).1 7 0).toInt := by rw [R_shut0_o (by omega)]; exact hp
  have b2 := (hR1.pe hp1).2.1
  conv => whnf
  refine putK b2 rfl (fit_o _ rfl) (fun s2 p2 o2 n2 => ?_)
  conv => whnf
  obtain ⟨hR2, hk2⟩ := hR1.pe1 (σ' := s2) (f' := rf_ui (R_shut0 f (c + 1)) 13 p 0) hp1 (by rw [p2]; simp [cp_e, lim, rf_ui, cc_ref_0, va_rf]) o2 n2 (ui_pe ⟨by omega, by omega⟩ (fun _ _ _ => rfl)) rfl (rf_ui_ne (by omega))
  exact ⟨rfl, hR2, hk1.tr hk2⟩
theorem k_dropCame (hR : RelC th B b xl σ f A G T) (hp : (p : Int) < (f.1 7 0).toInt) (hc : c < 8) (h14 : (f.1 14 p).toInt = ((c + 1 : Nat) : Int)) : jc th (d + 2) 152 [.ref (A 6 p)] σ (fun r σ' => r = none ∧ RelC th B b xl σ' (rf_ui (R_shut0 f (c + 1)) 14 p 0) A G T ∧ kp B σ σ') := by
  have a2 := (hR.pe hp).2.1
  unfold cp_e at a2
  rw [cc_ref_c h14, show va_rf (some (B + 14 + 3 * c)) = Value.ref (B + 14 + 3 * c) from rfl] at a2
  refine cl_go dt_152 60 [] dt_152_k rfl ?_
  intro C J hC hJ
  conv => whnf
  refine ⟨_, jx_getF_of (a2) rfl, ?_⟩
  conv => whnf
  refine ⟨_, jx_getF_of (a2) rfl, ?_⟩
  conv => whnf
  refine ⟨jx_isC_of (hR.2.2.1 c hc).1, hC _ _ _ _ ((k_close (d := d) hR hc).mp ?_)⟩
  rintro r s1 ⟨rfl, hR1, hk1⟩
  have hp1 : (p : Int) < ((R_shut0 f (c + 1)).1 7 0).toInt := by rw [R_shut0_o (by omega)]; exact hp
  have b2 := (hR1.pe hp1).2.1
  conv => whnf
  refine putK b2 rfl (fit_o _ rfl) (fun s2 p2 o2 n2 => ?_)
  conv => whnf
  obtain ⟨hR2, hk2⟩ := hR1.pe1 (σ' := s2) (f' := rf_ui (R_shut0 f (c + 1)) 14 p 0) hp1 (by rw [p2]; simp [cp_e, lim, rf_ui, cc_ref_0, va_rf]) o2 n2 (ui_pe ⟨by omega, by omega⟩ (fun _ _ _ => rfl)) rfl (rf_ui_ne (by omega))
  exact ⟨rfl, hR2, hk1.tr hk2⟩
end JxClose
