/-! THE CLASS takes a text out of the message -/
section JxMsgtext3
variable {th : Nat → Nat} {d dd X R L k n m p s a N t ty F : Nat} {σ σ' σ2 : jx_S} {o h g : Nat → Int32} {w z c kv x y rq fv tv : Int32} {Q : Option Value → jx_S → Prop} {e : Nat} {ev : Int32}
theorem copy_q {a0 a n0 n1 c t F : Nat} {f g : Nat → Int32} {mv fv : Int32} {σ : jx_S} (h0 : σ.1 a0 = some (.inl (t, n0, .inl f))) (h1 : σ.1 a = some (.inl (t, n1, .inl g))) (ht : t < 2) (hf : fv.toInt = (F : Int)) (hm : mv.toInt = (c : Int)) (hn0 : F + c ≤ n0) (hn1 : c ≤ n1) : jx_copy σ a0 fv a 0 mv = some (jx_up σ a (.inl (t, n1, .inl (va_cpy f g F 0 c)))) := by
  unfold jx_copy
  rw [h0, h1]
  have z : ¬ mv < 0 := by rw [Int32.lt_iff_toInt_lt, hm]; simp
  have z2 : ¬ fv < 0 := by rw [Int32.lt_iff_toInt_lt, hf]; simp
  have e0 : (0 : Int32).toNatClampNeg = 0 := by decide
  simp only [i32_nat hm, i32_nat hf, e0]
  rw [if_pos ⟨trivial, ht, ⟨z2, by decide, z⟩, by omega, by omega⟩]
theorem k_checkLen (h : fv ≤ tv) : jc th (d + 1) 122 [.int fv, .int tv] σ (fun r σ' => r = none ∧ σ' = σ) := by
  refine cl_go dt_122 20 [] dt_122_k rfl ?_
  intro C J hC hJ
  conv => whnf
  refine jx_yes (h) ?_
  conv => whnf
  exact ⟨rfl, rfl⟩
theorem k_rangeB (hR : σ.1 R = some (.inl (0, n, .inl h))) (hRl : R < σ.2.1) (hf : fv.toInt = (F : Int)) (ht : tv.toInt = ((F + m : Nat) : Int)) (hm : F + m ≤ n) (hn : n ≤ 600) : jc th (d + 2) 121 [.ref R, .int fv, .int tv] σ (fun r σ' => r = some (.ref σ.2.1) ∧ (∃ g : Nat → Int32, σ'.1 σ.2.1 = some (.inl (0, m, .inl g)) ∧ ∀ j, j < m → g j = h (F + j)) ∧ (∀ a, a ≠ σ.2.1 → σ'.1 a = σ.1 a) ∧ σ'.2.1 = σ.2.1 + 1 ∧ σ'.2.2 = σ.2.2 + m) := by
  have hd : (tv - fv).toInt = (m : Int) := by rw [i32_sub ht hf (by omega) (by omega)]; omega
  have hr : (Int32.ofNat n - fv).toInt = ((n - F : Nat) : Int) := by rw [i32_sub (i32_ofNat (by omega)) hf (by omega) (by omega)]; omega
  refine cl_go dt_121 60 [] dt_121_k rfl ?_
  intro C J hC hJ
  conv => whnf
  refine hC _ _ _ _ ((k_checkLen (d := d) (by rw [Int32.le_iff_toInt_le, hf, ht]; omega)).mp ?_)
  rintro r s1 ⟨rfl, hs1⟩
  rw [hs1]
  conv => whnf
  refine ⟨fun z => ?_, ?_⟩
  · rcases z with z | z
    · rw [Int32.lt_iff_toInt_lt, hd] at z
      simp at z
      omega
    · rw [i32_nat hd] at z
      omega
  · conv => whnf
    have hl : (tv - fv).toNatClampNeg = m := i32_nat hd
    rw [show ((fun x y : Int32 => x - y) tv fv).toNatClampNeg = m from hl]
    have hX1 : (jx_mk σ (.inl (0, m, jx_emp 0)) m).1 R = some (.inl (0, n, .inl h)) := by rw [jx_mk_ne (by omega)]; exact hR
    have hN1 : (jx_mk σ (.inl (0, m, jx_emp 0)) m).1 σ.2.1 = some (.inl (0, m, .inl (fun _ => 0))) := jx_mk_eq
    refine ⟨_, jx_al_of hX1, ?_⟩
    conv => whnf
    have hmin : (if tv - fv < Int32.ofNat n - fv then tv - fv else Int32.ofNat n - fv).toInt = (m : Int) := by
      split
      · exact hd
      · rename_i z
        rw [Int32.lt_iff_toInt_lt, hd, hr] at z
        rw [hr]
        omega
    refine ⟨_, copy_q hX1 hN1 (by omega) hf hmin hm (Nat.le_refl _), ?_⟩
    conv => whnf
    refine ⟨rfl, ⟨_, jx_up_eq, fun j hj => ?_⟩, fun a ha => by rw [jx_up_ne ha, jx_mk_ne ha], rfl, rfl⟩
    unfold va_cpy
    rw [if_pos ⟨by omega, by omega⟩, Nat.sub_zero]
theorem k_range (hR : σ.1 R = some (.inl (0, n, .inl h))) (hRl : R < σ.2.1) (hf : fv.toInt = (F : Int)) (hF : F ≠ 0) (ht : tv.toInt = ((F + m : Nat) : Int)) (hm : F + m ≤ n) (hn : n ≤ 600) : jc th (d + 3) 120 [.ref R, .int fv, .int tv] σ (fun r σ' => r = some (.ref σ.2.1) ∧ (∃ g : Nat → Int32, σ'.1 σ.2.1 = some (.inl (0, m, .inl g)) ∧ ∀ j, j < m → g j = h (F + j)) ∧ (∀ a, a ≠ σ.2.1 → σ'.1 a = σ.1 a) ∧ σ'.2.1 = σ.2.1 + 1 ∧ σ'.2.2 = σ.2.2 + m) := by
  refine cl_go dt_120 40 [] dt_120_k rfl ?_
  intro C J hC hJ
  conv => whnf
  refine jx_yes (show ¬ fv = 0 from fun z => hF (by rw [z] at hf; have : (0 : Int) = (F : Int) := hf; omega)) ?_
  conv => whnf
  refine hC _ _ _ _ ((k_rangeB (d := d) hR hRl hf ht hm hn).mp ?_)
  rintro r s1 ⟨rfl, h2⟩
  conv => whnf
  exact ⟨rfl, h2⟩
/-- the first text of a CODE -/
theorem k_textOf (hM : MB σ X R L o w z c ev) (hw : wf o 700 20 L) (hRl : R < σ.2.1) (hp : p = fst o x (top o L)) (hp0 : p ≠ 0) (h9 : 9 ≤ sz o p) : jc th (dd + 4) 119 [.ref X, .int x] σ (fun r σ' => r = some (.ref σ.2.1) ∧ (∃ g : Nat → Int32, σ'.1 σ.2.1 = some (.inl (0, sz o p - 8, .inl g)) ∧ ∀ j, j < sz o p - 8 → g j = o (p + 8 + j)) ∧ (∀ a, a ≠ σ.2.1 → σ'.1 a = σ.1 a) ∧ σ'.2.1 = σ.2.1 + 1 ∧ σ'.2.2 = σ.2.2 + (sz o p - 8)) := by
  have hM0 := hM
  obtain ⟨hX, h6, hXR, h, hR, hj⟩ := hM0
  obtain ⟨b1, b2, b3, b4⟩ := tps_in 700 20 L hw p (by rw [hp]; exact (fst_mem (o := o) (c := x) (top o L) (by rw [← hp]; exact hp0)).1)
  have hpi : (Int32.ofNat p).toInt = (p : Int) := i32_ofNat (by omega)
  have ea : Int32.ofNat p + Int32.ofInt 8 = Int32.ofNat (p + 8) := nadd rfl (by omega)
  refine cl_go dt_119 60 [] dt_119_k rfl ?_
  intro C J hC hJ
  conv => whnf
  refine ⟨_, jx_getF_of (hX) rfl, ?_⟩
  conv => whnf
  refine ⟨jx_isC_of hX, hC _ _ _ _ (((k_find (dd := 0) (k := 700) (p := 20) (x := x) hM (Nat.le_refl L) hw (by omega) (by omega)).up (by omega)).mp ?_)⟩
  rintro r s1 ⟨rfl, hs1⟩
  rw [hs1, show fst o x (tps o 700 20 L) = p from hp.symm]
  conv => whnf
  refine jx_yes (show ¬ Int32.ofNat p = 0 from ofN_ne hp0 (by omega)) ?_
  conv => whnf
  refine ⟨jx_isC_of hX, hC _ _ _ _ (((k_dataSize (d := 0) (k := p) hM hpi b2 b3).up (by omega)).mp ?_)⟩
  rintro r s2 ⟨rfl, hs2⟩
  rw [hs2]
  conv => whnf
  refine jx_no (show ¬ Int32.ofNat (sz o p - 8) ≤ 0 from fun y => by rw [show (0 : Int32) = Int32.ofNat 0 from rfl, nle (by omega) (by omega)] at y; omega) ?_
  conv => whnf
  refine jx_no (show ¬ Int32.ofNat p + Int32.ofInt 8 < 0 from fun y => by rw [ea, show (0 : Int32) = Int32.ofNat 0 from rfl, nlt (by omega) (by omega)] at y; omega) ?_
  conv => whnf
  refine ⟨_, jx_getF_of (hX) rfl, ?_⟩
  conv => whnf
  refine ⟨_, jx_al_of (hR), ?_⟩
  conv => whnf
  have es : Int32.ofNat 600 - Int32.ofNat (sz o p - 8) = Int32.ofNat (600 - (sz o p - 8)) := i32_eq (by rw [i32_sub (i32_ofNat (by omega)) (i32_ofNat (by omega)) (by omega) (by omega)]; omega) (by omega)
  refine jx_yes (show Int32.ofNat p + Int32.ofInt 8 ≤ Int32.ofNat 600 - Int32.ofNat (sz o p - 8) by rw [ea, es, nle (by omega) (by omega)]; omega) ?_
  conv => whnf
  refine ⟨_, jx_getF_of (hX) rfl, ?_⟩
  conv => whnf
  have h8i : (Int32.ofNat p + Int32.ofInt 8).toInt = ((p + 8 : Nat) : Int) := i32_k1 (j := 8) hpi (by decide) (by omega)
  refine hC _ _ _ _ (((k_range (d := 0) (m := sz o p - 8) hR hRl h8i (by omega) (i32_k1 h8i (i32_ofNat (by omega)) (by omega)) (by omega) (by omega)).up (by omega)).mp ?_)
  rintro r s3 ⟨rfl, ⟨g, g1, g2⟩, g3⟩
  conv => whnf
  exact ⟨rfl, ⟨g, g1, fun j hj' => by rw [g2 j hj']; exact hj _ (by omega)⟩, g3⟩
end JxMsgtext3
