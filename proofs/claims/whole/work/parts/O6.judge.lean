/-! THE CLASS: what a CREDIT does -/
section JxJudge
variable {th : Nat → Nat} {B b d m s ac i n k bb L X S H Z nA mm p : Nat} {xl : List Int32} {σ σ' : jx_S} {f f' F : jx_F} {A A' : Nat → Nat → Nat} {G : Nat → Nat → Int32} {T T' : Nat → Nat} {o : Nat → Int32} {t pv x : Int32} {gr en : Int64}
theorem m32_nn (x : Int32) : 0 ≤ (x.toInt64 &&& 4294967295).toInt := by
  have h : (x.toInt64 &&& 4294967295).toBitVec.toNat ≤ 4294967295 := by
    show (x.toInt64.toBitVec &&& 4294967295#64).toNat ≤ 4294967295
    rw [BitVec.toNat_and]
    exact Nat.and_le_right
  show 0 ≤ (x.toInt64 &&& 4294967295).toBitVec.toInt
  rw [BitVec.toInt_eq_toNat_cond]
  split <;> omega
theorem bad_iff (hE : CRE o L bb f) : ¬ R_cbad f ↔ ((1 ≤ (c_typ o L).toInt ∧ (c_typ o L).toInt ≤ 4) ∧ ¬ c_ur o L = 0 ∧ (c_typ o L = 4 → 0 ≤ (c_act o L).toInt ∧ (c_act o L).toInt ≤ 2)) := by
  have e1 := typ_c hE
  have e3 : R_un f 83 0 = c_un o L 437 0 := hE.1.2.2.2.2.1 0
  have e4 : R_un f 84 0 = c_un o L 446 0 := hE.1.2.2.2.2.2.1 0
  have e8 := hE.1.2.2.1
  have ea : ¬ f.1 79 8 = 0 → c_act o L = R_act f := fun z => by
    have z' : ¬ fst o 436 (top o L) = 0 := fun y => z (e8.mpr y)
    unfold c_act R_act
    rw [if_neg z', hE.1.2.2.2.1 z']
  have e0 : f.1 79 8 = 0 → (c_act o L).toInt = -1 := fun z => by
    unfold c_act
    rw [if_pos (e8.mp z)]
    decide
  have nn : 0 ≤ (R_act f).toInt := m32_nn _
  have eur : ¬ c_ur o L = 0 ↔ ((0 ≤ (c_un o L 437 0).toInt ∧ (c_un o L 437 0).toInt ≤ 1152921504606846976) ∧ 0 ≤ (c_un o L 446 0).toInt ∧ (c_un o L 446 0).toInt ≤ 1152921504606846976) := by
    unfold c_ur
    split
    · rename_i h
      exact ⟨fun _ => h, fun _ => by decide⟩
    · rename_i h
      exact ⟨fun z => absurd rfl z, fun z => absurd z h⟩
  rw [eur]
  unfold R_cbad
  rw [e1, e3, e4]
  constructor
  · intro h
    refine ⟨⟨?_, ?_⟩, ⟨⟨?_, ?_⟩, ?_, ?_⟩, fun h4 => ?_⟩
    · exact Int.not_lt.mp (fun z => h (Or.inl (by omega)))
    · exact Int.not_lt.mp (fun z => h (Or.inr (Or.inl (by omega))))
    · exact Int.not_lt.mp (fun z => h (Or.inr (Or.inr (Or.inl (by omega)))))
    · exact Int.not_lt.mp (fun z => h (Or.inr (Or.inr (Or.inr (Or.inl (by omega))))))
    · exact Int.not_lt.mp (fun z => h (Or.inr (Or.inr (Or.inr (Or.inr (Or.inl (by omega)))))))
    · exact Int.not_lt.mp (fun z => h (Or.inr (Or.inr (Or.inr (Or.inr (Or.inr (Or.inl (by omega))))))))
    · have h9 : ¬ f.1 79 8 = 0 := fun z => h (Or.inr (Or.inr (Or.inr (Or.inr (Or.inr (Or.inr ⟨h4, Or.inl z⟩))))))
      rw [ea h9]
      exact ⟨nn, Int.not_lt.mp (fun z => h (Or.inr (Or.inr (Or.inr (Or.inr (Or.inr (Or.inr ⟨h4, Or.inr z⟩)))))))⟩
  · rintro ⟨⟨h1, h2⟩, ⟨⟨h3, h4⟩, h5, h6⟩, h7⟩ hb
    rcases hb with hb | hb | hb | hb | hb | hb | ⟨hb, hb2⟩
    · omega
    · omega
    · omega
    · omega
    · omega
    · omega
    · obtain ⟨y1, y2⟩ := h7 hb
      by_cases z : f.1 79 8 = 0
      · rw [e0 z] at y1
        omega
      · rw [ea z] at y2
        rcases hb2 with hb2 | hb2
        · exact z hb2
        · omega
theorem MI.dec (h : MI f) (hc : R_cok f bb nA mm) : MI (R_dec f nA mm pv).2 := by
  have n16 := hc.2.2.2.1
  have h35 := hc.2.2.1
  have h40 := hc.2.2.2.2.1
  have m16 := hc.2.2.2.2.2.1
  have hsb : R_sub f nA ≠ 16 → R_sub f nA < nA := fun z => by
    unfold R_sub at z ⊢
    cases hw : R_who f with
    | none => rw [hw] at z; exact absurd rfl z
    | some v =>
      rw [hw] at z
      have := R_ac_r (f := f) (v := v) nA 0 z
      show R_ac f v nA 0 < nA
      omega
  unfold R_dec
  by_cases hb : R_cbad f
  · rw [if_pos hb]; exact h
  rw [if_neg hb]
  have u3 : 0 ≤ (R_un f 83 0).toInt := Int.not_lt.mp (fun z => hb (Or.inr (Or.inr (Or.inl z))))
  have u3' : (R_un f 83 0).toInt ≤ 1152921504606846976 := Int.not_lt.mp (fun z => hb (Or.inr (Or.inr (Or.inr (Or.inl z)))))
  have u4 : 0 ≤ (R_un f 84 0).toInt := Int.not_lt.mp (fun z => hb (Or.inr (Or.inr (Or.inr (Or.inr (Or.inl z))))))
  split
  · unfold R_fst
    split
    · exact h
    rename_i hs
    split
    · exact h
    rename_i hs2
    split
    · exact h
    exact h.beg h35 h40 (by omega) (hsb hs) u3
  split
  · exact h.evt h35 n16 u3 u3' hsb
  · exact h.gon h40 m16 u4 u3
theorem k_judge (hR : RelC th B b xl σ f A G T) (hE : CRE o L bb f) (hX : CX B σ T X S H Z (.ref (A 6 p)) (f.1 1 0) o L gr en) (hm : (f.1 40 0).toInt = (mm : Int)) (hn : (f.1 35 0).toInt = (nA : Int)) (hM : MI f) (hT : TE f gr en) (hl0 : c_len o L 263 ≤ 40) (hl1 : c_len o L 264 ≤ 40) (hl2 : c_len o L 296 ≤ 40) (hp : (p : Int) < (f.1 7 0).toInt) (hp4 : p < 4) (hpv : pv = Int32.ofNat p) : jc th (d + 8) 128 [.ref (B + 6), .ref X] σ (fun r σ' => r = some (.int (R_dec f nA mm pv).1) ∧ ∃ A' T' gr' en', RelC th B b xl σ' (R_dec f nA mm pv).2 A' G T' ∧ CX B σ' T' X S H Z (.ref (A 6 p)) (f.1 1 0) o L gr' en' ∧ TE (R_dec f nA mm pv).2 gr' en' ∧ σ'.2.1 ≤ σ.2.1 + 2 ∧ σ'.2.2 ≤ σ.2.2 + 208 ∧ (∀ q i, ¬ (q = 8 ∨ q = 81 ∨ q = 82 ∨ q = 83 ∨ (q = 70 ∧ i = 4)) → A' q i = A q i) ∧ chg (WL B σ T) σ σ' T T') := by
  have hL := hR.1.2.2.2.2.2.2.2.2.2.1
  have hx := hX.2.1
  have hXd := hX.1
  have hbi := bad_iff hE
  refine cl_go dt_128 90 [] dt_128_k rfl ?_
  intro C J hC hJ
  conv => whnf
  refine ⟨jx_isC_of hx, hC _ _ _ _ (((k_isRight (d := d) hX).up (by omega)).mp ?_)⟩
  rintro r s1 ⟨hr, hs1⟩
  rw [hs1]
  unfold R_dec
  rcases hr with ⟨rfl, hr⟩ | ⟨rfl, hr⟩
  · have nb : ¬ R_cbad f := hbi.mpr hr
    rw [if_neg nb]
    obtain ⟨-, hur, hact⟩ := hr
    have u3 : 0 ≤ (c_un o L 437 0).toInt := by
      have := Int.not_lt.mp (fun z => nb (Or.inr (Or.inr (Or.inl z))))
      rw [show R_un f 83 0 = c_un o L 437 0 from hE.1.2.2.2.2.1 0] at this
      exact this
    have u4 : 0 ≤ (c_un o L 446 0).toInt := by
      have := Int.not_lt.mp (fun z => nb (Or.inr (Or.inr (Or.inr (Or.inr (Or.inl z))))))
      rw [show R_un f 84 0 = c_un o L 446 0 from hE.1.2.2.2.2.2.1 0] at this
      exact this
    conv => whnf
    refine jx_yes (show ¬ (1 : Int32) = 0 by decide) ?_
    conv => whnf
    refine ⟨_, jx_getF_of (hx) rfl, ?_⟩
    conv => whnf
    refine ⟨fun (h3 : ¬ lg_cmp (c_typ o L) 1 = 0) => ?_, fun (h3 : ¬ ¬ lg_cmp (c_typ o L) 1 = 0) => ?_⟩
    · rw [if_neg (by rw [typ_c hE]; exact fun z => h3 (lg_cmp_z.mpr z))]
      conv => whnf
      refine ⟨_, jx_getF_of (hx) rfl, ?_⟩
      conv => whnf
      refine ⟨fun (h4 : ¬ lg_cmp (c_typ o L) 4 = 0) => ?_, fun (h4 : ¬ ¬ lg_cmp (c_typ o L) 4 = 0) => ?_⟩
      · rw [if_neg (by rw [typ_c hE]; exact fun z => h4 (lg_cmp_z.mpr z))]
        conv => whnf
        refine ⟨jx_isC_of hL, hC _ _ _ _ (((k_goOn (d := d) hR hE hX hm hM u3 u4 hT hl0 hl1 hl2 hp hp4 hpv).up (by omega)).mp ?_)⟩
        rintro r s2 ⟨rfl, A', gr', en', y1, y2, y3, y4, y5, y6⟩
        conv => whnf
        exact ⟨rfl, A', T, gr', en', y1, y2, y3, by rw [y4]; omega, by rw [y4]; omega, fun q i z => y5 q i (by omega), y6⟩
      · have e4 := lg_cmp_z.mp (Decidable.not_not.mp h4)
        rw [if_pos (by rw [typ_c hE]; exact e4)]
        conv => whnf
        refine ⟨jx_isC_of hL, hC _ _ _ _ (((k_doOnce (d := d) hR hE hX hn u3 (hact e4).1 hT).up (by omega)).mp ?_)⟩
        rintro r s2 ⟨rfl, gr', en', y1, y2, y3, y4, y5⟩
        conv => whnf
        refine ⟨rfl, A, T, gr', en', y1, y2, y3, by rw [y4]; omega, by rw [y4]; omega, fun q i z => rfl, y5.mono (fun a _ h => ?_)⟩
        rcases h with ⟨i, hi, h⟩ | h
        · obtain ⟨x, a1, a2, a3, a4⟩ := id hR.2.2.2.2.2.2.1
          exact Or.inr ⟨3000 + i, by rw [h]; exact (a4 i (by omega)).1, Or.inr (Or.inr (Or.inr ⟨by omega, by omega⟩))⟩
        · exact Or.inr ⟨7, by rw [h]; exact hXd, Or.inr (Or.inr (Or.inl rfl))⟩
    · rw [if_pos (by rw [typ_c hE]; exact lg_cmp_z.mp (Decidable.not_not.mp h3))]
      conv => whnf
      refine ⟨jx_isC_of hL, hC _ _ _ _ ((k_beginL (d := d) hR hE hX hm hn hM u3 hT hl0 hl1 hl2 hp hp4 hpv).mp ?_)⟩
      rintro r s2 ⟨rfl, y⟩
      conv => whnf
      exact ⟨rfl, y⟩
  · have nb : R_cbad f := Classical.byContradiction (fun z => hr (hbi.mp z))
    rw [if_pos nb]
    conv => whnf
    refine jx_no (show ¬ ¬ (0 : Int32) = 0 by decide) ?_
    conv => whnf
    exact ⟨rfl, A, T, gr, en, hR, hX, hT, by omega, by omega, fun _ _ _ => rfl, ⟨fun _ _ _ => rfl, Nat.le_refl _, fun _ _ => rfl⟩⟩
end JxJudge
