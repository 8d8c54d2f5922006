/-! THE PAIR kept: the class, and both -/
section JxKept2
variable {th : Nat → Nat} {B b m d k n : Nat} {xl : List Int32} {σ σ' σ0 : jx_S} {f f' : jx_F} {A A' : Nat → Nat → Nat} {G : Nat → Nat → Int32} {T : Nat → Nat} {Q : Option Value → jx_S → Prop}
/-- times of the KEPT ANSWERS -/
def KT (f : jx_F) (n : Nat) : Prop := ∀ i, i < n → ∃ t : Nat, (f.1 64 i).toInt = ((t + 240 : Nat) : Int) ∧ (t : Int) ≤ (f.1 1 0).toInt
theorem KT.old (h : KT f (n + 1)) : KT (R_oldest f (n + 1)) n := fun i hi => by
  rw [R_oldest_6 (by omega) (by omega), R_oldest_o (by omega)]
  exact h (i + 1) (by omega)
theorem k_forget_l : ∀ (n : Nat) (nv : Int32) (f : jx_F) (A : Nat → Nat → Nat) (σ : jx_S), (f.1 59 0).toInt = (n : Int) → nv.toInt = (n : Int) → n ≤ 32 → KT f n → RelC th B b xl σ f A G T → (∀ σ' A', RelC th B b xl σ' (R_stale n f) A' G T → (∀ q i, ¬ (q = 9 ∨ q = 91 ∨ q = 92) → A' q i = A q i) → kp B σ σ' → (∀ q, q ≠ B + 5 → q ≠ A 70 2 → σ'.1 q = σ.1 q) → Q none σ') → cl_fj th (d + 3) 114 10 [(0, .ref B), (1, .int nv)] [] σ Q
  | 0, nv, f, A, σ, hn, hv, h32, hK, hR, h => by
    refine cl_at dt_114 60 [] dt_114_k ?_
    intro C J hC hJ
    conv => whnf
    refine jx_yes (show nv ≤ 0 by rw [Int32.le_iff_toInt_le, hv]; decide) ?_
    conv => whnf
    exact h σ A hR (fun _ _ _ => rfl) kp.rf (fun _ _ _ => rfl)
  | n + 1, nv, f, A, σ, hn, hv, h32, hK, hR, h => by
    obtain ⟨n0, m1, m2, hal, hinj, hke⟩ := id hR.2.2.2.2.2.1
    have en : n0 = n + 1 := by omega
    rw [en] at hal hke
    clear hinj m1 m2 en
    have hal0 := hal
    obtain ⟨⟨mc, hl⟩, -⟩ := hal
    rw [List.length_map, List.length_range] at hl
    have hkc := (hke 0 (by omega)).2.2.1
    obtain ⟨t, ht1, ht2⟩ := hK 0 (by omega)
    have htm : (f.1 64 0 - 240).toInt = (t : Int) := by
      have := Int32.toInt_lt (f.1 64 0)
      rw [i32_sub ht1 (show (240 : Int32).toInt = 240 by decide) (by omega) (by omega)]
      omega
    have hnt : (f.1 1 0 - (f.1 64 0 - 240)).toInt = (f.1 1 0).toInt - (t : Int) := by
      have := Int32.toInt_lt (f.1 1 0)
      exact i32_sub rfl htm (by omega) (by omega)
    have e240 : (240 : Int32).toInt = 240 := by decide
    refine cl_at dt_114 60 [(10, [0, 1])] dt_114_k ?_
    intro C J hC hJ
    conv => whnf
    refine jx_no (show ¬ nv ≤ 0 by rw [Int32.le_iff_toInt_le, hv, show (0 : Int32).toInt = 0 by decide]; omega) ?_
    conv => whnf
    refine ⟨_, jx_getF_of (hR.X) rfl, ?_⟩
    conv => whnf
    refine ⟨_, jx_getF_of (hR.X) rfl, ?_⟩
    conv => whnf
    refine ⟨jx_isC_of hl, hC _ _ _ _ ((k_get (d := d) hal0 (show (0 : Int32).toInt = ((0 : Nat) : Int) by decide) (by simp : ((List.range (n + 1)).map (A 9))[0]? = some (A 9 0))).mp ?_)⟩
    rintro r σ2 ⟨rfl, hs2⟩
    rw [hs2]
    conv => whnf
    refine ⟨jx_cast_of hkc (by decide +kernel), ?_⟩
    conv => whnf
    refine ⟨_, jx_getF_of (hkc) rfl, ?_⟩
    conv => whnf
    refine ⟨fun (h1 : 240 ≤ f.1 1 0 - (f.1 64 0 - 240)) => ?_, fun (h1 : ¬ 240 ≤ f.1 1 0 - (f.1 64 0 - 240)) => ?_⟩
    · rw [Int32.le_iff_toInt_le, hnt, e240] at h1
      have e : R_stale (n + 1) f = R_stale n (R_oldest f (n + 1)) := if_pos (by rw [Int32.le_iff_toInt_le, ht1]; omega)
      rw [e] at h
      conv => whnf
      refine ⟨_, jx_getF_of (hR.X) rfl, ?_⟩
      conv => whnf
      refine ⟨jx_isC_of hl, hC _ _ _ _ ((k_oldest (d := d) (i := 0) hR hn (by decide)).mp ?_)⟩
      rintro r σ3 ⟨⟨x, rfl⟩, A', hR3, hA3, hk3, hf3⟩
      conv => whnf
      refine hJ _ _ _ _ (k_forget_l n _ (R_oldest f (n + 1)) A' σ3 (by rw [R_oldest_59]; exact i32_59 hn) ?_ (by omega) hK.old hR3 (fun σ' A'' g1 g2 g3 g4 => h σ' A'' g1 (fun q i hq => (g2 q i hq).trans (hA3 q i hq)) (hk3.tr g3) (fun q q1 q2 => (g4 q q1 (by rw [hA3 70 2 (by omega)]; exact q2)).trans (hf3 q q1 q2))))
      rw [i32_add (c := -1) hv (by decide) (by omega) (by omega)]
      omega
    · rw [Int32.le_iff_toInt_le, hnt, e240] at h1
      have e : R_stale (n + 1) f = f := if_neg (by rw [Int32.le_iff_toInt_le, ht1]; omega)
      rw [e] at h
      conv => whnf
      exact h σ A hR (fun _ _ _ => rfl) kp.rf (fun _ _ _ => rfl)
theorem k_forget (hR : RelC th B b xl σ f A G T) (hn : (f.1 59 0).toInt = (n : Int)) (h32 : n ≤ 32) (hK : KT f n) : jc th (d + 4) 114 [.ref B] σ (fun r σ' => r = none ∧ ∃ A', RelC th B b xl σ' (R_stale n f) A' G T ∧ (∀ q i, ¬ (q = 9 ∨ q = 91 ∨ q = 92) → A' q i = A q i) ∧ kp B σ σ' ∧ ∀ q, q ≠ B + 5 → q ≠ A 70 2 → σ'.1 q = σ.1 q) := by
  obtain ⟨n0, m1, m2, hal, hinj, hke⟩ := id hR.2.2.2.2.2.1
  have en : n0 = n := by omega
  subst en
  obtain ⟨⟨mc, hl⟩, -⟩ := hal
  rw [List.length_map, List.length_range] at hl
  refine cl_go dt_114 60 [(10, [0, 1])] dt_114_k rfl ?_
  intro C J hC hJ
  conv => whnf
  refine ⟨_, jx_getF_of (hR.X) rfl, ?_⟩
  conv => whnf
  refine ⟨jx_isC_of hl, hC _ _ _ _ (((k_size (d := d) hl).up (by omega)).mp ?_)⟩
  rintro r σ1 ⟨rfl, hs1⟩
  rw [hs1]
  conv => whnf
  exact hJ _ _ _ _ (k_forget_l n0 _ f A σ hn (i32_ofNat (by omega)) h32 hK hR (fun σ' A' g1 g2 g3 g4 => ⟨rfl, A', g1, g2, g3, g4⟩))
theorem R_stale_n : ∀ (n : Nat) (f : jx_F), (f.1 59 0).toInt = (n : Int) → KT f n → ∃ n' : Nat, ((R_stale n f).1 59 0).toInt = (n' : Int) ∧ n' ≤ n ∧ KT (R_stale n f) n'
  | 0, f, h, hK => ⟨0, h, Nat.le_refl _, hK⟩
  | n + 1, f, h, hK => by
    unfold R_stale
    split
    · obtain ⟨n', e1, e2, e3⟩ := R_stale_n n (R_oldest f (n + 1)) (by rw [R_oldest_59]; exact i32_59 h) hK.old
      exact ⟨n', e1, by omega, e3⟩
    · exact ⟨n + 1, h, Nat.le_refl _, hK⟩
theorem PI.kt (hI : PI f G k) (hn : (f.1 59 0).toInt = (n : Int)) : KT f n := fun i hi => by
  obtain ⟨n', a, h1, h2, h3, h4, h5, h6, h7, h8, h9, h10, j1, j2, j3, j4, j5⟩ := hI
  exact j4 i (by omega)
theorem PI.stale {G' : Nat → Nat → Int32} (hI : PI f G k) (hn : (f.1 59 0).toInt = (n : Int)) (hl : f.1 2 0 = lsum G' 8) : PI (R_stale n f) G' k := by
  have o : ∀ q j, ¬ (59 ≤ q ∧ q ≤ 64) → (R_stale n f).1 q j = f.1 q j := fun q j h => R_stale_o h n f
  have l := R_stale_l n f
  obtain ⟨n', e1, e2, e3⟩ := R_stale_n n f hn (hI.kt hn)
  obtain ⟨np, a, h1, h2, h3, h4, h5, h6, h7, h8, h9, ⟨x, h10, h11⟩, j1, j2, j3, j4, j5⟩ := hI
  have hS : PS f np a := ⟨h1, h2, h3, h5, j1, j2, j3⟩
  obtain ⟨s1, s2, s3, s4, s5, s6, s7⟩ := hS.of (f' := R_stale n f) (h1.1.of (o 6 0 (by omega)) (fun c => o 33 c (by omega)) (fun c => o 32 c (by omega))) (fun q j hq => o q j (by simp only [List.mem_cons, List.not_mem_nil, or_false] at hq; omega)) (fun j => by rw [l]) (fun p hp => (j1 p hp).of (o 22 p (by omega)) (o 15 p (by omega)) (o 19 p (by omega))) (by rw [o 34 0 (by omega)]; exact Int.le_refl _)
  refine ⟨np, a, s1, s2, s3, fun p p1 p2 q hq => by rw [o q p (by simp only [List.mem_cons, List.not_mem_nil, or_false] at hq; omega)]; exact h4 p p1 p2 q hq, s4, fun i i1 i2 => by rw [o 55 i (by omega), l]; exact h6 i i1 i2, by rw [o 2 0 (by omega)]; exact hl, by rw [o 1 0 (by omega)]; exact h8, by rw [o 34 0 (by omega)]; exact h9, ⟨x, by rw [o 35 0 (by omega)]; exact h10, fun i i1 i2 => by rw [l]; exact h11 i i1 i2⟩, s5, s6, s7, fun i hi => e3 i (by omega), j5.of (o 35 0 (by omega)) (o 40 0 (by omega)) (fun s _ => o 44 s (by omega)) (fun s _ => by rw [l]) (fun i _ => ⟨by rw [l], by rw [l]⟩)⟩
theorem pair_kept (hR : Rel th B b xl σ f A G T) (hI : PI (fN f) G k) (h1 : σ.2.1 + 2 * ngr A B 8 ≤ B + 118 + 100 * k) (h2 : σ.2.2 + 2600 * ngr A B 8 ≤ 81000 + 13000 * k) (hQ : KQ f) : lawp_22 th b B (B + 39) xl σ (Inv th B b xl (k + 1)) := by
  have hI0 := hI.un
  obtain ⟨n, hn, h32, -⟩ := hR.2.2.2.2.2.2.1
  have hn : (f.1 59 0).toInt = (n : Int) := hn
  obtain ⟨f0, hf0⟩ : ∃ f0, f0 = rf_ui f 0 0 0 := ⟨_, rfl⟩
  rw [← hf0] at hI0
  have hn0 : (f0.1 59 0).toInt = (n : Int) := by rw [hf0, rf_ui_ne (by omega)]; exact hn
  have hK := hI0.kt hn0
  refine pair_work (w := (R_stale n f0).1 59 0) (f' := R_stale n f0) rfl hR hI h1 h2 hQ (fun hW => ?_) (fun σ0 => ?_) (fun G' hl => ?_) (fun hq => ?_)
  · obtain ⟨G1, hR1, hl1⟩ := hW
    rw [← hf0] at hR1 hl1
    refine cl_go dt_178 40 [] dt_178_k rfl ?_
    intro C J hC hJ
    conv => whnf
    refine ⟨jx_isC_of hR1.X, hC _ _ _ _ (((k_forget (d := 20) hR1 hn0 h32 hK).up (by omega)).mp ?_)⟩
    rintro r s1 ⟨rfl, A', hR2, hA2, hk2, -⟩
    obtain ⟨n', m1, m2, hal, -⟩ := id hR2.2.2.2.2.2.1
    obtain ⟨⟨mc, hl'⟩, -⟩ := hal
    rw [List.length_map, List.length_range] at hl'
    conv => whnf
    refine ⟨_, jx_getF_of (hR2.X) rfl, ?_⟩
    conv => whnf
    refine ⟨jx_isC_of hl', hC _ _ _ _ (((k_size (d := 20) hl').up (by omega)).mp ?_)⟩
    rintro r s2 ⟨rfl, hs2⟩
    rw [hs2]
    conv => whnf
    refine ⟨by rw [i32_eq (x := (R_stale n f0).1 59 0) (n := n') m1 (by omega)], A', T, ⟨G1, hR2, by rw [R_stale_o (by omega)]; exact hl1⟩, hk2.2, by rw [hk2.1]; exact Nat.le_refl _, ?_, ?_⟩
    · have := ngr_eq (A := A) (A' := A') (B := B) (fun c => hA2 52 c (by omega)) 8
      rw [hk2.1, this]; omega
    · have := ngr_eq (A := A) (A' := A') (B := B) (fun c => hA2 52 c (by omega)) 8
      rw [hk2.1, this]; omega
  · rw [hf0]
    exact r_kept (d := 26) hn h32
  · rw [R_stale_o (by omega)] at hl
    exact (hI0.stale hn0 hl).up
  · rw [← hf0] at hq
    exact hq.of (fun q j hq' => R_stale_o (by omega) n f0)
end JxKept2
