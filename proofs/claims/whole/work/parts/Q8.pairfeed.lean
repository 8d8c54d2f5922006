/-! THE PAIR feed -/
section JxPairfeed
variable {th : Nat → Nat} {B b d n a x h p q c z m N k : Nat} {xl : List Int32} {σ σ' σ0 : jx_S} {f g F f0 : jx_F} {A A' : Nat → Nat → Nat} {G : Nat → Nat → Int32} {T T' : Nat → Nat} {cv t v kv nv : Int32} {u1 u2 u3 u4 : Int64} {ws : Nat → Int32} {Q : Option Value → jx_F → Prop}
/-- what one octet leaves, with the state of the class behind it -/
theorem fs_all (hE : ∃ σ A T, RW th B b xl σ f A T) (hV : MV n a x f) (hq : q < 8) (hcv : cv.toInt = ((q + 1 : Nat) : Int)) (h26 : f.1 26 (q + 1) = 2) (h34 : (f.1 34 0).toInt = (h : Int)) (hh : h < 2147480000) (hv : isb v) (hF : F = (R_fs (R_o1 f (q + 1) v) n a (q + 1) cv t).2) : RO f ∧ (∃ z : Nat, (f.1 30 (q + 1)).toInt = (z : Int)) ∧ (∃ σ A T, RW th B b xl σ F A T) ∧ MV n a x F ∧ FM n a x f F ∧ ∃ h' : Nat, (F.1 34 0).toInt = (h' : Int) ∧ h ≤ h' ∧ h' ≤ h + 70 := by
  have hE' := fs_rw (t := t) hE hV hq hcv h26 h34 hh hv rfl
  rw [← hF] at hE'
  obtain ⟨σ, A, T, hW⟩ := hE
  obtain ⟨z, hz⟩ := hW.z30 hq h26
  obtain ⟨G, hR, -⟩ := id hW
  obtain ⟨V', M', l1, l2⟩ := hV.fs (v := v) (t := t) hR.ro hq hcv h26 hz h34 hh hF
  exact ⟨hR.ro, ⟨z, hz⟩, hE', V', M', (F.1 34 0).toInt.toNat, by omega, by omega, by omega⟩
theorem MV.fl (hq : q < 8) (hcv : cv.toInt = ((q + 1 : Nat) : Int)) (hws : ∀ j, isb (ws j)) : ∀ (r j : Nat) (t : Int32) (f : jx_F) (h : Nat), (∃ σ A T, RW th B b xl σ f A T) → MV n a x f → (f.1 34 0).toInt = (h : Int) → h + 70 * r < 2147480000 → MV n a x (R_fl n a (q + 1) cv ws r j t f).2 ∧ FM n a x f (R_fl n a (q + 1) cv ws r j t f).2 ∧ ∃ h' : Nat, ((R_fl n a (q + 1) cv ws r j t f).2.1 34 0).toInt = (h' : Int) ∧ h ≤ h' ∧ h' ≤ h + 70 * r
  | 0, j, t, f, h, hE, hV, h34, hh => ⟨hV, FM.rf, h, h34, by omega, by omega⟩
  | r + 1, j, t, f, h, hE, hV, h34, hh => by
    have eR : R_fl n a (q + 1) cv ws (r + 1) j t f = if f.1 26 (q + 1) = 2 then R_fl n a (q + 1) cv ws r (j + 1) (R_fs (R_o1 f (q + 1) (ws j)) n a (q + 1) cv t).1 (R_fs (R_o1 f (q + 1) (ws j)) n a (q + 1) cv t).2 else (t, f) := rfl
    rw [eR]
    by_cases h26 : f.1 26 (q + 1) = 2
    · rw [if_pos h26]
      obtain ⟨F, hF⟩ : ∃ F, F = (R_fs (R_o1 f (q + 1) (ws j)) n a (q + 1) cv t).2 := ⟨_, rfl⟩
      obtain ⟨-, -, E', V', M', h', e', l1, l2⟩ := fs_all (t := t) hE hV hq hcv h26 h34 (by omega) (hws j) hF
      rw [← hF]
      obtain ⟨y1, y2, h2, y3, y4, y5⟩ := MV.fl hq hcv hws r (j + 1) (R_fs (R_o1 f (q + 1) (ws j)) n a (q + 1) cv t).1 F h' E' V' e' (by omega)
      exact ⟨y1, M'.tr y2, h2, y3, by omega, by omega⟩
    · rw [if_neg h26]
      exact ⟨hV, FM.rf, h, h34, by omega, by omega⟩
theorem r_fd_l (hq : q < 8) (hcv : cv.toInt = ((q + 1 : Nat) : Int)) (hn : nv.toInt = (N : Int)) (hN : N ≤ 32) (hws : ws = fun j => R_oc (R_wd u1 u2 u3 u4 j) (Int32.ofNat j)) : ∀ (r j : Nat) (kv t : Int32) (f : jx_F) (h : Nat), (∃ σ A T, RW th B b xl σ f A T) → MV n a x f → (f.1 34 0).toInt = (h : Int) → h + 70 * r < 2147480000 → kv.toInt = (j : Int) → j + r = N → Q (some (.int (R_fl n a (q + 1) cv ws r j t f).1)) (R_fl n a (q + 1) cv ws r j t f).2 → jx_fj th (rf_g m) (rf σ0 m) (d + 14) 216 47 [(0, .ref 0), (1, .int cv), (2, .long u1), (4, .long u2), (6, .long u3), (8, .long u4), (10, .int nv), (11, .int t), (12, .int kv)] [] f Q
  | 0, j, kv, t, f, h, hE, hV, h34, hh, hkv, hj, hQ => by
    refine rf_at dt_216 90 [] dt_216_k (by decide +kernel) ?_
    intro C J hC hJ
    conv => whnf
    refine jx_yes (show nv ≤ kv by rw [Int32.le_iff_toInt_le, hn, hkv]; omega) ?_
    conv => whnf
    exact hQ
  | r + 1, j, kv, t, f, h, hE, hV, h34, hh, hkv, hj, hQ => by
    have eR : R_fl n a (q + 1) cv ws (r + 1) j t f = if f.1 26 (q + 1) = 2 then R_fl n a (q + 1) cv ws r (j + 1) (R_fs (R_o1 f (q + 1) (ws j)) n a (q + 1) cv t).1 (R_fs (R_o1 f (q + 1) (ws j)) n a (q + 1) cv t).2 else (t, f) := rfl
    rw [eR] at hQ
    refine rf_at dt_216 90 [(103, [0, 1, 2, 4, 6, 8, 10, 11, 12, 13])] dt_216_k (by decide +kernel) ?_
    intro C J hC hJ
    conv => whnf
    refine jx_no (show ¬ nv ≤ kv by rw [Int32.le_iff_toInt_le, hn, hkv]; omega) ?_
    conv => whnf
    refine ⟨jx_in_nat hcv (show q + 1 < 9 by omega), ?_⟩
    conv => whnf
    rw [i32_nat hcv]
    refine ⟨fun (e : ¬ f.1 26 (q + 1) = 2) => ?_, fun (e : ¬ ¬ f.1 26 (q + 1) = 2) => ?_⟩
    · rw [if_neg e] at hQ
      conv => whnf
      exact hQ
    · have h26 := Decidable.not_not.mp e
      rw [if_pos h26] at hQ
      have body : ∀ w' : Int64, w' = R_wd u1 u2 u3 u4 j → jx_fj th (rf_g m) (rf σ0 m) (d + 14) 216 103 [(0, .ref 0), (1, .int cv), (2, .long u1), (4, .long u2), (6, .long u3), (8, .long u4), (10, .int nv), (11, .int t), (12, .int kv), (13, .long w')] [] f Q := fun w' hw' => by
        obtain ⟨hRO, ⟨z, hz⟩, E', V', M', h', e', l1, l2⟩ := fs_all (v := ws j) (t := t) hE hV hq hcv h26 h34 (by omega) (by rw [hws]; exact nar_b _) rfl
        exact r_fd_b (k := j) (g := R_o1 f (q + 1) (ws j)) hRO hz hV hq hcv h26 h34 (by omega) hkv (by omega) (by rw [hws, hw']) (r_fd_l hq hcv hn hN hws r (j + 1) _ _ _ h' E' V' e' (by omega) (by rw [i32_add (c := 1) hkv (by decide) (by omega) (by omega)]; omega) (by omega) hQ)
      have k8 : ∀ y : Nat, y < 100 → (Int32.ofNat y ≤ kv ↔ y ≤ j) := fun y hy => by rw [Int32.le_iff_toInt_le, hkv, i32_ofNat (by omega)]; omega
      conv => whnf
      refine ⟨fun (c1 : Int32.ofNat 8 ≤ kv) => ?_, fun (c1 : ¬ Int32.ofNat 8 ≤ kv) => ?_⟩
      · rw [k8 8 (by omega)] at c1
        conv => whnf
        refine ⟨fun (c2 : Int32.ofNat 16 ≤ kv) => ?_, fun (c2 : ¬ Int32.ofNat 16 ≤ kv) => ?_⟩
        · rw [k8 16 (by omega)] at c2
          conv => whnf
          refine ⟨fun (c3 : Int32.ofNat 24 ≤ kv) => ?_, fun (c3 : ¬ Int32.ofNat 24 ≤ kv) => ?_⟩
          · rw [k8 24 (by omega)] at c3
            conv => whnf
            exact hJ _ _ _ _ (body _ (by unfold R_wd; rw [if_neg (by omega), if_neg (by omega), if_neg (by omega)]))
          · rw [k8 24 (by omega)] at c3
            conv => whnf
            exact hJ _ _ _ _ (body _ (by unfold R_wd; rw [if_neg (by omega), if_neg (by omega), if_pos (by omega)]))
        · rw [k8 16 (by omega)] at c2
          conv => whnf
          exact hJ _ _ _ _ (body _ (by unfold R_wd; rw [if_neg (by omega), if_pos (by omega)]))
      · rw [k8 8 (by omega)] at c1
        conv => whnf
        exact hJ _ _ _ _ (body _ (by unfold R_wd; rw [if_pos (by omega)]))
theorem r_feed (hg : g = rf_ui f 0 0 0) (hE : ∃ σ A T, RW th B b xl σ g A T) (hV : MV n a x g) (h34 : (g.1 34 0).toInt = (h : Int)) (hh : h + 2240 < 2147480000) : rfc th σ0 m (d + 15) 216 [.ref 0, .int cv, .long u1, .long u2, .long u3, .long u4, .int nv] f (fun r f' => r = some (.int (R_feedF g n a cv u1 u2 u3 u4 nv).1) ∧ f' = (R_feedF g n a cv u1 u2 u3 u4 nv).2) := by
  refine rf_go dt_216 90 [(47, [0, 1, 2, 4, 6, 8, 10, 11, 12])] dt_216_k (by decide +kernel) rfl ?_
  intro C J hC hJ
  conv => whnf
  rw [show rf_ui f 0 0 0 = g from hg.symm]
  refine hC _ _ _ _ (((r_in (d := d)).up (by omega)).mp ?_)
  rintro r f1 ⟨hcs, hf1⟩
  rw [hf1]
  rcases hcs with ⟨rfl, hv⟩ | ⟨rfl, hv⟩
  · obtain ⟨q, hq, hvq⟩ := i32_18 hv
    have hvn := i32_nat hvq
    conv => whnf
    refine jx_no (show ¬ (1 : Int32) = 0 by decide) ?_
    conv => whnf
    refine ⟨jx_in_nat hvq (show q + 1 < 9 by omega), ?_⟩
    conv => whnf
    rw [hvn]
    refine ⟨fun (e : g.1 26 (q + 1) = 2) => ?_, fun (e : ¬ g.1 26 (q + 1) = 2) => ?_⟩
    · conv => whnf
      refine hC _ _ _ _ (((r_in (d := d)).up (by omega)).mp ?_)
      rintro r f2 ⟨hcs, hf2⟩
      rw [hf2]
      rcases hcs with ⟨rfl, n1, n2⟩ | ⟨rfl, hnv⟩
      · have n1' := n1
        have n2' := n2
        rw [Int32.le_iff_toInt_le, show (1 : Int32).toInt = 1 by decide] at n1'
        rw [Int32.le_iff_toInt_le, show (32 : Int32).toInt = 32 by decide] at n2'
        obtain ⟨N, hn⟩ : ∃ N : Nat, nv.toInt = (N : Int) := ⟨nv.toInt.toNat, by omega⟩
        have eF : R_feedF g n a cv u1 u2 u3 u4 nv = R_fl n a (q + 1) cv (fun j => R_oc (R_wd u1 u2 u3 u4 j) (Int32.ofNat j)) N 0 0 g := by
          unfold R_feedF
          rw [hvn, if_pos ⟨hv, e⟩, if_pos ⟨n1, n2⟩, i32_nat hn]
        rw [eF] at hJ
        conv => whnf
        refine jx_yes (show ¬ (1 : Int32) = 0 by decide) ?_
        conv => whnf
        exact hJ _ _ _ _ (r_fd_l hq hvq hn (by omega) rfl N 0 0 0 g h hE hV h34 (by omega) (by decide) (by omega) ⟨rfl, rfl⟩)
      · have eF : R_feedF g n a cv u1 u2 u3 u4 nv = (-2, g) := by
          unfold R_feedF
          rw [hvn, if_pos ⟨hv, e⟩, if_neg hnv]
        rw [eF]
        conv => whnf
        refine jx_no (show ¬ ¬ (0 : Int32) = 0 by decide) ?_
        conv => whnf
        exact ⟨rfl, rfl⟩
    · have eF : R_feedF g n a cv u1 u2 u3 u4 nv = (-1, g) := by
        unfold R_feedF
        rw [hvn, if_neg (fun y => e y.2)]
      rw [eF]
      conv => whnf
      exact ⟨rfl, rfl⟩
  · have eF : R_feedF g n a cv u1 u2 u3 u4 nv = (-1, g) := by
      unfold R_feedF
      rw [if_neg (fun y => hv y.1)]
    rw [eF]
    conv => whnf
    refine jx_yes (show (0 : Int32) = 0 from rfl) ?_
    conv => whnf
    exact ⟨rfl, rfl⟩
theorem hop_le {h h' k : Nat} (h1 : h ≤ 1 + 2000000 * k) (h2 : h' ≤ h + 2240) : h' ≤ 1 + 2000000 * (k + 1) :=
  Nat.le_trans h2 (Nat.le_trans (Nat.add_le_add_right h1 2240) (by rw [Nat.mul_succ, Nat.add_assoc]; exact Nat.add_le_add_left (Nat.add_le_add_left (Nat.le_of_ble_eq_true rfl) _) _))
theorem kpm.kr {n s : Nat} (h : kpm B A A' n s σ σ') (hn : n ≤ 100) (hs : s ≤ 13000) : kpr B A A' σ σ' := by
  have e : ngr A' B 8 = ngr A B 8 := ngr_eq (fun i => h.2.2.2.2 52 i (Or.inr rfl)) 8
  exact ⟨h.1, h.2.1, by rw [e]; have := h.2.2.1; omega, by rw [e]; have := h.2.2.2.1; omega⟩
theorem pair_feed (hk : k ≤ 512) (hR : Rel th B b xl σ f A G T) (hI : PI (fN f) G k) (h1 : σ.2.1 + 2 * ngr A B 8 ≤ B + 118 + 100 * k) (h2 : σ.2.2 + 2600 * ngr A B 8 ≤ 81000 + 13000 * k) (hQ : KQ f) : lawp_6 th b B (B + 39) xl σ (Inv th B b xl (k + 1)) := by
  intro cv u1 u2 u3 u4 nv
  have hI0 := hI.un
  obtain ⟨f0, hf0⟩ : ∃ f0, f0 = rf_ui f 0 0 0 := ⟨_, rfl⟩
  rw [← hf0] at hI0
  obtain ⟨n, a, hS, h, h34, hx1, hx2⟩ := hI0.ps
  have hR0 : RelC th B b xl σ f0 A G T := by rw [hf0]; exact hR.2.un
  obtain ⟨n', a', hg', -, -, hz', -, hq0', hls', ⟨t, ht, ht2⟩, -, ⟨x, hxa, hxa2⟩, -, -, -, hk', hm'⟩ := id hI0
  have en : n' = n := by have := hg'.2.1; have := hS.1.2.1; omega
  have ea : a' = a := by have := hg'.2.2.2.1; have := hS.1.2.2.2.1; omega
  rw [en] at hz'
  rw [ea] at hq0'
  have hM : MI f0 := by
    obtain ⟨x', a1, a2, -⟩ := id hR0.2.2.2.2.2.2.1
    obtain ⟨m', m1, m2, -⟩ := id hR0.2.2.2.2.2.2.2
    exact ⟨hm', by omega, by omega⟩
  have hV : MV n a x f0 := by
    obtain ⟨kn, k1, k2, -, -, hke⟩ := id hR0.2.2.2.2.2.1
    exact ⟨hS, hM, by rw [hf0]; exact hQ.of (fun q j hq => rf_ui_ne (by omega)), hxa, ⟨t, ht, by omega⟩, kn, k1, k2, fun i hi => hk' i (by omega)⟩
  have hW0 : RW th B b xl σ f0 A T := ⟨G, hR0, hls'⟩
  have fin : ∀ (F : jx_F), F = (R_feedF f0 n a cv u1 u2 u3 u4 nv).2 → F = f0 ∨ (MV n a x F ∧ FM n a x f0 F ∧ ∃ h' : Nat, (F.1 34 0).toInt = (h' : Int) ∧ h ≤ h' ∧ h' ≤ h + 2240) := by
    intro F hF
    unfold R_feedF at hF
    by_cases hv : (1 ≤ cv ∧ cv ≤ 8) ∧ f0.1 26 cv.toNatClampNeg = 2
    · rw [if_pos hv] at hF
      obtain ⟨q, hq, hvq⟩ := i32_18 hv.1
      by_cases hn : 1 ≤ nv ∧ nv ≤ 32
      · rw [if_pos hn, i32_nat hvq] at hF
        have n1' := hn.1
        have n2' := hn.2
        rw [Int32.le_iff_toInt_le, show (1 : Int32).toInt = 1 by decide] at n1'
        rw [Int32.le_iff_toInt_le, show (32 : Int32).toInt = 32 by decide] at n2'
        obtain ⟨N, hN⟩ : ∃ N : Nat, nv.toInt = (N : Int) := ⟨nv.toInt.toNat, by omega⟩
        rw [i32_nat hN] at hF
        obtain ⟨y1, y2, h', y3, y4, y5⟩ := MV.fl (ws := fun j => R_oc (R_wd u1 u2 u3 u4 j) (Int32.ofNat j)) hq hvq (fun j => nar_b _) N 0 0 f0 h ⟨σ, A, T, hW0⟩ hV h34 (by omega)
        rw [← hF] at y1 y2 y3
        exact Or.inr ⟨y1, y2, h', y3, y4, by omega⟩
      · rw [if_neg hn] at hF
        exact Or.inl hF
    · rw [if_neg hv] at hF
      exact Or.inl hF
  refine pair_work (w := (R_feedF f0 n a cv u1 u2 u3 u4 nv).1) (f' := (R_feedF f0 n a cv u1 u2 u3 u4 nv).2) rfl hR hI h1 h2 hQ (fun hW => ?_) (fun σ0 => ?_) (fun G' hl => ?_) (fun hq => ?_)
  · rw [← hf0] at hW
    refine ((k_feed (d := 17) hW hV h34 (by omega)).up (by omega)).mp ?_
    rintro r s1 ⟨h3, A', T', h4, h5⟩
    exact ⟨h3, A', T', h4, h5.kr (by omega) (by omega)⟩
  · exact (r_feed (d := 15) hf0 ⟨σ, A, T, hW0⟩ hV h34 (by omega)).up (by omega)
  · obtain ⟨F, hF⟩ : ∃ F, F = (R_feedF f0 n a cv u1 u2 u3 u4 nv).2 := ⟨_, rfl⟩
    rw [← hF] at hl ⊢
    rcases fin F hF with e | ⟨e1, e3, h', e5, e6, e7⟩
    · rw [e] at hl ⊢
      exact hI0.same hl
    · obtain ⟨s1, s2, s3, s4, -, n0, s5, s6, s7⟩ := e1
      have c1 : F.1 1 0 = f0.1 1 0 := e3.1 1 0 rfl (by omega) (fun _ => by omega) (by omega) (by omega) (by omega)
      have b1 : t ≤ 2000 * (k + 1) := by rw [Nat.mul_succ]; omega
      have b2 : h' ≤ 1 + 2000000 * (k + 1) := hop_le hx2 e7
      refine PI.pack s1 (fun p p1 p2 q hq => ?_) (fun i i1 i2 => ?_) hl ⟨t, by rw [c1]; exact ht, b1⟩ ⟨h', e5, by omega, b2⟩ ⟨x, s4, fun i i1 i2 => ?_⟩ (fun i hi => s7 i (by omega)) s2.1
      · have hq2 := hq
        simp only [List.mem_cons, List.not_mem_nil, or_false] at hq2
        rw [e3.1 q p (by rcases hq2 with rfl | rfl | rfl | rfl | rfl | rfl | rfl | rfl | rfl | rfl | rfl | rfl | rfl <;> rfl) (by omega) (fun z => by omega) (by omega) (by omega) (by omega)]
        exact hz' p p1 p2 q hq
      · rw [e3.2.1 55 i (by omega) i1, e3.2.2 53 i (by omega) (by omega) (by omega) (by omega)]
        exact hq0' i i1 i2
      · rw [e3.2.2 38 i (by omega) (by omega) (by omega) (by omega), e3.2.2 39 i (by omega) (by omega) (by omega) (by omega)]
        exact hxa2 i i1 i2
  · obtain ⟨F, hF⟩ : ∃ F, F = (R_feedF f0 n a cv u1 u2 u3 u4 nv).2 := ⟨_, rfl⟩
    rw [← hf0] at hq
    rw [← hF]
    rcases fin F hF with e | ⟨e1, -⟩
    · rw [e]; exact hq
    · exact e1.2.2.1
end JxPairfeed
