/-! THE PAIR tick: the class looks for what is due -/
section JxTick
variable {th : Nat → Nat} {B b d n a m s p : Nat} {xl : List Int32} {σ σ' : jx_S} {f f' g : jx_F} {A A' : Nat → Nat → Nat} {G : Nat → Nat → Int32} {T : Nat → Nat} {Q : Option Value → jx_S → Prop}
theorem min_le {x y : Int32} : (if y < x then y else x) ≤ x ∧ (if y < x then y else x) ≤ y := by
  split
  · rename_i h; exact ⟨Int32.le_of_lt h, Int32.le_refl _⟩
  · rename_i h; exact ⟨Int32.le_refl _, Int32.not_lt.mp h⟩
theorem k_ne_l (hR : RelC th B b xl σ f A G T) (hm : (f.1 40 0).toInt = (m : Int)) : ∀ (r k : Nat) (kv nd : Int32), kv.toInt = (k : Int) → k + r = m → (∀ s, s < k → nd ≤ f.1 48 s) → (∀ nd', (∀ s, s < m → nd' ≤ f.1 48 s) → Q (some (.int nd')) σ) → cl_fj th (d + 3) 158 5 [(0, .ref (B + 6)), (1, .int nd), (2, .int kv)] [] σ Q
  | 0, k, kv, nd, hv, hk, hnd, hQ => by
    have hL := hR.1.2.2.2.2.2.2.2.2.2.1
    obtain ⟨n0, m1, m2, hal, hinj, hse⟩ := id hR.2.2.2.2.2.2.2
    have en : n0 = m := by omega
    obtain ⟨⟨mc, hl⟩, -⟩ := hal
    rw [List.length_map, List.length_range, en] at hl
    refine cl_at dt_158 40 [] dt_158_k ?_
    intro C J hC hJ
    conv => whnf
    refine ⟨_, jx_getF_of (hL) rfl, ?_⟩
    conv => whnf
    refine ⟨jx_isC_of hl, hC _ _ _ _ (((k_size (d := d) hl).up (by omega)).mp ?_)⟩
    rintro r' s1 ⟨rfl, hs1⟩
    rw [hs1]
    conv => whnf
    refine jx_yes (show Int32.ofNat m ≤ kv by rw [Int32.le_iff_toInt_le, hv, i32_ofNat (by omega)]; omega) ?_
    conv => whnf
    exact hQ nd (fun s hs => hnd s (by omega))
  | r + 1, k, kv, nd, hv, hk, hnd, hQ => by
    have hL := hR.1.2.2.2.2.2.2.2.2.2.1
    obtain ⟨n0, m1, m2, hal, hinj, hse⟩ := id hR.2.2.2.2.2.2.2
    have en : n0 = m := by omega
    rw [en] at hal hse
    have hal0 := hal
    obtain ⟨⟨mc, hl⟩, -⟩ := hal
    rw [List.length_map, List.length_range] at hl
    have s2 := (hse k (by omega)).2.1
    refine cl_at dt_158 40 [(5, [0, 1, 2])] dt_158_k ?_
    intro C J hC hJ
    conv => whnf
    refine ⟨_, jx_getF_of (hL) rfl, ?_⟩
    conv => whnf
    refine ⟨jx_isC_of hl, hC _ _ _ _ (((k_size (d := d) hl).up (by omega)).mp ?_)⟩
    rintro r' s1 ⟨rfl, hs1⟩
    rw [hs1]
    conv => whnf
    refine jx_no (show ¬ Int32.ofNat m ≤ kv by rw [Int32.le_iff_toInt_le, hv, i32_ofNat (by omega)]; omega) ?_
    conv => whnf
    refine ⟨_, jx_getF_of (hL) rfl, ?_⟩
    conv => whnf
    refine ⟨jx_isC_of hl, hC _ _ _ _ ((k_get (d := d) hal0 hv (by simp [show k < m by omega] : ((List.range m).map (A 8))[k]? = some (A 8 k))).mp ?_)⟩
    rintro r' s3 ⟨rfl, hs3⟩
    rw [hs3]
    conv => whnf
    refine ⟨jx_cast_of s2 (by decide +kernel), ?_⟩
    conv => whnf
    refine ⟨_, jx_getF_of (s2) rfl, ?_⟩
    conv => whnf
    have ml := min_le (x := nd) (y := f.1 48 k)
    refine hJ _ _ _ _ (k_ne_l hR hm r (k + 1) _ _ ?_ (by omega) (fun s hs => ?_) hQ)
    · rw [i32_add (c := 1) hv (by decide) (by omega) (by omega)]; omega
    · by_cases e : s = k
      · rw [e]; exact ml.2
      · exact Int32.le_trans ml.1 (hnd s (by omega))
theorem k_nextEnd (hR : RelC th B b xl σ f A G T) (hm : (f.1 40 0).toInt = (m : Int)) : jc th (d + 4) 158 [.ref (B + 6)] σ (fun r σ' => (∃ nd, r = some (.int nd) ∧ ∀ s, s < m → nd ≤ f.1 48 s) ∧ σ' = σ) := by
  refine cl_go dt_158 40 [(5, [0, 1, 2])] dt_158_k rfl ?_
  intro C J hC hJ
  conv => whnf
  exact hJ _ _ _ _ (k_ne_l hR hm m 0 0 _ (by decide) (by omega) (fun s hs => by omega) (fun nd h => ⟨⟨nd, rfl, h⟩, rfl⟩))
theorem k_nd_l (hR : RelC th B b xl σ f A G T) (hn : (f.1 7 0).toInt = (n : Int)) (hn4 : n ≤ 4) : ∀ (r k : Nat) (kv nd : Int32), kv.toInt = (k : Int) → k + r = n → (∀ nd' : Int32, nd' ≤ nd → (∀ p, k ≤ p → p < n → nd' ≤ lim f p ∧ nd' ≤ f.1 17 p) → Q (some (.int nd')) σ) → cl_fj th (d + 3) 157 10 [(0, .ref B), (1, .int nd), (2, .int kv)] [] σ Q
  | 0, k, kv, nd, hv, hk, hQ => by
    obtain ⟨n', m1, m2, hal, -⟩ := hR.2.2.2.1
    have en : n' = n := by omega
    obtain ⟨⟨mc, hl⟩, -⟩ := hal
    rw [List.length_map, List.length_range, en] at hl
    refine cl_at dt_157 40 [] dt_157_k ?_
    intro C J hC hJ
    conv => whnf
    refine ⟨_, jx_getF_of (hR.X) rfl, ?_⟩
    conv => whnf
    refine ⟨jx_isC_of hl, hC _ _ _ _ (((k_size (d := d) hl).up (by omega)).mp ?_)⟩
    rintro r' s1 ⟨rfl, hs1⟩
    rw [hs1]
    conv => whnf
    refine jx_yes (show Int32.ofNat n ≤ kv by rw [Int32.le_iff_toInt_le, hv, i32_ofNat (by omega)]; omega) ?_
    conv => whnf
    exact hQ nd (Int32.le_refl _) (fun p p1 p2 => by omega)
  | r + 1, k, kv, nd, hv, hk, hQ => by
    obtain ⟨n', m1, m2, hal, hpe⟩ := id hR.2.2.2.1
    have en : n' = n := by omega
    rw [en] at hal hpe
    have hal0 := hal
    obtain ⟨⟨mc, hl⟩, -⟩ := hal
    rw [List.length_map, List.length_range] at hl
    have a2 := (hpe k (by omega)).2.1
    refine cl_at dt_157 40 [(10, [0, 1, 2])] dt_157_k ?_
    intro C J hC hJ
    conv => whnf
    refine ⟨_, jx_getF_of (hR.X) rfl, ?_⟩
    conv => whnf
    refine ⟨jx_isC_of hl, hC _ _ _ _ (((k_size (d := d) hl).up (by omega)).mp ?_)⟩
    rintro r' s1 ⟨rfl, hs1⟩
    rw [hs1]
    conv => whnf
    refine jx_no (show ¬ Int32.ofNat n ≤ kv by rw [Int32.le_iff_toInt_le, hv, i32_ofNat (by omega)]; omega) ?_
    conv => whnf
    refine ⟨_, jx_getF_of (hR.X) rfl, ?_⟩
    conv => whnf
    refine ⟨jx_isC_of hl, hC _ _ _ _ ((k_get (d := d) hal0 hv (by simp [show k < n by omega] : ((List.range n).map (A 6))[k]? = some (A 6 k))).mp ?_)⟩
    rintro r' s3 ⟨rfl, hs3⟩
    rw [hs3]
    conv => whnf
    refine ⟨jx_cast_of a2 (by decide +kernel), ?_⟩
    conv => whnf
    refine ⟨_, jx_getF_of (a2) rfl, ?_⟩
    conv => whnf
    refine ⟨_, jx_getF_of (a2) rfl, ?_⟩
    conv => whnf
    have m1' := min_le (x := lim f k) (y := f.1 17 k)
    have m2' := min_le (x := nd) (y := if f.1 17 k < lim f k then f.1 17 k else lim f k)
    refine hJ _ _ _ _ (k_nd_l hR hn hn4 r (k + 1) _ _ ?_ (by omega) (fun nd' h1 h2 => hQ nd' (Int32.le_trans h1 m2'.1) (fun p p1 p2 => ?_)))
    · rw [i32_add (c := 1) hv (by decide) (by omega) (by omega)]; omega
    · by_cases e : p = k
      · rw [e]; exact ⟨Int32.le_trans h1 (Int32.le_trans m2'.2 m1'.1), Int32.le_trans h1 (Int32.le_trans m2'.2 m1'.2)⟩
      · exact h2 p (by omega) p2
theorem k_nextDue (hR : RelC th B b xl σ f A G T) (hn : (f.1 7 0).toInt = (n : Int)) (hn4 : n ≤ 4) (hm : (f.1 40 0).toInt = (m : Int)) : jc th (d + 5) 157 [.ref B] σ (fun r σ' => (∃ nd, r = some (.int nd) ∧ (∀ p, p < n → nd ≤ lim f p ∧ nd ≤ f.1 17 p) ∧ ∀ s, s < m → nd ≤ f.1 48 s) ∧ σ' = σ) := by
  have hL := hR.1.2.2.2.2.2.2.2.2.2.1
  refine cl_go dt_157 40 [(10, [0, 1, 2])] dt_157_k rfl ?_
  intro C J hC hJ
  conv => whnf
  refine ⟨_, jx_getF_of (hR.X) rfl, ?_⟩
  conv => whnf
  refine ⟨jx_isC_of hL, hC _ _ _ _ ((k_nextEnd (d := d) hR hm).mp ?_)⟩
  rintro r s1 ⟨⟨nd, rfl, h1⟩, hs1⟩
  rw [hs1]
  conv => whnf
  exact hJ _ _ _ _ (k_nd_l (d := d + 1) hR hn hn4 n 0 0 nd (by decide) (by omega) (fun nd' h2 h3 => ⟨⟨nd', rfl, fun p hp => h3 p (by omega) hp, fun s hs => Int32.le_trans h2 (h1 s hs)⟩, rfl⟩))
/-- a SESSION's end, in the reference's words -/
theorem fg1_c {k : Nat} (h : f.1 = g.1) : (R_fg1 f k).1 = (R_fg1 g k).1 := by
  unfold R_fg1 R_cy rf_ui rf_ul
  simp only [h]
theorem fgs_c : ∀ (r k : Nat) (f g : jx_F), f.1 = g.1 → (R_fgs r k f).1 = (R_fgs r k g).1
  | 0, _, _, _, h => h
  | r + 1, k, f, g, h => fgs_c r (k + 1) (R_fg1 f k) (R_fg1 g k) (fg1_c h)
theorem RelC.ets (hR : RelC th B b xl σ (R_forget (R_rel f s) m s) A G T) (hm : (f.1 40 0).toInt = (m : Int)) (hs : s < m) : RelC th B b xl σ (R_ets f m s) A G T := by
  refine hR.tl (m := m - 1) ?_ ?_ (fun q j hq => ?_)
  · rw [fg_40]
    exact i32_59 (n := m - 1) (by show (f.1 40 0).toInt = _; rw [hm]; omega)
  · unfold R_ets R_forget
    have e := fgs_c (m - 1 - s) s (R_rsv f s) (R_rel f s) rfl
    unfold rf_ui
    rw [e]
    rfl
  · unfold R_ets
    have key : ∀ q j, ¬ (q = 45 ∧ j = s) → (R_rsv f s).2 q j = (R_rel f s).2 q j := fun q j z => by
      unfold R_rel
      rw [rf_ul_ne z]
    by_cases z : q = 45 ∨ q = 46
    · by_cases z2 : s ≤ j
      · rw [fg_2 z z2 (by omega), fg_2 z z2 (by omega), key _ _ (by omega)]
      · rw [fg_2o z (by omega), fg_2o z (by omega), key _ _ (by omega)]
    · rw [fg_l z, fg_l z, key _ _ (by omega)]
theorem k_ed_l : ∀ (r s : Nat) (sv dv nv : Int32) (f : jx_F) (A : Nat → Nat → Nat) (σ : jx_S), sv.toInt = (s : Int) → nv.toInt = (r : Int) → (f.1 40 0).toInt = ((s + r : Nat) : Int) → RelC th B b xl σ f A G T → (∀ σ' A', RelC th B b xl σ' (R_tsl r s f).2 A' G T → (∀ q i, ¬ (q = 8 ∨ q = 81 ∨ q = 82 ∨ q = 83) → A' q i = A q i) → kp B σ σ' → Q (some (.int (dv + Int32.ofNat (R_tsl r s f).1))) σ') → ∀ nowv : Int32, nowv = f.1 1 0 → cl_fj th (d + 3) 161 15 [(0, .ref (B + 6)), (1, .int nowv), (2, .int dv), (3, .int sv), (4, .int nv)] [] σ Q
  | 0, s, sv, dv, nv, f, A, σ, hv, hnv, hm, hR, hQ, nowv, hnow => by
    refine cl_at dt_161 40 [] dt_161_k ?_
    intro C J hC hJ
    conv => whnf
    refine jx_yes (show nv ≤ 0 by rw [Int32.le_iff_toInt_le, hnv]; decide) ?_
    conv => whnf
    have := hQ σ A hR (fun _ _ _ => rfl) kp.rf
    have e : dv + Int32.ofNat (R_tsl 0 s f).1 = dv := i32_c0
    rw [e] at this
    exact this
  | r + 1, s, sv, dv, nv, f, A, σ, hv, hnv, hm, hR, hQ, nowv, hnow => by
    have hL := hR.1.2.2.2.2.2.2.2.2.2.1
    obtain ⟨n0, m1, m2, hal, hinj, hse⟩ := id hR.2.2.2.2.2.2.2
    have en : n0 = s + (r + 1) := by omega
    rw [en] at hal hse
    have hal0 := hal
    obtain ⟨⟨mc, hl⟩, -⟩ := hal
    rw [List.length_map, List.length_range] at hl
    have s2 := (hse s (by omega)).2.1
    have hnv1 : (nv + Int32.ofInt (-1)).toInt = (r : Int) := by rw [i32_add (c := -1) hnv (by decide) (by omega) (by omega)]; omega
    refine cl_at dt_161 60 [(15, [0, 1, 2, 3, 4])] dt_161_k ?_
    intro C J hC hJ
    conv => whnf
    refine jx_no (show ¬ nv ≤ 0 by rw [Int32.le_iff_toInt_le, hnv, show (0 : Int32).toInt = 0 by decide]; omega) ?_
    conv => whnf
    refine ⟨_, jx_getF_of (hL) rfl, ?_⟩
    conv => whnf
    refine ⟨jx_isC_of hl, hC _ _ _ _ (((k_size (d := d) hl).up (by omega)).mp ?_)⟩
    rintro r' s7 ⟨rfl, hs7⟩
    rw [hs7]
    conv => whnf
    refine jx_no (show ¬ Int32.ofNat (s + (r + 1)) ≤ sv by rw [Int32.le_iff_toInt_le, hv, i32_ofNat (by omega)]; omega) ?_
    conv => whnf
    refine ⟨_, jx_getF_of (hL) rfl, ?_⟩
    conv => whnf
    refine ⟨jx_isC_of hl, hC _ _ _ _ ((k_get (d := d) hal0 hv (by simp : ((List.range (s + (r + 1))).map (A 8))[s]? = some (A 8 s))).mp ?_)⟩
    rintro r' s3 ⟨rfl, hs3⟩
    rw [hs3]
    conv => whnf
    refine ⟨jx_cast_of s2 (by decide +kernel), ?_⟩
    conv => whnf
    refine ⟨_, jx_getF_of (s2) rfl, ?_⟩
    conv => whnf
    refine ⟨fun (z : nowv < f.1 48 s) => ?_, fun (z : ¬ nowv < f.1 48 s) => ?_⟩
    · have e : R_tsl (r + 1) s f = R_tsl r (s + 1) f := by
        show (if _ then _ else _) = _
        rw [if_neg (Int32.not_le.mpr (by rw [← hnow]; exact z))]
      rw [e] at hQ
      conv => whnf
      refine hJ _ _ _ _ (k_ed_l r (s + 1) _ dv _ f A σ ?_ hnv1 (by rw [hm]; omega) hR hQ nowv hnow)
      rw [i32_add (c := 1) hv (by decide) (by omega) (by omega)]; omega
    · have e : R_tsl (r + 1) s f = (1 + (R_tsl r s (R_ets f (s + r + 1) s)).1, (R_tsl r s (R_ets f (s + r + 1) s)).2) := by
        show (if _ then _ else _) = _
        rw [if_pos (Int32.not_lt.mp (by rw [← hnow]; exact z))]
      rw [e] at hQ
      conv => whnf
      refine ⟨jx_isC_of s2, hC _ _ _ _ (((k_release (d := d) hR hm (by omega : s < s + (r + 1))).up (by omega)).mp ?_)⟩
      rintro r' s4 ⟨rfl, hR4, hk4, -⟩
      obtain ⟨n5, w1, -, w3, -⟩ := id hR4.2.2.2.2.2.2.2
      obtain ⟨⟨mc5, hl5⟩, -⟩ := w3
      conv => whnf
      refine ⟨_, jx_getF_of (hR4.1.2.2.2.2.2.2.2.2.2.1) rfl, ?_⟩
      conv => whnf
      refine ⟨jx_isC_of hl5, hC _ _ _ _ ((k_rmS (d := d) (m := s + (r + 1)) (s := s) hR4 hm (by omega) hv).mp ?_)⟩
      rintro r' s6 ⟨⟨x, rfl⟩, A', hR6, hA6, hk6, -⟩
      have hR6' := hR6.ets hm (by omega : s < s + (r + 1))
      rw [show s + (r + 1) = s + r + 1 by omega] at hR6'
      conv => whnf
      refine hJ _ _ _ _ (k_ed_l r s _ _ _ (R_ets f (s + r + 1) s) A' s6 hv hnv1 ?_ hR6' (fun σ' A'' g1 g2 g3 => ?_) nowv (by rw [ets_o (by omega)]; exact hnow))
      · unfold R_ets
        rw [fg_40]
        exact i32_59 (n := s + r) (by show (f.1 40 0).toInt = _; rw [hm]; omega)
      · have := hQ σ' A'' g1 (fun q i hq => (g2 q i hq).trans (hA6 q i hq)) ((hk4.tr hk6).tr g3)
        rw [← i32_cnt] at this
        exact this
theorem k_endDue {nowv : Int32} (hR : RelC th B b xl σ f A G T) (hm : (f.1 40 0).toInt = (m : Int)) (hnow : nowv = f.1 1 0) : jc th (d + 4) 161 [.ref (B + 6), .int nowv] σ (fun r σ' => r = some (.int (Int32.ofNat (R_tsl m 0 f).1)) ∧ ∃ A', RelC th B b xl σ' (R_tsl m 0 f).2 A' G T ∧ (∀ q i, ¬ (q = 8 ∨ q = 81 ∨ q = 82 ∨ q = 83) → A' q i = A q i) ∧ kp B σ σ') := by
  have hL := hR.1.2.2.2.2.2.2.2.2.2.1
  obtain ⟨n0, m1, m2, hal, -⟩ := id hR.2.2.2.2.2.2.2
  have en : n0 = m := by omega
  obtain ⟨⟨mc, hl⟩, -⟩ := hal
  rw [List.length_map, List.length_range, en] at hl
  refine cl_go dt_161 40 [(15, [0, 1, 2, 3, 4])] dt_161_k rfl ?_
  intro C J hC hJ
  conv => whnf
  refine ⟨_, jx_getF_of (hL) rfl, ?_⟩
  conv => whnf
  refine ⟨jx_isC_of hl, hC _ _ _ _ (((k_size (d := d) hl).up (by omega)).mp ?_)⟩
  rintro r s1 ⟨rfl, hs1⟩
  rw [hs1]
  conv => whnf
  refine hJ _ _ _ _ (k_ed_l m 0 0 0 _ f A σ (by decide) (i32_ofNat (by omega)) (by rw [hm]; omega) hR (fun σ' A' g1 g2 g3 => ?_) nowv hnow)
  rw [Int32.zero_add]
  exact ⟨rfl, A', g1, g2, g3⟩
end JxTick
