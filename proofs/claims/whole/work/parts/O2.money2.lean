/-! WHAT IS RESERVED stays the sum of the grants: a CREDIT -/
section JxMoney2
variable {f F : jx_F} {n i m s ac nA mm b : Nat} {v : Int64} {av pv : Int32}
theorem rf_ul_self {k j : Nat} : rf_ul f k j (f.2 k j) = f := by
  refine Prod.ext rfl ?_
  funext a c
  show (if a = k ∧ c = j then f.2 k j else f.2 a c) = f.2 a c
  split
  · rename_i h
    rw [h.1, h.2]
  · rfl
theorem MI.set (h : MI f) (hm : (f.1 40 0).toInt = (m : Int)) (hs : s < m) (h35 : F.1 35 0 = f.1 35 0) (h40 : F.1 40 0 = f.1 40 0) (h44 : ∀ j, F.1 44 j = f.1 44 j) (h45 : ∀ j, j ≠ s → F.2 45 j = f.2 45 j) (h37 : ∀ j, j ≠ R_acn f s → F.2 37 j = f.2 37 j ∧ F.2 38 j = f.2 38 j) (e38 : (F.2 38 (R_acn f s)).toInt = (f.2 38 (R_acn f s)).toInt + (F.2 45 s).toInt - (f.2 45 s).toInt) (g0 : 0 ≤ (F.2 45 s).toInt) (g1 : (F.2 45 s).toInt ≤ 1152921504606846976) (b0 : 0 ≤ (F.2 37 (R_acn f s)).toInt) (b1 : (F.2 37 (R_acn f s)).toInt ≤ 1152921504606846976) (b2 : (F.2 38 (R_acn f s)).toInt ≤ (F.2 37 (R_acn f s)).toInt) : MI F := by
  obtain ⟨x, x1, x2, x3, x4⟩ := h.ac hm hs
  obtain ⟨⟨x', m', e1, e2, h1, h2⟩, q1, q2⟩ := h
  have ex : x' = x := by omega
  have em : m' = m := by omega
  rw [ex] at h1 h2
  rw [em] at h1 h2
  refine ⟨⟨x, m, by rw [h35]; exact x1, by rw [h40]; exact hm, fun j hj => ?_, fun j hj => ?_⟩, by rw [h35]; exact q1, by rw [h40]; exact q2⟩
  · obtain ⟨y, y1, y2, y3, y4⟩ := h1 j hj
    refine ⟨y, by rw [h44]; exact y1, y2, ?_⟩
    by_cases e : j = s
    · rw [e]; exact ⟨g0, g1⟩
    · rw [h45 j e]; exact ⟨y3, y4⟩
  · obtain ⟨k1, k2, k3, k4⟩ := h2 j hj
    rw [msum_set (f := f) (f' := F) (s := s) h44 h45 m]
    by_cases e : j = R_acn f s
    · rw [e] at k1 k2 k3 k4 ⊢
      rw [if_pos ⟨hs, x4⟩]
      exact ⟨b0, b1, by omega, b2⟩
    · rw [(h37 j e).1, (h37 j e).2, if_neg (fun z => e (by omega))]
      exact ⟨k1, k2, by omega, k4⟩
theorem MI.fre (h : MI f) (hn : (f.1 35 0).toInt = (nA : Int)) (hi : i < nA) : (R_fre f i).toInt = (f.2 37 i).toInt - (f.2 38 i).toInt ∧ 0 ≤ (R_fre f i).toInt ∧ (R_fre f i).toInt ≤ 1152921504606846976 ∧ 0 ≤ (f.2 38 i).toInt ∧ 0 ≤ (f.2 37 i).toInt ∧ (f.2 37 i).toInt ≤ 1152921504606846976 := by
  obtain ⟨⟨x', m', e1, e2, h1, h2⟩, q1, q2⟩ := h
  obtain ⟨k1, k2, k3, k4⟩ := h2 i (by omega)
  have hnn := (msum_nn (f := f) (i := i) (m := m') (fun j hj => by obtain ⟨_, _, _, z, _⟩ := h1 j hj; exact z)).1
  have e : (R_fre f i).toInt = (f.2 37 i).toInt - (f.2 38 i).toInt := i64_sub rfl rfl (by omega) (by omega)
  exact ⟨e, by omega, by omega, by omega, k1, k2⟩
/-- a SESSION is charged, its grant is free -/
theorem chs_v (h : MI f) (hm : (f.1 40 0).toInt = (m : Int)) (hs : s < m) (hu : 0 ≤ (R_un f 84 0).toInt) : MI (R_chs f s) ∧ (R_chs f s).2 45 s = 0 := by
  obtain ⟨x, x1, x2, x3, x4⟩ := h.ac hm hs
  obtain ⟨w1, w2, w3, w4⟩ := rsv_v h hm hs
  obtain ⟨y1, y2, y3, y4, y5, y6⟩ := h.fre x1 x3
  obtain ⟨ac, hac⟩ : ∃ ac, ac = R_acn f s := ⟨_, rfl⟩
  have hg1 : (f.2 45 s).toInt ≤ 1152921504606846976 := by omega
  have c0 : 0 ≤ (R_chv f s).toInt ∧ (R_chv f s).toInt ≤ (f.2 45 s).toInt := by
    unfold R_chv
    split <;> omega
  obtain ⟨ch, hch⟩ : ∃ ch, ch = R_chv f s := ⟨_, rfl⟩
  rw [← hch] at c0
  rw [← hac] at w1 w3 w4 y1 y2 y3 y4 y5 y6 x3
  have eF : R_chs f s = R_rel (R_chg f ac ch) s := by unfold R_chs; rw [← hac, ← hch]
  have e1 : ∀ q, (R_chg f ac ch).2 45 q = f.2 45 q := fun q => by unfold R_chg; rw [rf_ul_ne (by omega), rf_ul_ne (by omega)]
  have e2 : R_acn (R_chg f ac ch) s = ac := by rw [hac]; rfl
  have v45 : (R_chs f s).2 45 s = 0 := by rw [eF]; unfold R_rel; exact rf_ul_eq
  have v38 : (R_chs f s).2 38 ac = f.2 38 ac - f.2 45 s := by
    rw [eF]
    unfold R_rel R_rsv
    rw [rf_ul_ne (by omega), e2, rf_ul_eq, e1]
    unfold R_chg
    rw [rf_ul_ne (by omega), rf_ul_ne (by omega)]
  have v37 : (R_chs f s).2 37 ac = f.2 37 ac - ch := by
    rw [eF]
    unfold R_rel R_rsv R_chg
    rw [rf_ul_ne (by omega), rf_ul_ne (by omega), rf_ul_ne (by omega), rf_ul_eq]
  have vo : ∀ q j, ¬ (q = 45 ∧ j = s) → ¬ ((37 ≤ q ∧ q ≤ 39) ∧ j = ac) → (R_chs f s).2 q j = f.2 q j := fun q j z1 z2 => by
    rw [eF]
    unfold R_rel R_rsv
    rw [rf_ul_ne (by omega), e2, rf_ul_ne (by omega)]
    unfold R_chg
    rw [rf_ul_ne (by omega), rf_ul_ne (by omega)]
  have z0 : (0 : Int64).toInt = 0 := by decide
  have i37 : (f.2 37 ac - ch).toInt = (f.2 37 ac).toInt - ch.toInt := i64_sub rfl rfl (by omega) (by omega)
  have i38 : (f.2 38 ac - f.2 45 s).toInt = (f.2 38 ac).toInt - (f.2 45 s).toInt := i64_sub rfl rfl (by omega) (by omega)
  refine ⟨h.set (s := s) hm hs rfl rfl (fun _ => rfl) (fun j hj => vo _ _ (by omega) (by omega)) (fun j hj => ⟨vo _ _ (by omega) (by omega), vo _ _ (by omega) (by omega)⟩) ?_ ?_ ?_ ?_ ?_ ?_, v45⟩
  · rw [← hac, v38, v45, i38]; omega
  · rw [v45]; omega
  · rw [v45]; omega
  · rw [← hac, v37, i37]; omega
  · rw [← hac, v37, i37]; omega
  · rw [← hac, v37, v38, i37, i38]; omega
theorem MI.of' (h : MI f) : MI (R_of f s pv) := by
  refine MI.of h (of_o (by omega) (by omega) (by omega)) (of_o (by omega) (by omega) (by omega)) (fun s => of_o (by omega) (by omega) (by omega)) (fun q j hq => ?_)
  show (R_of0 f s pv).2 q j = _
  show (rf_ul f 46 s (R_cnt f)).2 q j = _
  rw [rf_ul_ne (by omega)]
theorem of_l {q j : Nat} (h : ¬ (q = 46 ∧ j = s)) : (R_of f s pv).2 q j = f.2 q j := by
  show (rf_ul f 46 s (R_cnt f)).2 q j = _
  rw [rf_ul_ne h]
/-- what is granted -/
theorem gw_v (h : MI f) (hn : (f.1 35 0).toInt = (nA : Int)) (hi : i < nA) (hu : 0 ≤ (R_un f 83 1000).toInt) : 0 ≤ (R_gw f i).toInt ∧ (R_gw f i).toInt ≤ (R_fre f i).toInt := by
  obtain ⟨y1, y2, y3, y4, y5, y6⟩ := h.fre hn hi
  unfold R_gw
  split <;> omega
theorem grnt_l {q j : Nat} (h1 : ¬ (q = 45 ∧ j = s)) (h2 : ¬ (q = 38 ∧ j = i)) (h3 : ¬ (q = 90 ∧ j = 0)) : (R_grnt f s i).2 q j = f.2 q j := by
  unfold R_grnt
  rw [rf_ul_ne (by omega)]
  show (rf_ul (rf_ul f 45 s _) 38 i _).2 q j = _
  rw [rf_ul_ne (by omega), rf_ul_ne (by omega)]
theorem grnt_45 : (R_grnt f s i).2 45 s = R_gw f i := by
  unfold R_grnt
  rw [rf_ul_ne (by omega)]
  show (rf_ul (rf_ul f 45 s (R_gw f i)) 38 i (f.2 38 i + R_gw f i)).2 45 s = _
  rw [rf_ul_ne (by omega), rf_ul_eq]
theorem grnt_38 : (R_grnt f s i).2 38 i = f.2 38 i + R_gw f i := by
  unfold R_grnt
  rw [rf_ul_ne (by omega)]
  show (rf_ul (rf_ul f 45 s _) 38 i _).2 38 i = _
  rw [rf_ul_eq]
theorem grnt_o {q j : Nat} (h : ¬ (q = 89 ∧ j = 0)) : (R_grnt f s i).1 q j = f.1 q j := by
  unfold R_grnt
  show (rf_ui (rf_ul (rf_ul f 45 s _) 38 i _) 89 0 1).1 q j = _
  rw [rf_ui_ne h]
  rfl
theorem grnt_90 : (R_grnt f s i).2 90 0 = R_gw f i := by
  unfold R_grnt
  exact rf_ul_eq
theorem grnt_89 : (R_grnt f s i).1 89 0 = 1 := by
  unfold R_grnt
  show (rf_ui (rf_ul (rf_ul f 45 s (R_gw f i)) 38 i (f.2 38 i + R_gw f i)) 89 0 1).1 89 0 = 1
  exact rf_ui_eq
theorem MI.grnt (h : MI f) (hm : (f.1 40 0).toInt = (m : Int)) (hs : s < m) (h45 : f.2 45 s = 0) (hu : 0 ≤ (R_un f 83 1000).toInt) : MI (R_grnt f s (R_acn f s)) := by
  obtain ⟨x, x1, x2, x3, x4⟩ := h.ac hm hs
  obtain ⟨y1, y2, y3, y4, y5, y6⟩ := h.fre x1 x3
  obtain ⟨g1, g2⟩ := gw_v h x1 x3 hu
  have z0 : (0 : Int64).toInt = 0 := by decide
  have i38 : (f.2 38 (R_acn f s) + R_gw f (R_acn f s)).toInt = (f.2 38 (R_acn f s)).toInt + (R_gw f (R_acn f s)).toInt := i64_add rfl rfl (by omega) (by omega)
  refine h.set (s := s) hm hs (grnt_o (by omega)) (grnt_o (by omega)) (fun _ => grnt_o (by omega)) (fun j hj => grnt_l (by omega) (by omega) (by omega)) (fun j hj => ⟨grnt_l (by omega) (by omega) (by omega), grnt_l (by omega) (by omega) (by omega)⟩) ?_ ?_ ?_ ?_ ?_ ?_
  · rw [grnt_38, grnt_45, i38, h45]; omega
  · rw [grnt_45]; exact g1
  · rw [grnt_45]; omega
  · rw [grnt_l (by omega) (by omega) (by omega)]; exact y5
  · rw [grnt_l (by omega) (by omega) (by omega)]; exact y6
  · rw [grnt_38, i38, grnt_l (by omega) (by omega) (by omega)]; omega
theorem rsv_self (h : f.2 45 s = 0) : R_rsv f s = f := by
  unfold R_rsv
  rw [h, Int64.sub_zero]
  exact rf_ul_self
theorem un_eq {f' : jx_F} {k : Nat} (h : ∀ q j, q = 29 ∨ q = 67 ∨ q = k → f'.1 q j = f.1 q j) : R_un f' k v = R_un f k v := by
  unfold R_un
  rw [h k 0 (by omega), h 67 0 (by omega), show oct f' (f.1 67 0).toNatClampNeg = oct f (f.1 67 0).toNatClampNeg from by funext j; exact h 29 _ (by omega)]
theorem un_0 (h : 0 ≤ (R_un f 83 0).toInt) : 0 ≤ (R_un f 83 1000).toInt := by
  unfold R_un at h ⊢
  split
  · decide
  · rename_i e
    rw [if_neg e] at h
    exact h
theorem MI.gon (h : MI f) (hm : (f.1 40 0).toInt = (mm : Int)) (hm16 : mm ≤ 16) (hu4 : 0 ≤ (R_un f 84 0).toInt) (hu3 : 0 ≤ (R_un f 83 0).toInt) : MI (R_gon f mm pv).2 := by
  unfold R_gon
  split
  · exact h
  rename_i e1
  have sm : R_so f mm 0 < mm := by have := R_so_r (f := f) mm 0 e1; omega
  obtain ⟨k1, k2⟩ := chs_v h hm sm hu4
  split
  · exact h
  split
  · have := k1.ets (s := R_so f mm 0) (m := mm) hm sm
    rw [rsv_self k2] at this
    exact this
  split
  · exact k1.of'
  have e44 : R_acn (R_of (R_chs f (R_so f mm 0)) (R_so f mm 0) pv) (R_so f mm 0) = R_acn f (R_so f mm 0) := by
    unfold R_acn
    rw [of_o (by omega) (by omega) (by omega)]
    rfl
  have := (k1.of' (s := R_so f mm 0) (pv := pv)).grnt (m := mm) (s := R_so f mm 0) (by rw [of_o (by omega) (by omega) (by omega)]; exact hm) sm (by rw [of_l (by omega)]; exact k2) (by rw [un_eq (f := f) (fun q j hq => by rw [of_o (by omega) (by omega) (by omega)]; rfl)]; exact un_0 hu3)
  rw [e44] at this
  exact this
theorem MI.evt (h : MI f) (hn : (f.1 35 0).toInt = (nA : Int)) (hA : nA ≤ 16) (h0 : 0 ≤ v.toInt) (h1 : v.toInt ≤ 1152921504606846976) (hsb : R_sub f nA ≠ 16 → R_sub f nA < nA) : MI (R_evt f nA av v).2 := by
  have key : ∀ (F : jx_F) (i : Nat), i < nA → F.1 = f.1 → (∀ q j, ¬ ((q = 37 ∨ q = 39) ∧ j = i) → F.2 q j = f.2 q j) → 0 ≤ (F.2 37 i).toInt → (F.2 37 i).toInt ≤ 1152921504606846976 → (f.2 38 i).toInt ≤ (F.2 37 i).toInt → MI F := by
    intro F i hi e1 e2 b0 b1 b2
    obtain ⟨⟨x', m', q1, q2, h1, h2⟩, z1, z2⟩ := id h
    refine ⟨⟨x', m', by rw [e1]; exact q1, by rw [e1]; exact q2, fun s hs => by rw [e1, e2 _ _ (by omega)]; exact h1 s hs, fun j hj => ?_⟩, by rw [e1]; exact z1, by rw [e1]; exact z2⟩
    obtain ⟨k1, k2, k3, k4⟩ := h2 j hj
    rw [e2 38 j (by omega), msum_eq (f := f) (f' := F) (fun s _ => by rw [e1]) (fun s _ => e2 _ _ (by omega))]
    by_cases ej : j = i
    · rw [ej] at k3 ⊢
      exact ⟨b0, b1, k3, b2⟩
    · rw [e2 37 j (by omega)]
      exact ⟨k1, k2, k3, k4⟩
  unfold R_evt
  split
  · exact h
  rename_i hs
  obtain ⟨y1, y2, y3, y4, y5, y6⟩ := h.fre hn (hsb hs)
  obtain ⟨i, hi⟩ : ∃ i, i = R_sub f nA := ⟨_, rfl⟩
  rw [← hi] at y1 y2 y3 y4 y5 y6 ⊢
  have hin : i < nA := by rw [hi]; exact hsb hs
  split
  · exact MI.of h (rf_ui_ne (by omega)) (rf_ui_ne (by omega)) (fun s => rf_ui_ne (by omega)) (fun _ _ _ => rfl)
  split
  · split
    · exact h
    · rename_i hv
      have e37 : (R_chg f i v).2 37 i = f.2 37 i - v := by unfold R_chg; rw [rf_ul_ne (by omega), rf_ul_eq]
      have i37 : (f.2 37 i - v).toInt = (f.2 37 i).toInt - v.toInt := i64_sub rfl rfl (by omega) (by omega)
      exact key (R_chg f i v) i hin rfl (fun q j z => by unfold R_chg; rw [rf_ul_ne (by omega), rf_ul_ne (by omega)]) (by rw [e37]; omega) (by rw [e37]; omega) (by rw [e37]; omega)
  split
  · exact h
  · rename_i hv
    have e37 : (R_bck f i v).2 37 i = f.2 37 i + v := by unfold R_bck; rw [rf_ul_ne (by omega), rf_ul_eq]
    have i37 : (f.2 37 i + v).toInt = (f.2 37 i).toInt + v.toInt := i64_add rfl rfl (by omega) (by omega)
    exact key (R_bck f i v) i hin rfl (fun q j z => by unfold R_bck; rw [rf_ul_ne (by omega), rf_ul_ne (by omega)]) (by rw [e37]; omega) (by rw [e37]; omega) (by rw [e37]; omega)
theorem beg0_l : (R_beg0 f mm i).2 = f.2 := rfl
theorem beg0_40 : (R_beg0 f mm i).1 40 0 = f.1 40 0 + 1 := by
  unfold R_beg0 R_cpT
  rw [rf_ui_ne (by omega), R_cy_o (by omega), rf_ui_ne (by omega), rf_ui_eq]
theorem beg0_44 : (R_beg0 f mm i).1 44 mm = Int32.ofNat i := by
  unfold R_beg0
  exact rf_ui_eq
theorem MI.beg (h : MI f) (hn : (f.1 35 0).toInt = (nA : Int)) (hm : (f.1 40 0).toInt = (mm : Int)) (hm16 : mm < 16) (hi : i < nA) (hu : 0 ≤ (R_un f 83 0).toInt) : MI (R_grnt (R_of (R_beg0 f mm i) mm pv) mm i) := by
  obtain ⟨y1, y2, y3, y4, y5, y6⟩ := h.fre hn hi
  obtain ⟨⟨x', m', e1, e2, h1, h2⟩, q1, q2⟩ := id h
  have em : m' = mm := by omega
  have ex : x' = nA := by omega
  rw [em] at h1 h2
  rw [ex] at h1 h2
  obtain ⟨F, hF⟩ : ∃ F, F = R_of (R_beg0 f mm i) mm pv := ⟨_, rfl⟩
  have oF : ∀ q j, q ≠ 40 → q ≠ 41 → q ≠ 42 → q ≠ 43 → q ≠ 47 → q ≠ 48 → ¬ (q = 44 ∧ j = mm) → F.1 q j = f.1 q j := fun q j z1 z2 z3 z4 z5 z6 z7 => by
    rw [hF, of_o z3 z4 (by omega), beg0_o (by omega)]
  have lF : ∀ q j, q ≠ 46 → F.2 q j = f.2 q j := fun q j z => by rw [hF, of_l (by omega)]; rfl
  have F40 : F.1 40 0 = f.1 40 0 + 1 := by rw [hF, of_o (by omega) (by omega) (by omega), beg0_40]
  have F44 : F.1 44 mm = Int32.ofNat i := by rw [hF, of_o (by omega) (by omega) (by omega), beg0_44]
  have eU : R_un F 83 1000 = R_un f 83 1000 := un_eq (fun q j hq => oF q j (by omega) (by omega) (by omega) (by omega) (by omega) (by omega) (by omega))
  have eR : R_fre F i = R_fre f i := by unfold R_fre; rw [lF _ _ (by omega), lF _ _ (by omega)]
  have eG : R_gw F i = R_gw f i := by unfold R_gw; rw [eU, eR]
  obtain ⟨g1, g2⟩ := gw_v h hn hi (un_0 hu)
  rw [← hF]
  have i38 : (f.2 38 i + R_gw f i).toInt = (f.2 38 i).toInt + (R_gw f i).toInt := i64_add rfl rfl (by omega) (by omega)
  have c40 : (f.1 40 0 + 1).toInt = ((mm + 1 : Nat) : Int) := by rw [i32_add (c := 1) hm (by decide) (by omega) (by omega)]; omega
  have g44 : ∀ j, j < mm → (R_grnt F mm i).1 44 j = f.1 44 j := fun j hj => by rw [grnt_o (by omega), oF _ _ (by omega) (by omega) (by omega) (by omega) (by omega) (by omega) (by omega)]
  have g44m : ((R_grnt F mm i).1 44 mm).toInt = (i : Int) := by rw [grnt_o (by omega), F44]; exact i32_ofNat (by omega)
  have g45 : ∀ j, j < mm → (R_grnt F mm i).2 45 j = f.2 45 j := fun j hj => by rw [grnt_l (by omega) (by omega) (by omega), lF _ _ (by omega)]
  have g45m : (R_grnt F mm i).2 45 mm = R_gw f i := by rw [grnt_45, eG]
  have g37 : ∀ j, (R_grnt F mm i).2 37 j = f.2 37 j := fun j => by rw [grnt_l (by omega) (by omega) (by omega), lF _ _ (by omega)]
  have g38 : (R_grnt F mm i).2 38 i = f.2 38 i + R_gw f i := by rw [grnt_38, eG, lF _ _ (by omega)]
  have g38o : ∀ j, j ≠ i → (R_grnt F mm i).2 38 j = f.2 38 j := fun j hj => by rw [grnt_l (by omega) (by omega) (by omega), lF _ _ (by omega)]
  refine ⟨⟨nA, mm + 1, by rw [grnt_o (by omega), oF _ _ (by omega) (by omega) (by omega) (by omega) (by omega) (by omega) (by omega)]; exact hn, by rw [grnt_o (by omega), F40]; exact c40, fun s hs => ?_, fun j hj => ?_⟩, by rw [grnt_o (by omega), oF _ _ (by omega) (by omega) (by omega) (by omega) (by omega) (by omega) (by omega)]; exact q1, by rw [grnt_o (by omega), F40, c40]; omega⟩
  · by_cases e : s = mm
    · rw [e]
      exact ⟨i, g44m, hi, by rw [g45m]; exact g1, by rw [g45m]; omega⟩
    · rw [g44 s (by omega), g45 s (by omega)]
      exact h1 s (by omega)
  · obtain ⟨k1, k2, k3, k4⟩ := h2 j hj
    rw [msum_s, msum_eq (f := f) g44 g45, g44m, g45m, g37]
    by_cases e : j = i
    · rw [e] at k1 k2 k3 k4 ⊢
      rw [if_pos rfl, g38, i38]
      exact ⟨k1, k2, by omega, by omega⟩
    · rw [if_neg (by omega), g38o j e]
      exact ⟨k1, k2, by omega, k4⟩
end JxMoney2
