/-! THE CLASS: a CREDIT that goes on, or ends: the method -/
section JxGoon2
variable {th : Nat → Nat} {B b d m s ac i n k bb L X S H Z nA mm p : Nat} {xl : List Int32} {σ σ' : jx_S} {f f' F : jx_F} {A A' : Nat → Nat → Nat} {G : Nat → Nat → Int32} {T : Nat → Nat} {o : Nat → Int32} {t pv : Int32} {gr en : Int64}
theorem te_of (h : TE f gr en) (o1 : f'.1 89 0 = f.1 89 0) (o2 : f'.1 91 0 = f.1 91 0) (o3 : f'.2 90 0 = f.2 90 0) : TE f' gr en := by
  unfold TE at h ⊢
  rw [o1, o2, o3]
  exact h
theorem k_goOn (hR : RelC th B b xl σ f A G T) (hE : CRE o L bb f) (hX : CX B σ T X S H Z (.ref (A 6 p)) (f.1 1 0) o L gr en) (hm : (f.1 40 0).toInt = (mm : Int)) (hM : MI f) (hu3 : 0 ≤ (c_un o L 437 0).toInt) (hu4 : 0 ≤ (c_un o L 446 0).toInt) (hT : TE f gr en) (hl0 : c_len o L 263 ≤ 40) (hl1 : c_len o L 264 ≤ 40) (hl2 : c_len o L 296 ≤ 40) (hp : (p : Int) < (f.1 7 0).toInt) (hp4 : p < 4) (hpv : pv = Int32.ofNat p) : jc th (d + 5) 142 [.ref (B + 6), .ref X] σ (fun r σ' => r = some (.int (R_gon f mm pv).1) ∧ ∃ A' gr' en', RelC th B b xl σ' (R_gon f mm pv).2 A' G T ∧ CX B σ' T X S H Z (.ref (A 6 p)) (f.1 1 0) o L gr' en' ∧ TE (R_gon f mm pv).2 gr' en' ∧ σ'.2 = σ.2 ∧ (∀ q i, ¬ (q = 8 ∨ q = 81 ∨ q = 82 ∨ q = 83) → A' q i = A q i) ∧ chg (WL B σ T) σ σ' T T) := by
  have hL := hR.1.2.2.2.2.2.2.2.2.2.1
  have hB := hR.1.2.2.2.2.1
  obtain ⟨n0, m1, m2, hal, hinj, hse⟩ := id hR.2.2.2.2.2.2.2
  have en0 : n0 = mm := by omega
  rw [en0] at hal hse m2
  have hal0 := hal
  obtain ⟨⟨mc, hl'⟩, -⟩ := hal
  rw [List.length_map, List.length_range] at hl'
  obtain ⟨hXd, hx, r1, r2, r3⟩ := id hX
  have hpl := k_placeOf (th := th) (d := d) hR hE hl0 hm r1
  have eU4 : R_un f 84 0 = c_un o L 446 0 := hE.1.2.2.2.2.2.1 0
  have eU3 : R_un f 83 0 = c_un o L 437 0 := hE.1.2.2.2.2.1 0
  have eU3k : R_un f 83 1000 = c_un o L 437 1000 := hE.1.2.2.2.2.1 1000
  refine cl_go dt_142 90 [] dt_142_k rfl ?_
  intro C J hC hJ
  conv => whnf
  refine ⟨_, jx_getF_of (hx) rfl, ?_⟩
  conv => whnf
  refine ⟨jx_isC_of hL, hC _ _ _ _ (hpl.mp ?_)⟩
  rintro r s1 ⟨hr, hs1⟩
  rw [hs1]
  rcases hr with ⟨e1, rfl⟩ | ⟨e1, rfl⟩
  · obtain ⟨s, hs⟩ : ∃ s, s = R_so f mm 0 := ⟨_, rfl⟩
    have sm : s < mm := by have := R_so_r (f := f) mm 0 e1; omega
    have hg0 : R_gon f mm pv = if (R_cnt f).toInt ≤ (f.2 46 s).toInt then (5012, f) else if R_typ f = 3 then (2001, R_forget (R_chs f s) mm s) else if R_fre (R_of (R_chs f s) s pv) (R_acn f s) = 0 then (4012, R_of (R_chs f s) s pv) else (2001, R_grnt (R_of (R_chs f s) s pv) s (R_acn f s)) := by
      unfold R_gon
      rw [if_neg e1, ← hs]
    rw [← hs] at e1 ⊢
    have hs2 : (Int32.ofNat s).toInt = (s : Int) := i32_ofNat (by omega)
    obtain ⟨b1, b2, b3, b4, b5, b6, b7, b8, b9⟩ := hR.sob hm sm
    have hrs := hR.se (s := s) (by omega)
    obtain ⟨ac, hac⟩ : ∃ ac, ac = R_acn f s := ⟨_, rfl⟩
    have b3' : σ.1 (A 8 s) = some (.inr (8, [.ref (A 81 s), .ref (A 10 ac), .long (f.2 45 s), .long (f.2 46 s), .ref (A 82 s), .ref (A 83 s), va_rf (cp_ref A (f.1 47 s)), .int (f.1 48 s)])) := by rw [b3, hac]; rfl
    rw [← hac] at b1 b2 b4 b5 b7 b9 hg0
    have b4' : σ.1 (A 10 ac) = some (.inr (10, [.long (f.2 36 ac), .long (f.2 37 ac), .long (f.2 38 ac), .long (f.2 39 ac)])) := b4
    obtain ⟨xA, x1, x2, x3, x4⟩ := hM.ac hm sm
    rw [← hac] at x3 x4
    have d10 : dy B σ T (A 10 ac) (3000 + ac) := by
      obtain ⟨x, a1, a2, a3, a4⟩ := id hR.2.2.2.2.2.2.1
      exact (a4 ac (by omega)).1
    have nX8 : A 8 s ≠ X := fun z => by
      have h1 := hXd.2.2
      have h2 := hrs.1.2.2
      rw [← z] at h1
      omega
    have nX10 : A 10 ac ≠ X := fun z => by
      have h1 := hXd.2.2
      have h2 := d10.2.2
      rw [← z] at h1
      omega
    have nwW : ∀ a, a = A 8 s ∨ a = A 10 ac ∨ a = X → WL B σ T a := fun a h => by
      rcases h with h | h | h
      · exact Or.inr ⟨8, by rw [h]; exact hrs.1, Or.inr (Or.inl rfl)⟩
      · exact Or.inr ⟨3000 + ac, by rw [h]; exact d10, Or.inr (Or.inr (Or.inr ⟨by omega, by omega⟩))⟩
      · exact Or.inr ⟨7, by rw [h]; exact hXd, Or.inr (Or.inr (Or.inl rfl))⟩
    have nw81 : ∀ a, dy B σ T a 81 → ¬ (a = A 8 s ∨ a = A 10 ac ∨ a = X) := fun a hd z => by
      rcases z with z | z | z
      · have h1 := hrs.1.2.2
        rw [← z, hd.2.2] at h1
        omega
      · have h1 := d10.2.2
        rw [← z, hd.2.2] at h1
        omega
      · have h1 := hXd.2.2
        rw [← z, hd.2.2] at h1
        omega
    conv => whnf
    refine ⟨jx_isC_of hL, hC _ _ _ _ ((k_sessionAt (d := d) hL m2 hal0 hse).mp ?_)⟩
    rintro r s2 ⟨hr2, hs2'⟩
    rw [hs2']
    rcases hr2 with ⟨k, hk1, hk2, rfl⟩ | ⟨rfl, hk⟩
    · have ek : k = s := by omega
      rw [ek]
      conv => whnf
      refine ⟨_, jx_getF_of (hx) rfl, ?_⟩
      conv => whnf
      refine ⟨_, jx_getF_of (b3') rfl, ?_⟩
      conv => whnf
      refine ⟨fun (h4 : 0 < lg_cmp (c_cnt o L) (f.2 46 s)) => ?_, fun (h4 : ¬ 0 < lg_cmp (c_cnt o L) (f.2 46 s)) => ?_⟩
      · have hcn : ¬ (R_cnt f).toInt ≤ (f.2 46 s).toInt := by rw [cnt_c hE]; exact Int.not_le.mpr (lg_gt.mp h4)
        rw [if_neg hcn] at hg0
        conv => whnf
        refine ⟨jx_isC_of b3', hC _ _ _ _ (((k_chargeS (d := d) b3' b4' hx b5).up (by omega)).mp ?_)⟩
        rintro r s3 ⟨rfl, p3, q3, o3, n3⟩
        have ech : mnl (mxl (c_un o L 446 (-1)) 0) (f.2 45 s) = R_chv f s := by
          rw [mxl_un hu4, mnl_v]
          unfold R_chv
          rw [eU4]
        rw [ech] at q3
        have hx3 := (o3 X (fun z => nX8 z.symm) (fun z => nX10 z.symm)).trans hx
        have hch3 : chg (fun a => a = A 8 s ∨ a = A 10 ac ∨ a = X) σ s3 T T := ⟨fun a _ hw => o3 a (fun z => hw (Or.inl z)) (fun z => hw (Or.inr (Or.inl z))), by rw [n3]; exact Nat.le_refl _, fun _ _ => rfl⟩
        have e36 : (R_chs f s).2 36 ac = f.2 36 ac ∧ (R_chs f s).2 37 ac = f.2 37 ac - R_chv f s ∧ (R_chs f s).2 38 ac = f.2 38 ac - f.2 45 s ∧ (R_chs f s).2 39 ac = f.2 39 ac + R_chv f s ∧ (R_chs f s).2 45 s = 0 ∧ (R_chs f s).2 46 s = f.2 46 s := by
          have e2 : R_acn (R_chg f ac (R_chv f s)) s = ac := by rw [hac]; rfl
          have e45 : (R_chg f ac (R_chv f s)).2 45 s = f.2 45 s := by unfold R_chg; rw [rf_ul_ne (by omega), rf_ul_ne (by omega)]
          unfold R_chs R_rel R_rsv
          rw [← hac, e2]
          refine ⟨?_, ?_, ?_, ?_, rf_ul_eq, ?_⟩
          · rw [rf_ul_ne (by omega), rf_ul_ne (by omega)]
            unfold R_chg
            rw [rf_ul_ne (by omega), rf_ul_ne (by omega)]
          · rw [rf_ul_ne (by omega), rf_ul_ne (by omega)]
            unfold R_chg
            rw [rf_ul_ne (by omega), rf_ul_eq]
          · rw [rf_ul_ne (by omega), rf_ul_eq, e45]
            unfold R_chg
            rw [rf_ul_ne (by omega), rf_ul_ne (by omega)]
          · rw [rf_ul_ne (by omega), rf_ul_ne (by omega)]
            unfold R_chg
            rw [rf_ul_eq]
          · rw [rf_ul_ne (by omega), rf_ul_ne (by omega)]
            unfold R_chg
            rw [rf_ul_ne (by omega), rf_ul_ne (by omega)]
        obtain ⟨y36, y37, y38, y39, y45, y46⟩ := e36
        have ca3 : s3.1 (A 10 ac) = some (ca_e (R_chs f s) ac) := by
          rw [q3]
          unfold ca_e
          rw [y36, y37, y38, y39]
        have voc : ∀ q j, ¬ ((q = 45 ∨ q = 46) ∧ j = s) → ¬ ((37 ≤ q ∧ q ≤ 39) ∧ j = ac) → (R_chs f s).2 q j = f.2 q j := fun q j z1 z2 => by
          unfold R_chs R_rel R_rsv
          rw [rf_ul_ne (by omega), show R_acn (R_chg f (R_acn f s) (R_chv f s)) s = ac by rw [hac]; rfl, rf_ul_ne (by omega)]
          unfold R_chg
          rw [← hac, rf_ul_ne (by omega), rf_ul_ne (by omega)]
        obtain ⟨hMc, -⟩ := chs_v hM hm sm (by rw [eU4]; exact hu4)
        conv => whnf
        refine ⟨_, jx_getF_of (hx3) rfl, ?_⟩
        conv => whnf
        refine ⟨fun (h5 : ¬ lg_cmp (c_typ o L) 3 = 0) => ?_, fun (h5 : ¬ ¬ lg_cmp (c_typ o L) 3 = 0) => ?_⟩
        · have n3t : ¬ R_typ f = 3 := by rw [typ_c hE]; exact fun z => h5 (lg_cmp_z.mpr z)
          rw [if_neg n3t] at hg0
          conv => whnf
          refine ⟨jx_isC_of p3, hC _ _ _ _ (((k_follow (d := d) p3 hx3 nX8 rfl rfl rfl).up (by omega)).mp ?_)⟩
          rintro r s4 ⟨rfl, p4, o4, n4⟩
          conv => whnf
          refine ⟨_, jx_getF_of (p4) rfl, ?_⟩
          conv => whnf
          have q4 : s4.1 (A 10 ac) = _ := (o4 (A 10 ac) (fun z => b5 z.symm)).trans q3
          refine ⟨jx_isC_of q4, hC _ _ _ _ (((k_free (d := d) q4).up (by omega)).mp ?_)⟩
          rintro r s5 ⟨rfl, hs5⟩
          rw [hs5]
          have efr : f.2 37 ac - R_chv f s - (f.2 38 ac - f.2 45 s) = R_fre (R_of (R_chs f s) s pv) ac := by
            unfold R_fre
            rw [of_l (by omega), of_l (by omega), y37, y38]
          rw [efr]
          have hx4 := (o4 X (fun z => nX8 z.symm)).trans hx3
          have hch4 : chg (fun a => a = A 8 s ∨ a = A 10 ac ∨ a = X) σ s4 T T := ⟨fun a _ hw => (o4 a (fun z => hw (Or.inl z))).trans (o3 a (fun z => hw (Or.inl z)) (fun z => hw (Or.inr (Or.inl z)))), by rw [n4, n3]; exact Nat.le_refl _, fun _ _ => rfl⟩
          have ca4 : s4.1 (A 10 ac) = some (ca_e (R_of (R_chs f s) s pv) ac) := by
            rw [o4 _ (fun z => b5 z.symm), ca3]
            unfold ca_e
            rw [of_l (by omega), of_l (by omega), of_l (by omega), of_l (by omega)]
          have oA : ∀ q i, ¬ (q = 8 ∨ q = 81 ∨ q = 82 ∨ q = 83) → (fun q i => if q = 82 ∧ i = s then H else if q = 83 ∧ i = s then Z else A q i) q i = A q i := fun q i z => by
            show (if q = 82 ∧ i = s then H else if q = 83 ∧ i = s then Z else A q i) = A q i
            rw [if_neg (by omega), if_neg (by omega)]
          conv => whnf
          refine ⟨fun (h6 : ¬ lg_cmp (R_fre (R_of (R_chs f s) s pv) ac) 0 = 0) => ?_, fun (h6 : ¬ ¬ lg_cmp (R_fre (R_of (R_chs f s) s pv) ac) 0 = 0) => ?_⟩
          · rw [if_neg (fun z => h6 (lg_cmp_z.mpr z))] at hg0
            conv => whnf
            refine ⟨jx_isC_of p4, hC _ _ _ _ (((k_reserve (d := d) p4 q4 hx4 b5 nX8 nX10).up (by omega)).mp ?_)⟩
            rintro r s6 ⟨rfl, GG, hGG, p6, q6, x6, o6, n6⟩
            rw [efr, c_un_m hu3, mnl_v, ← eU3k] at hGG
            obtain ⟨F0, hF0⟩ : ∃ F0, F0 = R_of (R_chs f s) s pv := ⟨_, rfl⟩
            have oF0 : ∀ q j, q ≠ 42 → q ≠ 43 → q ≠ 47 → q ≠ 48 → F0.1 q j = f.1 q j := fun q j z1 z2 z3 z4 => by
              rw [hF0, of_o z1 z2 (by omega)]
              rfl
            have eGw : R_gw F0 ac = GG := by
              unfold R_gw
              rw [un_eq (f := f) (fun q j hq => oF0 q j (by omega) (by omega) (by omega) (by omega)), hGG, hF0]
            have MF0 : MI F0 := by rw [hF0]; exact hMc.of'
            have g0 := (gw_v (f := F0) (nA := xA) (i := ac) MF0 (by rw [oF0 35 0 (by omega) (by omega) (by omega) (by omega)]; exact x1) x3 (by rw [un_eq (f := f) (fun q j hq => oF0 q j (by omega) (by omega) (by omega) (by omega))]; exact un_0 (by rw [eU3]; exact hu3))).1
            rw [eGw] at g0
            conv => whnf
            have hch6 : chg (fun a => a = A 8 s ∨ a = A 10 ac ∨ a = X) σ s6 T T := ⟨fun a h1 hw => (o6 a (fun z => hw (Or.inl z)) (fun z => hw (Or.inr (Or.inl z))) (fun z => hw (Or.inr (Or.inr z)))).trans (hch4.1 a h1 hw), by rw [n6, n4, n3]; exact Nat.le_refl _, fun _ _ => rfl⟩
            rw [hg0]
            rw [← hF0]
            have RR := hR.gon (F := R_grnt F0 s ac) hm sm hac hE hl1 hl2 hX hp hp4 hpv hch6 (fun q j z => by rw [grnt_o (by omega), hF0]) (fun q j z1 z2 z3 => by rw [grnt_l z1 z2 (by omega), hF0]) (by rw [p6, grnt_45, eGw]) (by
              rw [q6]
              unfold ca_e
              rw [grnt_38, eGw, grnt_l (by omega) (by omega) (by omega), grnt_l (by omega) (by omega) (by omega), grnt_l (by omega) (by omega) (by omega), hF0, of_l (by omega), of_l (by omega), of_l (by omega), of_l (by omega), y36, y37, y38, y39])
            refine ⟨rfl, _, GG, en, RR, ⟨hch6.mv hXd, x6, hch6.ro nw81 r1, hch6.ro nw81 r2, hch6.ro nw81 r3⟩, ⟨Or.inr ⟨fun z => ?_, grnt_89, ?_⟩, ?_⟩, by rw [n6, n4, n3], oA, hch6.mono (fun a _ h => nwW a h)⟩
            · rw [z] at g0
              exact absurd g0 (by decide)
            · show GG = (R_grnt F0 s ac).2 90 0
              rw [grnt_90, eGw]
            · show (en = -1 ∧ (R_grnt F0 s ac).1 91 0 = -1) ∨ (en = 0 ∧ (R_grnt F0 s ac).1 91 0 = 0) ∨ (en = 1 ∧ (R_grnt F0 s ac).1 91 0 = 1)
              rw [grnt_o (by omega), oF0 91 0 (by omega) (by omega) (by omega) (by omega)]
              exact hT.2
          · rw [if_pos (lg_cmp_z.mp (Decidable.not_not.mp h6))] at hg0
            conv => whnf
            rw [hg0]
            have RR := hR.gon (F := R_of (R_chs f s) s pv) hm sm hac hE hl1 hl2 hX hp hp4 hpv hch4 (fun q j z => rfl) (fun q j z1 z2 z3 => rfl) (by rw [p4, of_l (by omega), y45]) ca4
            refine ⟨rfl, _, gr, en, RR, ⟨hch4.mv hXd, hx4, hch4.ro nw81 r1, hch4.ro nw81 r2, hch4.ro nw81 r3⟩, te_of hT ?_ ?_ ?_, by rw [n4, n3], oA, hch4.mono (fun a _ h => nwW a h)⟩
            · show (R_of (R_chs f s) s pv).1 89 0 = _
              rw [of_o (by omega) (by omega) (by omega)]
              rfl
            · show (R_of (R_chs f s) s pv).1 91 0 = _
              rw [of_o (by omega) (by omega) (by omega)]
              rfl
            · show (R_of (R_chs f s) s pv).2 90 0 = _
              rw [of_l (by omega), voc _ _ (by omega) (by omega)]
        · have e3t : R_typ f = 3 := by rw [typ_c hE]; exact lg_cmp_z.mp (Decidable.not_not.mp h5)
          rw [if_pos e3t] at hg0
          have R3 : RelC th B b xl s3 (R_chs f s) A G T := by
            refine hR.sa7 (ac := ac) (W := fun a => a = A 8 s ∨ a = A 10 ac ∨ a = X) hm sm b1 hch3 (fun a h => ?_) ?_ ca3 (fun q j _ _ _ _ _ => rfl) (fun q j z1 z2 _ => voc q j z1 z2) (fun _ _ _ => rfl)
            · rcases h with h | h | h
              · exact Or.inl h
              · exact Or.inr (Or.inl h)
              · exact Or.inr (Or.inr (by rw [h]; exact hXd))
            · obtain ⟨t1, t2, t3, t4, ⟨k5, u5, u6, u7⟩, ⟨k8, u8, u9, u10⟩, ⟨k11, u11, u12, u13⟩⟩ := hrs
              refine ⟨hch3.mv t1, ?_, t3, t4, ⟨k5, u5, u6, hch3.ro nw81 u7⟩, ⟨k8, u8, u9, hch3.ro nw81 u10⟩, ⟨k11, u11, u12, hch3.ro nw81 u13⟩⟩
              rw [p3]
              unfold cs_e
              rw [y45, y46, show ((R_chs f s).1 44 s).toNatClampNeg = ac by rw [hac]; rfl]
              rfl
          have hal3 := R3.2.2.2.2.2.2.2
          obtain ⟨n3', m31, m32, ⟨⟨mc3, hl3⟩, -⟩, -⟩ := hal3
          have hL3 := R3.1.2.2.2.2.2.2.2.2.2.1
          conv => whnf
          refine ⟨_, jx_getF_of (hL3) rfl, ?_⟩
          conv => whnf
          refine ⟨jx_isC_of hl3, hC _ _ _ _ (((k_rmS (d := d) R3 (show ((R_chs f s).1 40 0).toInt = (mm : Int) from hm) sm hs2).up (by omega)).mp ?_)⟩
          rintro r s4 ⟨⟨xr, rfl⟩, A', R4, oA4, k4, o4⟩
          conv => whnf
          rw [hg0]
          have e74 : dy B σ T (A 70 4) 74 := by
            obtain ⟨-, hE4⟩ := hal0
            rcases hE4 with ⟨-, hE4⟩ | ⟨hE4, -⟩
            · have := congrArg List.length hE4
              rw [List.length_map, List.length_range] at this
              exact absurd this (by show ¬ mm = 0; omega)
            · exact hE4
          have hch4 : chg (WL B σ T) σ s4 T T := ⟨fun a h1 hw => by
            rw [o4 a (fun z => hw (Or.inl z)) (fun z => hw (Or.inr ⟨74, by rw [z]; exact e74, Or.inl rfl⟩))]
            exact hch3.1 a h1 (fun z => hw (nwW a z)), by rw [k4.1, n3]; exact Nat.le_refl _, fun _ _ => rfl⟩
          have nX70 : X ≠ A 70 4 := fun z => by
            have h1 := hXd.2.2
            have h2 := e74.2.2
            rw [← z] at h2
            omega
          have nWL81 : ∀ a, dy B σ T a 81 → ¬ (a = B + 8 ∨ a = A 70 4 ∨ a = A 8 s ∨ a = A 10 ac ∨ a = X) := fun a hd z => by
            rcases z with z | z | z
            · have := hd.1; omega
            · have h1 := e74.2.2
              rw [← z, hd.2.2] at h1
              omega
            · exact nw81 a hd z
          have hch5 : chg (fun a => a = B + 8 ∨ a = A 70 4 ∨ a = A 8 s ∨ a = A 10 ac ∨ a = X) σ s4 T T := ⟨fun a h1 hw => by
            rw [o4 a (fun z => hw (Or.inl z)) (fun z => hw (Or.inr (Or.inl z)))]
            exact hch3.1 a h1 (fun z => hw (Or.inr (Or.inr z))), by rw [k4.1, n3]; exact Nat.le_refl _, fun _ _ => rfl⟩
          refine ⟨rfl, A', gr, en, R4, ⟨hch4.mv hXd, ?_, hch5.ro nWL81 r1, hch5.ro nWL81 r2, hch5.ro nWL81 r3⟩, te_of hT ?_ ?_ ?_, by rw [k4.1, n3], oA4, hch4⟩
          · rw [o4 X (by have := hXd.1; omega) nX70]
            exact hx3
          · show (R_forget (R_chs f s) mm s).1 89 0 = _
            rw [fg_o (by omega)]
            rfl
          · show (R_forget (R_chs f s) mm s).1 91 0 = _
            rw [fg_o (by omega)]
            rfl
          · show (R_forget (R_chs f s) mm s).2 90 0 = _
            rw [fg_l (by omega), voc _ _ (by omega) (by omega)]
      · rw [if_pos (by rw [cnt_c hE]; exact Int.not_lt.mp (fun z => h4 (lg_gt.mpr z)))] at hg0
        conv => whnf
        rw [hg0]
        exact ⟨rfl, A, gr, en, hR, hX, hT, rfl, fun _ _ _ => rfl, ⟨fun _ _ _ => rfl, Nat.le_refl _, fun _ _ => rfl⟩⟩
    · rcases hk with hk | hk
      · exact absurd hk (nneg (by omega))
      · exact absurd ((nlt (by omega) (by omega)).mpr sm) hk
  · conv => whnf
    refine ⟨jx_isC_of hL, hC _ _ _ _ ((k_sessionAt (d := d) hL m2 hal0 hse).mp ?_)⟩
    rintro r s2 ⟨hr2, hs2'⟩
    rw [hs2']
    have e0 : R_gon f mm pv = (5002, f) := by unfold R_gon; rw [if_pos e1]
    rcases hr2 with ⟨k, hk1, hk2, rfl⟩ | ⟨rfl, -⟩
    · exact absurd hk1 (by rw [show (-1 : Int32).toInt = -1 by decide]; omega)
    · conv => whnf
      rw [e0]
      exact ⟨rfl, A, gr, en, hR, hX, hT, rfl, fun _ _ _ => rfl, ⟨fun _ _ _ => rfl, Nat.le_refl _, fun _ _ => rfl⟩⟩
end JxGoon2
