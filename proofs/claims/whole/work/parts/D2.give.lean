/-! THE CLASS: a PEER's ASKS are given over -/
section JxGive
variable {th : Nat → Nat} {d B b p c i q n a : Nat} {xl : List Int32} {σ σ' : jx_S} {f f' : jx_F} {A : Nat → Nat → Nat} {G : Nat → Nat → Int32} {T : Nat → Nat} {Q : Option Value → jx_S → Prop}
/-- what giving over needs of the ASKS from k on, and of the PEER that gets them -/
def GQ (f : jx_F) (n a k : Nat) : Prop := ∀ i, k ≤ i → i < a → (∃ u : Nat, (f.1 54 i).toInt = (u : Int) ∧ u < n) ∧ (∃ t : Nat, (f.1 55 i).toInt = (t : Int) ∧ 1 ≤ t ∧ t < 2147483640) ∧ 0 ≤ (f.2 53 i).toInt ∧ (f.2 53 i).toInt < 4294967296
def GL (f : jx_F) (q : Nat) : Prop := ∃ c, c < 8 ∧ (lnf f q).toInt = ((c + 1 : Nat) : Int) ∧ R_conn f q = lnf f q ∧ ¬ f.1 26 (c + 1) = 0
theorem l32_0 {x : Int64} (h1 : 0 ≤ x.toInt) (h2 : x.toInt < 4294967296) : x.toInt32 = 0 ↔ x = 0 := by
  constructor
  · intro h
    have e := congrArg Int32.toInt h
    rw [Int64.toInt_toInt32] at e
    have e0 : (0 : Int32).toInt = 0 := by decide
    rw [e0, Int.bmod_def] at e
    refine Int64.toInt_inj.mp ?_
    show _ = (0 : Int)
    split at e <;> omega
  · intro h
    rw [h]
    decide
theorem R_us_eq (h1 : f'.1 11 p = f.1 11 p) (h2 : f'.1 15 p = f.1 15 p) : R_us f' p ↔ R_us f p := by
  unfold R_us
  rw [h1, h2]
theorem R_lu_eq (h1 : ∀ p, f'.1 11 p = f.1 11 p) (h2 : ∀ p, f'.1 15 p = f.1 15 p) : ∀ (r k : Nat), R_lu f' r k = R_lu f r k
  | 0, _ => rfl
  | r + 1, k => by
    by_cases hu : R_us f k
    · rw [show R_lu f (r + 1) k = k from if_pos hu]
      exact if_pos ((R_us_eq (h1 k) (h2 k)).mpr hu)
    · rw [show R_lu f (r + 1) k = R_lu f r (k + 1) from if_neg hu, show R_lu f' (r + 1) k = R_lu f' r (k + 1) from if_neg (fun z => hu ((R_us_eq (h1 k) (h2 k)).mp z))]
      exact R_lu_eq h1 h2 r (k + 1)
theorem R_gv1_k {k j u : Nat} (hk : R_askK u = false) : (R_gv1 f n p k).1 u j = f.1 u j := by
  unfold R_gv1
  split
  · rfl
  · split
    · exact R_sendAsk_o hk
    · split
      · rfl
      · rfl
theorem R_askP_i {j u : Nat} (h : j ≠ i) (hu : u ≠ 34) : (R_askP f i q).1 u j = f.1 u j := by
  unfold R_askP
  rw [rf_ui_ne (fun e => h e.2), rf_ui_ne (fun e => h e.2), rf_ui_ne (fun e => h e.2), rf_ui_ne (fun e => h e.2), rf_ui_ne (fun e => hu e.1)]
theorem R_sendAsk_i {j u : Nat} (h : j ≠ i) (hu : 54 ≤ u ∧ u ≤ 58) : (R_sendAsk f i q).1 u j = f.1 u j := by
  unfold R_sendAsk R_inc
  rw [rf_ui_ne (fun e => h e.2), R_msg_o (by omega) (by omega) (by omega) (by omega) (by omega), R_askP_i h (by omega)]
theorem R_gv1_i {k j u : Nat} (h : j ≠ k) (hu : 54 ≤ u ∧ u ≤ 58) : (R_gv1 f n p k).1 u j = f.1 u j := by
  unfold R_gv1
  split
  · rfl
  · split
    · exact R_sendAsk_i h hu
    · split
      · rfl
      · rfl
theorem R_gv1_l {k j u : Nat} (h : ¬ (u = 53 ∧ j = k)) : (R_gv1 f n p k).2 u j = f.2 u j := by
  unfold R_gv1
  split
  · rfl
  · split
    · rw [R_sendAsk_l]
    · split
      · rfl
      · exact rf_ul_ne h
theorem GQ.gv1 {k : Nat} (h : GQ f n a k) : GQ (R_gv1 f n p k) n a (k + 1) := by
  intro i h1 h2
  rw [R_gv1_i (by omega) (by omega), R_gv1_i (by omega) (by omega), R_gv1_l (by omega)]
  exact h i (by omega) h2
theorem GL.of (h : GL f q) (h1 : ∀ u j, u ∈ [11, 13, 14, 26] → f'.1 u j = f.1 u j) : GL f' q := by
  obtain ⟨c, hc, e1, e2, e3⟩ := h
  have e : lnf f' q = lnf f q := by unfold lnf; rw [h1 13 q (by decide), h1 14 q (by decide)]
  exact ⟨c, hc, by rw [e]; exact e1, by rw [e, R_conn_eq (f := f) (h1 11 q (by decide)) (h1 13 q (by decide)) (h1 14 q (by decide))]; exact e2, by rw [h1 26 _ (by decide)]; exact e3⟩
theorem k_give_l {ov : Value} : ∀ (r k : Nat) (iv : Int32) (f : jx_F) (σ : jx_S), iv.toInt = (k : Int) → k + r = a → a ≤ 64 → RW th B b xl σ f A T → (f.1 49 0).toInt = (a : Int) → (f.1 7 0).toInt = (n : Int) → n ≤ 4 → p < n → GQ f n a k → (R_lu f n 0 ≠ 4 → GL f (R_lu f n 0)) → ov = (if R_lu f n 0 = 4 then .null else .ref (A 6 (R_lu f n 0))) → (∀ σ', RW th B b xl σ' (R_gvl n p r k f) A T → kp B σ σ' → Q none σ') → cl_fj th (d + 4) 66 17 [(0, .ref B), (1, .ref (A 6 p)), (2, ov), (3, .int iv)] [] σ Q
  | 0, k, iv, f, σ, hv, hk, ha, hW, h49, h7, hn, hp, hQ, hL, hov, h => by
    obtain ⟨G, hR, hls⟩ := id hW
    obtain ⟨n', m1, m2, hal, -⟩ := hR.2.2.2.2.1
    have en : a = n' := by omega
    subst en
    obtain ⟨⟨mc, hl⟩, -⟩ := hal
    rw [List.length_map, List.length_range] at hl
    refine cl_at dt_66 60 [] dt_66_k ?_
    intro C J hC hJ
    conv => whnf
    refine ⟨_, jx_getF_of (hR.X) rfl, ?_⟩
    conv => whnf
    refine ⟨jx_isC_of hl, hC _ _ _ _ (((k_size (d := d) hl).up (by omega)).mp ?_)⟩
    rintro r σ1 ⟨rfl, hs1⟩
    rw [hs1]
    conv => whnf
    refine jx_yes (show Int32.ofNat a ≤ iv by rw [Int32.le_iff_toInt_le, hv, i32_ofNat (by omega)]; omega) ?_
    conv => whnf
    exact h σ hW kp.rf
  | r + 1, k, iv, f, σ, hv, hk, ha, hW, h49, h7, hn, hp, hQ, hL, hov, h => by
    obtain ⟨G, hR, hls⟩ := id hW
    obtain ⟨n', m1, m2, hal, hqe⟩ := id hR.2.2.2.2.1
    have en : a = n' := by omega
    subst en
    have hal0 := hal
    obtain ⟨⟨mc, hl⟩, -⟩ := hal
    rw [List.length_map, List.length_range] at hl
    have b2 := (hqe k (by omega)).2.2.1
    obtain ⟨⟨u, hu1, hu2⟩, ⟨t, ht1, ht2, ht3⟩, hr1, hr2⟩ := hQ k (Nat.le_refl _) (by omega)
    have h55 : ¬ f.1 55 k = 0 := fun z => by
      rw [z] at ht1
      have : (0 : Int32).toInt = 0 := by decide
      omega
    unfold cq_e at b2
    rw [if_neg h55, i32_nat hu1] at b2
    have hpe := hR.pe (p := p) (by omega)
    have hue := hR.pe (p := u) (by omega)
    have hAA : A 6 u = A 6 p ↔ u = p := by
      constructor
      · intro e
        have e1 := hue.1.2.2
        rw [e, hpe.1.2.2] at e1
        omega
      · intro e; rw [e]
    have h54 : f.1 54 k = Int32.ofNat p ↔ u = p := by
      rw [i32_eq (x := f.1 54 k) (n := u) hu1 (by omega)]
      constructor
      · intro e
        have := congrArg Int32.toInt e
        rw [i32_ofNat (by omega), i32_ofNat (by omega)] at this
        omega
      · intro e; rw [e]
    have hv1 : (iv + Int32.ofInt 1).toInt = ((k + 1 : Nat) : Int) := by rw [i32_add (c := 1) hv (by decide) (by omega) (by omega)]; omega
    have hlu : R_lu (R_gv1 f n p k) n 0 = R_lu f n 0 := R_lu_eq (fun _ => R_gv1_k rfl) (fun _ => R_gv1_k rfl) n 0
    have next : ∀ σ', RW th B b xl σ' (R_gv1 f n p k) A T → kp B σ σ' → cl_fj th (d + 4) 66 17 [(0, .ref B), (1, .ref (A 6 p)), (2, ov), (3, .int (iv + Int32.ofInt 1))] [] σ' Q := by
      intro σ' hW' hk'
      refine k_give_l r (k + 1) _ (R_gv1 f n p k) σ' hv1 (by omega) ha hW' (by rw [R_gv1_k rfl]; exact h49) (by rw [R_gv1_k rfl]; exact h7) hn hp hQ.gv1 (by rw [hlu]; exact fun z => (hL z).of (fun u j hu => R_gv1_k (by simp only [List.mem_cons, List.not_mem_nil, or_false] at hu; rcases hu with rfl | rfl | rfl | rfl <;> rfl))) (by rw [hlu]; exact hov) (fun σ2 g1 g2 => h σ2 g1 (hk'.tr g2))
    by_cases hlu4 : R_lu f n 0 = 4
    · rw [if_pos hlu4] at hov
      subst hov
      refine cl_at dt_66 80 [(17, [0, 1, 2, 3])] dt_66_k ?_
      intro C J hC hJ
      conv => whnf
      refine ⟨_, jx_getF_of (hR.X) rfl, ?_⟩
      conv => whnf
      refine ⟨jx_isC_of hl, hC _ _ _ _ (((k_size (d := d) hl).up (by omega)).mp ?_)⟩
      rintro r' σ1 ⟨rfl, hs1⟩
      rw [hs1]
      conv => whnf
      refine jx_no (show ¬ Int32.ofNat a ≤ iv by rw [Int32.le_iff_toInt_le, hv, i32_ofNat (by omega)]; omega) ?_
      conv => whnf
      refine ⟨_, jx_getF_of (hR.X) rfl, ?_⟩
      conv => whnf
      refine ⟨jx_isC_of hl, hC _ _ _ _ (((k_get (d := d) hal0 hv (by simp [show k < a by omega] : ((List.range a).map (A 11))[k]? = some (A 11 k))).up (by omega)).mp ?_)⟩
      rintro r' σ2 ⟨rfl, hs2⟩
      rw [hs2]
      conv => whnf
      refine ⟨jx_cast_of b2 (by decide +kernel), ?_⟩
      conv => whnf
      refine ⟨_, jx_getF_of (b2) rfl, ?_⟩
      conv => whnf
      by_cases hup : u = p
      · refine jx_yes (hAA.mpr hup) ?_
        conv => whnf
        refine ⟨_, jx_getF_of (b2) rfl, ?_⟩
        conv => whnf
        by_cases h53 : f.2 53 k = 0
        · refine jx_yes (show (f.2 53 k).toInt32 = 0 from (l32_0 hr1 hr2).mpr h53) ?_
          have hno : ¬ (¬ f.1 54 k = Int32.ofNat p ∨ ¬ f.2 53 k = 0) := fun z => z.elim (fun z => z (h54.mpr hup)) (fun z => z h53)
          conv => whnf
          refine ⟨_, jx_getF_of (hpe.2.1) rfl, ?_⟩
          conv => whnf
          by_cases h15 : f.1 15 p = 2
          · refine jx_yes h15 ?_
            conv => whnf
            refine hJ _ _ _ _ (next σ ?_ kp.rf)
            unfold R_gv1
            rw [if_neg hno, if_neg (fun z => z hlu4), if_pos h15]
            exact hW
          · refine jx_no h15 ?_
            conv => whnf
            refine putK b2 rfl (fit_i _) (fun s3 p3 o3 n3 => ?_)
            conv => whnf
            refine hJ _ _ _ _ (next s3 ?_ ⟨n3, fun q q1 q2 => o3 q (by have := (hqe k (by omega)).1.1; omega)⟩)
            have e : R_gv1 f n p k = rf_ul f 53 k 3002 := by
              unfold R_gv1
              rw [if_neg hno, if_neg (fun z => z hlu4), if_neg h15]
            rw [e]
            obtain ⟨y1, y2, y3, y4, n0, w, y5, y6, y7, y8, y9, y10⟩ := hqe k (by omega)
            have eT : R_askT (rf_ul f 53 k 3002) k (R_hs (rf_ul f 53 k 3002)) (R_qn (rf_ul f 53 k 3002) 50 k) (R_qn (rf_ul f 53 k 3002) 52 k) (R_qn (rf_ul f 53 k 3002) 51 k) = R_askT f k (R_hs f) (R_qn f 50 k) (R_qn f 52 k) (R_qn f 51 k) := R_askT_eq (fun _ _ _ => rfl)
            refine ⟨G, hR.ask (i := k) (by omega) (fun q q1 _ => o3 q q1) n3 (fun _ _ _ _ _ _ => rfl) (fun u j hu _ _ => rf_ul_ne hu) ⟨⟨y1.1, by rw [n3]; exact y1.2.1, y1.2.2⟩, ⟨y2.1, by rw [n3]; exact y2.2.1, y2.2.2⟩, ?_, y4, n0, w, by rw [o3 _ (fun z => by have e1 := y1.2.2; rw [← z, y2.2.2] at e1; omega)]; exact y5, by rw [eT]; exact y6, y7, y8, y9, by rw [eT]; exact y10⟩, hls⟩
            rw [p3]
            unfold cq_e
            rw [show (rf_ul f 53 k 3002).1 55 k = f.1 55 k from rfl, if_neg h55, show (rf_ul f 53 k 3002).1 54 k = f.1 54 k from rfl, i32_nat hu1, rf_ul_eq]
            rfl
        · refine jx_no (show ¬ (f.2 53 k).toInt32 = 0 from fun z => h53 ((l32_0 hr1 hr2).mp z)) ?_
          conv => whnf
          refine hJ _ _ _ _ (next σ ?_ kp.rf)
          unfold R_gv1
          rw [if_pos (Or.inr h53)]
          exact hW
      · refine jx_no (fun z => hup (hAA.mp z)) ?_
        conv => whnf
        refine hJ _ _ _ _ (next σ ?_ kp.rf)
        unfold R_gv1
        rw [if_pos (Or.inl (fun z => hup (h54.mp z)))]
        exact hW
    · rw [if_neg hlu4] at hov
      subst hov
      refine cl_at dt_66 80 [(17, [0, 1, 2, 3])] dt_66_k ?_
      intro C J hC hJ
      conv => whnf
      refine ⟨_, jx_getF_of (hR.X) rfl, ?_⟩
      conv => whnf
      refine ⟨jx_isC_of hl, hC _ _ _ _ (((k_size (d := d) hl).up (by omega)).mp ?_)⟩
      rintro r' σ1 ⟨rfl, hs1⟩
      rw [hs1]
      conv => whnf
      refine jx_no (show ¬ Int32.ofNat a ≤ iv by rw [Int32.le_iff_toInt_le, hv, i32_ofNat (by omega)]; omega) ?_
      conv => whnf
      refine ⟨_, jx_getF_of (hR.X) rfl, ?_⟩
      conv => whnf
      refine ⟨jx_isC_of hl, hC _ _ _ _ (((k_get (d := d) hal0 hv (by simp [show k < a by omega] : ((List.range a).map (A 11))[k]? = some (A 11 k))).up (by omega)).mp ?_)⟩
      rintro r' σ2 ⟨rfl, hs2⟩
      rw [hs2]
      conv => whnf
      refine ⟨jx_cast_of b2 (by decide +kernel), ?_⟩
      conv => whnf
      refine ⟨_, jx_getF_of (b2) rfl, ?_⟩
      conv => whnf
      by_cases hup : u = p
      · refine jx_yes (hAA.mpr hup) ?_
        conv => whnf
        refine ⟨_, jx_getF_of (b2) rfl, ?_⟩
        conv => whnf
        by_cases h53 : f.2 53 k = 0
        · refine jx_yes (show (f.2 53 k).toInt32 = 0 from (l32_0 hr1 hr2).mpr h53) ?_
          have hno : ¬ (¬ f.1 54 k = Int32.ofNat p ∨ ¬ f.2 53 k = 0) := fun z => z.elim (fun z => z (h54.mpr hup)) (fun z => z h53)
          obtain ⟨c, hc, e1, e2, e3⟩ := hL hlu4
          have hlus := R_lu_us n 0 hlu4
          conv => whnf
          refine ⟨jx_isC_of hR.X, hC _ _ _ _ (((k_sendAsk (d := d) (i := k) (q := R_lu f n 0) (t := t) hW (by omega) (by omega) hc e1 e2 e3 ht1 ht3).up (by omega)).mp ?_)⟩
          rintro r' σ3 ⟨rfl, hW3, hk3⟩
          conv => whnf
          refine hJ _ _ _ _ (next σ3 ?_ hk3)
          unfold R_gv1
          rw [if_neg hno, if_pos hlu4]
          exact hW3
        · refine jx_no (show ¬ (f.2 53 k).toInt32 = 0 from fun z => h53 ((l32_0 hr1 hr2).mp z)) ?_
          conv => whnf
          refine hJ _ _ _ _ (next σ ?_ kp.rf)
          unfold R_gv1
          rw [if_pos (Or.inr h53)]
          exact hW
      · refine jx_no (fun z => hup (hAA.mp z)) ?_
        conv => whnf
        refine hJ _ _ _ _ (next σ ?_ kp.rf)
        unfold R_gv1
        rw [if_pos (Or.inl (fun z => hup (h54.mp z)))]
        exact hW
theorem k_giveOver (hW : RW th B b xl σ f A T) (h49 : (f.1 49 0).toInt = (a : Int)) (ha : a ≤ 64) (h7 : (f.1 7 0).toInt = (n : Int)) (hn : n ≤ 4) (hp : p < n) (hQ : GQ f n a 0) (hL : R_lu f n 0 ≠ 4 → GL f (R_lu f n 0)) : jc th (d + 5) 66 [.ref B, .ref (A 6 p)] σ (fun r σ' => r = none ∧ RW th B b xl σ' (R_gv f n a p) A T ∧ kp B σ σ') := by
  obtain ⟨G, hR, hls⟩ := id hW
  have a2 := (hR.pe (p := p) (by omega)).2.1
  refine cl_go dt_66 60 [(17, [0, 1, 2, 3])] dt_66_k rfl ?_
  intro C J hC hJ
  conv => whnf
  refine ⟨_, jx_getF_of (a2) rfl, ?_⟩
  conv => whnf
  refine putK a2 rfl (fit_i _) (fun s1 p1 o1 n1 => ?_)
  conv => whnf
  obtain ⟨g, hg⟩ : ∃ g, g = R_inc f 18 p := ⟨_, rfl⟩
  obtain ⟨hR1, hk1⟩ := hR.pe1 (σ' := s1) (f' := g) (by omega) (by rw [p1, hg]; simp [cp_e, lim, R_inc, rf_ui]) o1 n1 (by rw [hg]; exact ui_pe ⟨by omega, by omega⟩ (fun _ _ _ => rfl)) (by rw [hg]; rfl) (by rw [hg]; exact rf_ui_ne (by omega))
  have og : ∀ q j, q ≠ 18 → g.1 q j = f.1 q j := fun q j h => by rw [hg]; exact rf_ui_ne (fun e => h e.1)
  have gl : g.2 = f.2 := by rw [hg]; rfl
  have hlu : R_lu g n 0 = R_lu f n 0 := R_lu_eq (fun _ => og 11 _ (by omega)) (fun _ => og 15 _ (by omega)) n 0
  have h7' : (g.1 7 0).toInt = (n : Int) := by rw [og 7 0 (by omega)]; exact h7
  have hW1 : RW th B b xl s1 g A T := ⟨G, hR1, by rw [og 2 0 (by omega)]; exact hls⟩
  have hQ1 : GQ g n a 0 := fun i h1 h2 => by rw [og 54 i (by omega), og 55 i (by omega), gl]; exact hQ i h1 h2
  have hL1 : R_lu g n 0 ≠ 4 → GL g (R_lu g n 0) := by rw [hlu]; exact fun z => (hL z).of (fun u j hu => og u j (by simp only [List.mem_cons, List.not_mem_nil, or_false] at hu; omega))
  refine ⟨jx_isC_of hR1.X, hC _ _ _ _ ((k_leastUsable (d := d) hR1 h7' hn).mp ?_)⟩
  rintro r s2 ⟨hcs, hs2⟩
  rw [hs2]
  rcases hcs with ⟨hl, rfl⟩ | ⟨hl, rfl⟩
  · conv => whnf
    refine hJ _ _ _ _ ?_
    exact k_give_l a 0 0 g s1 (by decide) (by omega) ha hW1 (by rw [og 49 0 (by omega)]; exact h49) h7' hn hp hQ1 hL1 (by rw [if_neg hl]) (fun σ' g1 g2 => ⟨rfl, by unfold R_gv; rw [← hg]; exact g1, hk1.tr g2⟩)
  · conv => whnf
    refine hJ _ _ _ _ ?_
    exact k_give_l a 0 0 g s1 (by decide) (by omega) ha hW1 (by rw [og 49 0 (by omega)]; exact h49) h7' hn hp hQ1 hL1 (by rw [if_pos hl]) (fun σ' g1 g2 => ⟨rfl, by unfold R_gv; rw [← hg]; exact g1, hk1.tr g2⟩)
theorem k_leaveOpen {s : Int32} (hW : RW th B b xl σ f A T) (h49 : (f.1 49 0).toInt = (a : Int)) (ha : a ≤ 64) (h7 : (f.1 7 0).toInt = (n : Int)) (hn : n ≤ 4) (hp : p < n) (hQ : GQ f n a 0) (hL : ∀ q, q ≠ p → q < n → R_us f q → GL f q) : jc th (d + 6) 65 [.ref B, .ref (A 6 p), .int s] σ (fun r σ' => r = none ∧ RW th B b xl σ' (R_bshut (R_enter f p s) n a p) A T ∧ kp B σ σ') := by
  have hX : jx_isC σ B 0 = true := by obtain ⟨G, hR, -⟩ := hW; exact jx_isC_of hR.X
  refine cl_go dt_65 60 [] dt_65_k rfl ?_
  intro C J hC hJ
  conv => whnf
  refine ⟨hX, hC _ _ _ _ (((k_enter (d := d) (s := s) hW (by omega)).up (by omega)).mp ?_)⟩
  rintro r s1 ⟨rfl, ⟨G, hR1, hls1⟩, hk1⟩
  obtain ⟨g, hg⟩ : ∃ g, g = R_enter f p s := ⟨_, rfl⟩
  rw [← hg] at hR1 hls1 ⊢
  have og : ∀ q j, ¬ ((q = 11 ∨ q = 12) ∧ j = p) → g.1 q j = f.1 q j := fun q j h => by
    rw [hg]
    unfold R_enter
    rw [rf_ui_ne (by omega), rf_ui_ne (by omega)]
  have hpg : (p : Int) < (g.1 7 0).toInt := by rw [og 7 0 (by omega)]; omega
  have a2 := (hR1.pe hpg).2.1
  conv => whnf
  refine putK a2 rfl (fit_i _) (fun s2 p2 o2 n2 => ?_)
  conv => whnf
  refine putK p2 rfl (fit_z (Or.inl rfl)) (fun s3 p3 o3 n3 => ?_)
  conv => whnf
  obtain ⟨e, he⟩ : ∃ e, e = rf_ui (rf_ui g 15 p 3) 16 p 0 := ⟨_, rfl⟩
  obtain ⟨hR3, hk3⟩ := hR1.pe1 (σ' := s3) (f' := e) hpg (by rw [p3, he]; simp [cp_e, lim, rf_ui]) (fun q hq => (o3 q hq).trans (o2 q hq)) (n3.trans n2) (by rw [he]; exact ui_pe ⟨by omega, by omega⟩ (ui_pe ⟨by omega, by omega⟩ (fun _ _ _ => rfl))) (by rw [he]; rfl) (by rw [he, rf_ui_ne (by omega), rf_ui_ne (by omega)])
  have oe : ∀ q j, ¬ ((q = 15 ∨ q = 16) ∧ j = p) → e.1 q j = g.1 q j := fun q j h => by rw [he, rf_ui_ne (by omega), rf_ui_ne (by omega)]
  refine ⟨jx_isC_of hR3.X, hC _ _ _ _ (((k_setTimer (d := d) hR3 (by rw [oe 7 0 (by omega)]; exact hpg)).up (by omega)).mp ?_)⟩
  rintro r s4 ⟨rfl, hR4, hk4⟩
  obtain ⟨m, hm⟩ : ∃ m, m = rf_ui e 17 p (e.1 1 0 + 30) := ⟨_, rfl⟩
  rw [← hm] at hR4
  have om' : ∀ q j, ¬ ((q = 11 ∨ q = 12 ∨ q = 15 ∨ q = 16 ∨ q = 17) ∧ j = p) → m.1 q j = f.1 q j := fun q j h => by rw [hm, rf_ui_ne (by omega), oe q j (by omega), og q j (by omega)]
  have ml : m.2 = f.2 := by rw [hm, he, hg]; rfl
  have m15 : m.1 15 p = 3 := by rw [hm, rf_ui_ne (by omega), he, rf_ui_ne (by omega), rf_ui_eq]
  conv => whnf
  refine ⟨jx_isC_of hR4.X, hC _ _ _ _ ((k_giveOver (d := d) (a := a) (n := n) ⟨G, hR4, by rw [hm, rf_ui_ne (by omega), oe 2 0 (by omega)]; exact hls1⟩ (by rw [om' 49 0 (by omega)]; exact h49) ha (by rw [om' 7 0 (by omega)]; exact h7) hn hp (fun i h1 h2 => by rw [om' 54 i (by omega), om' 55 i (by omega), ml]; exact hQ i h1 h2) (fun z => ?_)).mp ?_)⟩
  · obtain ⟨u1, u2, u3⟩ := R_lu_us n 0 z
    have hne : R_lu m n 0 ≠ p := fun z2 => by
      have := u3.2
      rw [z2, m15] at this
      exact absurd this (by decide)
    have := hL (R_lu m n 0) hne (by omega) ((R_us_eq (om' 11 _ (by omega)) (om' 15 _ (by omega))).mp u3)
    obtain ⟨c, hc, e1, e2, e3⟩ := this
    have el : lnf m (R_lu m n 0) = lnf f (R_lu m n 0) := by unfold lnf; rw [om' 13 _ (by omega), om' 14 _ (by omega)]
    exact ⟨c, hc, by rw [el]; exact e1, by rw [el, R_conn_eq (f := f) (om' 11 _ (by omega)) (om' 13 _ (by omega)) (om' 14 _ (by omega))]; exact e2, by rw [om' 26 _ (by omega)]; exact e3⟩
  · rintro r s5 ⟨rfl, hW5, hk5⟩
    conv => whnf
    refine ⟨rfl, ?_, ((hk1.tr hk3).tr hk4).tr hk5⟩
    unfold R_bshut
    rw [← he, show g.1 1 0 = e.1 1 0 by rw [oe 1 0 (by omega)], ← hm]
    exact hW5
end JxGive
