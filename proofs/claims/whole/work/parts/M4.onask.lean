/-! THE CLASS: an answer to an ASK -/
section JxOnask
variable {th : Nat → Nat} {d B b n a R L bb q p : Nat} {xl : List Int32} {σ σ' : jx_S} {f f0 g : jx_F} {A : Nat → Nat → Nat} {G : Nat → Nat → Int32} {T : Nat → Nat} {o : Nat → Int32} {c w z ev cv x : Int32} {Q : Option Value → jx_S → Prop}
theorem m32 (i : Nat) (hi : i < 64) : (4294967295#64 : BitVec 64).getLsbD i = decide (i < 32) := by
  have e : (4294967295#64 : BitVec 64) = BitVec.ofNat 64 (2^32 - 1) := rfl
  rw [e]
  simp only [BitVec.getLsbD_ofNat, Nat.testBit_two_pow_sub_one]
  simp [hi]
theorem u32_back (x : Int32) : (x.toInt64 &&& 4294967295).toInt32 = x := by
  apply Int32.toBitVec_inj.mp
  apply BitVec.eq_of_getLsbD_eq
  intro i hi
  rw [Int64.toBitVec_toInt32, BitVec.getLsbD_signExtend]
  have e : (x.toInt64 &&& 4294967295).toBitVec = x.toInt64.toBitVec &&& 4294967295#64 := rfl
  rw [e, BitVec.getLsbD_and, m32 i (by omega), Int32.toBitVec_toInt64, BitVec.getLsbD_signExtend]
  simp [hi, show i < 64 by omega]
theorem u32_0 (x : Int32) : x.toInt64 &&& 4294967295 = 0 ↔ x = 0 := by
  constructor
  · intro h
    have := u32_back x
    rw [h] at this
    rw [← this]
    rfl
  · intro h
    rw [h]
    rfl
theorem tset_v (x : Int32) : (if x.toInt64 &&& 4294967295 = 0 then (1 : Int64) else x.toInt64 &&& 4294967295).toInt32 = if x = 0 then 1 else x := by
  by_cases h : x = 0
  · rw [if_pos h, if_pos ((u32_0 x).mpr h)]
    rfl
  · rw [if_neg h, if_neg (fun y => h ((u32_0 x).mp y)), u32_back]
set_option maxHeartbeats 4000000 in
theorem k_oa_l (hW : RW th B b xl σ g A T) (hS : PS g n a) (hM : MR σ (B + 9) R L o) (hl : 20 ≤ L) (hL : LK o L bb f0 g) (hb : bb ≤ 4800) (ho : o = oct f0 bb) (hp : p < n) (hcv : R_conn g p = cv) : ∀ (r i : Nat), i + r = a → (∀ σ', RW th B b xl σ' (R_ta g cv p r i) A T → kp B σ σ' → Q none σ') → cl_fj th (d + 4) 110 2 [(0, .ref B), (1, .ref (A 6 p)), (2, .int (Int32.ofNat i))] [] σ Q
  | 0, i, hi, h => by
    obtain ⟨G, hR, hls⟩ := id hW
    have h49 := hS.1.2.2.2.1
    have ha := hS.1.2.2.2.2.1
    obtain ⟨n', m1, m2, hal, -⟩ := id hR.2.2.2.2.1
    have en : n' = a := by omega
    obtain ⟨⟨mc, hl'⟩, -⟩ := hal
    rw [List.length_map, List.length_range, en] at hl'
    refine cl_at dt_110 60 [] dt_110_k ?_
    intro C J hC hJ
    conv => whnf
    refine ⟨_, jx_getF_of (hR.X) rfl, ?_⟩
    conv => whnf
    refine ⟨jx_isC_of hl', hC _ _ _ _ (((k_size (d := d) hl').up (by omega)).mp ?_)⟩
    rintro r σ1 ⟨rfl, hs1⟩
    rw [hs1]
    conv => whnf
    refine jx_yes (show Int32.ofNat a ≤ Int32.ofNat i by rw [nle (by omega) (by omega)]; omega) ?_
    conv => whnf
    refine ⟨_, jx_getF_of (hR.X) rfl, ?_⟩
    conv => whnf
    refine putK hR.X rfl (fit_i _) (fun s1 p1 o1 n1 => ?_)
    conv => whnf
    obtain ⟨hW1, hk1⟩ := RW.pas hR hls p1 o1 n1
    exact h s1 hW1 hk1
  | r + 1, i, hi, h => by
    obtain ⟨G, hR, hls⟩ := id hW
    have h49 := hS.1.2.2.2.1
    have ha := hS.1.2.2.2.2.1
    have hn4 := hS.1.2.2.1
    have hn7 := hS.1.2.1
    have hM0 := hM
    unfold MR at hM0
    have hL6 := hM0.2.1
    obtain ⟨n', m1, m2, hal, hqe⟩ := id hR.2.2.2.2.1
    have en : n' = a := by omega
    have hal0 := hal
    obtain ⟨⟨mc, hl'⟩, -⟩ := hal
    rw [List.length_map, List.length_range, en] at hl'
    rw [en] at hal0
    have hqi := hqe i (by omega)
    have b2 := hqi.2.2.1
    obtain ⟨u, t, ⟨hu1, hu2⟩, ⟨ht1, ht2⟩, ⟨hr1, hr2⟩, hpd⟩ := hS.2.2.2.1 i (by omega)
    have h55 : ¬ g.1 55 i = 0 := fun y => by
      rw [y] at ht1
      have : (0 : Int32).toInt = 0 := by decide
      omega
    unfold cq_e at b2
    rw [if_neg h55, i32_nat hu1] at b2
    have hpe := hR.pe (p := p) (by omega)
    have hue := hR.pe (p := u) (by omega)
    have hAA : A 6 u = A 6 p ↔ u = p := by
      constructor
      · intro e
        have e1 := hue.1.2.2
        rw [e, hpe.1.2.2] at e1
        omega
      · intro e; rw [e]
    have h54 : g.1 54 i = Int32.ofNat p ↔ u = p := by
      rw [i32_eq (x := g.1 54 i) (n := u) hu1 (by omega)]
      exact ⟨fun e => ofN_inj (by omega) (by omega) e, fun e => by rw [e]⟩
    have hii : (Int32.ofNat i).toInt = (i : Int) := i32_ofNat (by omega)
    have i1 : Int32.ofNat i + Int32.ofInt 1 = Int32.ofNat (i + 1) := nadd rfl (by omega)
    have eT : R_ta g cv p (r + 1) i = if g.1 74 0 = 0 then (if R_tmt g cv p i = true then R_tset g i else R_ta g cv p r (i + 1)) else rf_ui g 2 0 (g.1 2 0 + 1) := rfl
    have tx : ∀ (r i : Nat), ¬ g.1 74 0 = 0 → R_ta g cv p r i = rf_ui g 2 0 (g.1 2 0 + 1) := fun r i w => by
      cases r with
      | zero => rfl
      | succ r => exact if_neg w
    have next : (g.1 74 0 = 0 → R_tmt g cv p i = false) → cl_fj th (d + 4) 110 2 [(0, .ref B), (1, .ref (A 6 p)), (2, .int (Int32.ofNat i + Int32.ofInt 1))] [] σ Q := by
      intro hm
      rw [i1]
      refine k_oa_l hW hS hM hl hL hb ho hp hcv r (i + 1) (by omega) (fun σ' g1 g2 => h σ' ?_ g2)
      by_cases w0 : g.1 74 0 = 0
      · rw [eT, if_pos w0, hm w0, if_neg (by simp)]
        exact g1
      · rw [tx _ _ w0]
        rw [tx _ _ w0] at g1
        exact g1
    have mf : ¬ (g.2 53 i = 0 ∧ g.1 58 i = cv ∧ g.1 54 i = Int32.ofNat p ∧ (g.1 69 0 &&& 128 = 0 ∧ g.1 70 0 = 258 ∧ g.1 72 0 = g.1 56 i)) → R_tmt g cv p i = false := fun y => decide_eq_false y
    refine cl_at dt_110 80 [(2, [0, 1, 2])] dt_110_k ?_
    intro C J hC hJ
    conv => whnf
    refine ⟨_, jx_getF_of (hR.X) rfl, ?_⟩
    conv => whnf
    refine ⟨jx_isC_of hl', hC _ _ _ _ (((k_size (d := d) hl').up (by omega)).mp ?_)⟩
    rintro r' σ1 ⟨rfl, hs1⟩
    rw [hs1]
    conv => whnf
    refine jx_no (show ¬ Int32.ofNat a ≤ Int32.ofNat i by rw [nle (by omega) (by omega)]; omega) ?_
    conv => whnf
    refine ⟨_, jx_getF_of (hR.X) rfl, ?_⟩
    conv => whnf
    refine ⟨jx_isC_of hl', hC _ _ _ _ (((k_get (d := d) hal0 hii (by simp [show i < a by omega] : ((List.range a).map (A 11))[i]? = some (A 11 i))).up (by omega)).mp ?_)⟩
    rintro r' σ2 ⟨rfl, hs2⟩
    rw [hs2]
    conv => whnf
    refine ⟨jx_cast_of b2 (by decide +kernel), ?_⟩
    conv => whnf
    refine ⟨_, jx_getF_of (b2) rfl, ?_⟩
    conv => whnf
    by_cases hup : u = p
    · refine jx_yes (hAA.mpr hup) ?_
      conv => whnf
      refine ⟨_, jx_getF_of (b2) rfl, ?_⟩
      conv => whnf
      by_cases h53 : g.2 53 i = 0
      · refine jx_no (show ¬ ¬ (g.2 53 i).toInt32 = 0 from fun y => y ((l32_0 hr1 hr2).mpr h53)) ?_
        conv => whnf
        refine ⟨_, jx_getF_of (hR.X) rfl, ?_⟩
        conv => whnf
        refine ⟨_, jx_getF_of (b2) rfl, ?_⟩
        conv => whnf
        refine ⟨jx_isC_of hM0.1, hC _ _ _ _ (((k_isAns (d := d) (x := 258) (hv := g.1 56 i) hM0 hl).up (by omega)).mp ?_)⟩
        rintro r' σ3 ⟨hr, hs3⟩
        rw [hs3]
        rcases hr with ⟨rfl, w0, r1, r2, r3⟩ | ⟨rfl, hr⟩
        · have g0 : g.1 74 0 = 0 := hL.wz.mpr w0
          have h58 : g.1 58 i = cv := by rw [(hpd h53).2, hup]; exact hcv
          have hm : R_tmt g cv p i = true := decide_eq_true ⟨h53, h58, h54.mpr hup, by rw [hL.h69]; exact r1, by rw [hL.h70]; exact r2, by rw [hL.h72]; exact r3⟩
          rw [eT, if_pos g0, if_pos hm] at h
          have f268 := hL.has g0 268 (mus_268 r1)
          obtain ⟨n1, n2, n3⟩ := hL.n4 g0 hb hL6 ho (k := 7) (by omega) (by decide) (by rw [show kc 7 = 268 by decide]) f268
          have hw := top_in (hL.si g0).2.2.1
          conv => whnf
          refine jx_no (show ¬ (1 : Int32) = 0 by decide) ?_
          conv => whnf
          refine ⟨_, jx_getF_of (hR.X) rfl, ?_⟩
          conv => whnf
          refine ⟨jx_isC_of hM0.1, hC _ _ _ _ (((k_numberOf (dd := d) (x := 268) hM0 hw (fun _ => n1)).up (by omega)).mp ?_)⟩
          rintro r' σ4 ⟨rfl, hs4⟩
          rw [hs4, if_neg f268, ← n3]
          obtain ⟨X, hX⟩ : ∃ X, X = R_n4 g 7 := ⟨_, rfl⟩
          have hts : R_tset g i = rf_ul g 53 i (if X.toInt64 &&& 4294967295 = 0 then 1 else X.toInt64 &&& 4294967295) := by rw [hX]; rfl
          rw [← hX]
          rw [hts] at h
          have fin : ∀ s4 : jx_S, s4.1 (A 11 i) = some (.inr (11, [.ref (A 111 i), .ref (A 6 u), .int (if X = 0 then 1 else X), .int (g.1 55 i), .int (g.1 56 i), .int (g.1 57 i)])) → (∀ u, u ≠ A 11 i → s4.1 u = σ.1 u) → s4.2 = σ.2 → Q none s4 := by
            intro s4 q1 q2 q3
            obtain ⟨V, hV⟩ : ∃ V : Int64, V = (if X.toInt64 &&& 4294967295 = 0 then 1 else X.toInt64 &&& 4294967295) := ⟨_, rfl⟩
            rw [← hV] at h
            have hV32 : V.toInt32 = if X = 0 then 1 else X := by rw [hV]; exact tset_v X
            obtain ⟨y1, y2, y3, y4, n0, wd, y5, y6, y7, y8, y9, y10⟩ := hqi
            have eA : R_askT (rf_ul g 53 i V) i (R_hs (rf_ul g 53 i V)) (R_qn (rf_ul g 53 i V) 50 i) (R_qn (rf_ul g 53 i V) 52 i) (R_qn (rf_ul g 53 i V) 51 i) = R_askT g i (R_hs g) (R_qn g 50 i) (R_qn g 52 i) (R_qn g 51 i) := R_askT_eq (fun _ _ _ => rfl)
            refine h s4 ⟨G, hR.ask (i := i) (by omega) (fun q h1 _ => q2 q h1) q3 (fun _ _ _ _ _ _ => rfl) (fun u j hu _ _ => rf_ul_ne hu) ⟨⟨y1.1, by rw [q3]; exact y1.2.1, y1.2.2⟩, ⟨y2.1, by rw [q3]; exact y2.2.1, y2.2.2⟩, ?_, y4, n0, wd, by rw [q2 _ (fun y => by have e1 := y1.2.2; rw [← y, y2.2.2] at e1; omega)]; exact y5, by rw [eA]; exact y6, y7, y8, y9, by rw [eA]; exact y10⟩, hls⟩ ⟨q3, fun q h1 h2 => q2 q (by have := y1.1; omega)⟩
            rw [q1]
            unfold cq_e
            rw [show (rf_ul g 53 i V).1 55 i = g.1 55 i from rfl, if_neg h55, show (rf_ul g 53 i V).1 54 i = g.1 54 i from rfl, i32_nat hu1, rf_ul_eq, hV32]
            rfl
          conv => whnf
          refine ⟨fun (h5 : ¬ X = 0) => ?_, fun (h5 : ¬ ¬ X = 0) => ?_⟩
          · rw [if_neg h5] at fin
            conv => whnf
            refine putK b2 rfl (fit_i _) (fun s4 p4 o4 n4 => ?_)
            conv => whnf
            exact fin s4 p4 o4 n4
          · rw [if_pos (Decidable.not_not.mp h5)] at fin
            conv => whnf
            refine putK b2 rfl (fit_i _) (fun s4 p4 o4 n4 => ?_)
            conv => whnf
            exact fin s4 p4 o4 n4
        · conv => whnf
          refine jx_yes (show (0 : Int32) = 0 from rfl) ?_
          conv => whnf
          refine hJ _ _ _ _ (next (fun w0 => mf (fun y => hr ⟨hL.wz.mp w0, ?_, ?_, ?_⟩)))
          · rw [← hL.h69]; exact y.2.2.2.1
          · rw [← hL.h70]; exact y.2.2.2.2.1
          · rw [← hL.h72]; exact y.2.2.2.2.2
      · refine jx_yes (show ¬ (g.2 53 i).toInt32 = 0 from fun y => h53 ((l32_0 hr1 hr2).mp y)) ?_
        conv => whnf
        exact hJ _ _ _ _ (next (fun _ => mf (fun y => h53 y.1)))
    · refine jx_no (fun y => hup (hAA.mp y)) ?_
      conv => whnf
      exact hJ _ _ _ _ (next (fun _ => mf (fun y => hup (h54.mp y.2.2.1))))
theorem k_onAskAnswer (hW : RW th B b xl σ g A T) (hS : PS g n a) (hM : MR σ (B + 9) R L o) (hl : 20 ≤ L) (hL : LK o L bb f0 g) (hb : bb ≤ 4800) (ho : o = oct f0 bb) (hp : p < n) (hcv : R_conn g p = cv) : jc th (d + 5) 110 [.ref B, .ref (A 6 p)] σ (fun r σ' => r = none ∧ RW th B b xl σ' (R_ta g cv p a 0) A T ∧ kp B σ σ') := by
  refine cl_go dt_110 20 [(2, [0, 1, 2])] dt_110_k rfl ?_
  intro C J hC hJ
  conv => whnf
  exact hJ _ _ _ _ (k_oa_l hW hS hM hl hL hb ho hp hcv a 0 (by omega) (fun σ' g1 g2 => ⟨rfl, g1, g2⟩))
end JxOnask
