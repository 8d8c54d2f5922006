/-! THE REFERENCE: its other messages -/
section JxRefsend2
variable {th : Nat → Nat} {σ0 : jx_S} {m d : Nat} {f : jx_F} {Q : Option Value → jx_F → Prop}
theorem R_ad_le {s : Nat} : (R_ad s).length ≤ 60 := by
  unfold R_ad
  simp only [List.length_append, R_pd_len]
  show 8 + (2 + (4 + (_ + (12 + (8 + (4 + 12)))))) ≤ 60
  omega
theorem R_conn_eq {f f' : jx_F} {p : Nat} (h1 : f'.1 11 p = f.1 11 p) (h2 : f'.1 13 p = f.1 13 p) (h3 : f'.1 14 p = f.1 14 p) : R_conn f' p = R_conn f p := by
  unfold R_conn
  rw [h1, h2, h3]
theorem nar_z1 : vp_nar .boolean 1 = 1 := by decide
theorem nar_z0 : vp_nar .boolean 0 = 0 := by decide
/-- a watch of a PEER -/
def R_sendWatch0 (f : jx_F) (p : Nat) : jx_F := R_msg (rf_ui (rf_ui f 34 0 (f.1 34 0 + 1)) 21 p (f.1 34 0)) (R_hd 128 280 0 (f.1 34 0) (f.1 34 0) ++ (R_me f (R_hs f) 20 ++ R_nm 278 1)) (R_conn f p)
def R_sendWatch (f : jx_F) (p : Nat) : jx_F := rf_ui (rf_ui (R_sendWatch0 f p) 16 p 1) 17 p ((rf_ui (R_sendWatch0 f p) 16 p 1).1 1 0 + 30)
theorem r_sendWatch  {p : Int32} {pN cN : Nat} (hp : p.toInt = (pN : Int)) (hp4 : pN < 4) (ho : R_ok f) (hc : (R_conn f pN).toInt = (cN : Int)) (hc8 : cN ≤ 8) : rfc th σ0 m (d + 5) 190 [.ref 0, .int p] f (fun r f' => r = none ∧ f' = R_sendWatch f pN) := by
  have hpn := i32_nat hp
  obtain ⟨⟨N, hN, hN4⟩, hok⟩ := ho
  have hNs : R_hs f = N := i32_nat hN
  obtain ⟨⟨a, ha, ha2⟩, z, hz, hz2⟩ := hok cN (by omega)
  refine rf_go dt_190 100 [] dt_190_k (by decide +kernel) rfl ?_
  intro C J hC hJ
  conv => whnf
  refine hC _ _ _ _ ((r_nextHop.up (show d + 1 ≤ d + 4 by omega)).mp ?_)
  rintro r f1 ⟨rfl, hf1⟩
  conv => whnf
  refine ⟨jx_in_nat hp (show pN < 4 from hp4), ?_⟩
  conv => whnf
  try rw [hpn]
  obtain ⟨f2, hf2⟩ : ∃ f2, f2 = rf_ui f1 21 pN (f.1 34 0) := ⟨_, rfl⟩
  rw [← hf2]
  refine ⟨jx_in_nat hp (show pN < 4 from hp4), ?_⟩
  conv => whnf
  try rw [hpn]
  refine ⟨jx_in_nat hp (show pN < 4 from hp4), ?_⟩
  conv => whnf
  try rw [hpn]
  have e20 : f2.1 21 pN = f.1 34 0 := by rw [hf2]; exact rf_ui_eq
  have eo : ∀ k j, k ≠ 34 → k ≠ 21 → f2.1 k j = f.1 k j := by
    intro k j h1 h2
    rw [hf2, rf_ui_ne (fun e => h2 e.1), hf1, rf_ui_ne (fun e => h1 e.1)]
  refine hC _ _ _ _ ((r_head.up (show d + 2 ≤ d + 4 by omega)).mp ?_)
  rintro r g0 ⟨rfl, hg0⟩
  rw [e20] at hg0
  have hs0 : ((rf_ui f2 66 0 0).1 66 0).toInt = ((0 : Nat) : Int) := by rw [rf_ui_eq]; decide
  have ht0 : (g0.1 66 0).toInt = ((20 : Nat) : Int) := by rw [hg0]; exact R_sz (bs := R_hd 128 280 0 (f.1 34 0) (f.1 34 0)) hs0 rfl (by omega)
  have eo0 : ∀ k j, k ≠ 34 → k ≠ 21 → k ≠ 65 → k ≠ 66 → g0.1 k j = f.1 k j := by
    intro k j h1 h2 h3 h4
    rw [hg0, R_bs_o h3 h4, rf_ui_ne (fun e => h4 e.1), eo k j h1 h2]
  conv => whnf
  have hml := R_ml_le (N := N) (s := 20)
  refine hC _ _ _ _ ((r_me (N := N) (by rw [eo0 6 0 (by decide) (by decide) (by decide) (by decide)]; exact hN) hN4 ht0 (by omega)).mp ?_)
  rintro r g1 ⟨rfl, hg1⟩
  rw [R_me_eq (f := f) (fun q => eo0 5 q (by decide) (by decide) (by decide) (by decide)) (eo0 6 0 (by decide) (by decide) (by decide) (by decide))] at hg1
  have ht1 : (g1.1 66 0).toInt = ((20 + R_ml N 20 : Nat) : Int) := by rw [hg1]; exact R_sz ht0 (by rw [R_me_len]) (by omega)
  have eo1 : ∀ k j, k ≠ 34 → k ≠ 21 → k ≠ 65 → k ≠ 66 → g1.1 k j = f.1 k j := by
    intro k j h1 h2 h3 h4
    rw [hg1, R_bs_o h3 h4, eo0 k j h1 h2 h3 h4]
  conv => whnf
  refine hC _ _ _ _ (((r_putNumber ht1 (by omega)).up (show d + 3 ≤ d + 4 by omega)).mp ?_)
  rintro r g2 ⟨rfl, hg2⟩
  have ht2 : (g2.1 66 0).toInt = ((20 + R_ml N 20 + 12 : Nat) : Int) := by rw [hg2]; exact R_sz ht1 (rfl) (by omega)
  have eo2 : ∀ k j, k ≠ 34 → k ≠ 21 → k ≠ 65 → k ≠ 66 → g2.1 k j = f.1 k j := by
    intro k j h1 h2 h3 h4
    rw [hg2, R_bs_o h3 h4, eo1 k j h1 h2 h3 h4]
  conv => whnf
  refine hC _ _ _ _ (((r_conn hp hp4).up (show d + 1 ≤ d + 4 by omega)).mp ?_)
  rintro r g9 ⟨rfl, hg9⟩
  conv => whnf
  rw [hg9, R_conn_eq (f := f) (eo2 11 pN (by decide) (by decide) (by decide) (by decide)) (eo2 13 pN (by decide) (by decide) (by decide) (by decide)) (eo2 14 pN (by decide) (by decide) (by decide) (by decide))]
  refine hC _ _ _ _ (((r_go hc hc8 ht2 (by omega) (by rw [eo2 33 cN (by decide) (by decide) (by decide) (by decide)]; exact ha) ha2 (by rw [eo2 32 cN (by decide) (by decide) (by decide) (by decide)]; exact hz) hz2).up (show d + 1 ≤ d + 4 by omega)).mp ?_)
  rintro r g8 ⟨rfl, hg8⟩
  conv => whnf
  refine ⟨jx_in_nat hp (show pN < 4 from hp4), ?_⟩
  conv => whnf
  try rw [hpn]
  refine ⟨jx_in_nat hp (show pN < 4 from hp4), ?_⟩
  conv => whnf
  try rw [hpn]
  rw [nar_z1]
  refine ⟨rfl, ?_⟩
  rw [hg8, hg2, hg1, hg0, hf2, hf1]
  simp only [R_sendWatch, R_sendWatch0, R_msg, R_bs_app, hNs]
/-- the ending of a PEER -/
def R_sendEnding (f : jx_F) (p : Nat) (cause : Int32) : jx_F := R_msg (rf_ui (rf_ui f 34 0 (f.1 34 0 + 1)) 22 p (f.1 34 0)) (R_hd 128 282 0 (f.1 34 0) (f.1 34 0) ++ (R_me f (R_hs f) 20 ++ R_nm 273 cause)) (R_conn f p)
theorem r_sendEnding {cause : Int32} {p : Int32} {pN cN : Nat} (hp : p.toInt = (pN : Int)) (hp4 : pN < 4) (ho : R_ok f) (hc : (R_conn f pN).toInt = (cN : Int)) (hc8 : cN ≤ 8) : rfc th σ0 m (d + 5) 265 [.ref 0, .int p, .int cause] f (fun r f' => r = none ∧ f' = R_sendEnding f pN cause) := by
  have hpn := i32_nat hp
  obtain ⟨⟨N, hN, hN4⟩, hok⟩ := ho
  have hNs : R_hs f = N := i32_nat hN
  obtain ⟨⟨a, ha, ha2⟩, z, hz, hz2⟩ := hok cN (by omega)
  refine rf_go dt_265 80 [] dt_265_k (by decide +kernel) rfl ?_
  intro C J hC hJ
  conv => whnf
  refine hC _ _ _ _ ((r_nextHop.up (show d + 1 ≤ d + 4 by omega)).mp ?_)
  rintro r f1 ⟨rfl, hf1⟩
  conv => whnf
  refine ⟨jx_in_nat hp (show pN < 4 from hp4), ?_⟩
  conv => whnf
  try rw [hpn]
  obtain ⟨f2, hf2⟩ : ∃ f2, f2 = rf_ui f1 22 pN (f.1 34 0) := ⟨_, rfl⟩
  rw [← hf2]
  refine ⟨jx_in_nat hp (show pN < 4 from hp4), ?_⟩
  conv => whnf
  try rw [hpn]
  refine ⟨jx_in_nat hp (show pN < 4 from hp4), ?_⟩
  conv => whnf
  try rw [hpn]
  have e20 : f2.1 22 pN = f.1 34 0 := by rw [hf2]; exact rf_ui_eq
  have eo : ∀ k j, k ≠ 34 → k ≠ 22 → f2.1 k j = f.1 k j := by
    intro k j h1 h2
    rw [hf2, rf_ui_ne (fun e => h2 e.1), hf1, rf_ui_ne (fun e => h1 e.1)]
  refine hC _ _ _ _ ((r_head.up (show d + 2 ≤ d + 4 by omega)).mp ?_)
  rintro r g0 ⟨rfl, hg0⟩
  rw [e20] at hg0
  have hs0 : ((rf_ui f2 66 0 0).1 66 0).toInt = ((0 : Nat) : Int) := by rw [rf_ui_eq]; decide
  have ht0 : (g0.1 66 0).toInt = ((20 : Nat) : Int) := by rw [hg0]; exact R_sz (bs := R_hd 128 282 0 (f.1 34 0) (f.1 34 0)) hs0 rfl (by omega)
  have eo0 : ∀ k j, k ≠ 34 → k ≠ 22 → k ≠ 65 → k ≠ 66 → g0.1 k j = f.1 k j := by
    intro k j h1 h2 h3 h4
    rw [hg0, R_bs_o h3 h4, rf_ui_ne (fun e => h4 e.1), eo k j h1 h2]
  conv => whnf
  have hml := R_ml_le (N := N) (s := 20)
  refine hC _ _ _ _ ((r_me (N := N) (by rw [eo0 6 0 (by decide) (by decide) (by decide) (by decide)]; exact hN) hN4 ht0 (by omega)).mp ?_)
  rintro r g1 ⟨rfl, hg1⟩
  rw [R_me_eq (f := f) (fun q => eo0 5 q (by decide) (by decide) (by decide) (by decide)) (eo0 6 0 (by decide) (by decide) (by decide) (by decide))] at hg1
  have ht1 : (g1.1 66 0).toInt = ((20 + R_ml N 20 : Nat) : Int) := by rw [hg1]; exact R_sz ht0 (by rw [R_me_len]) (by omega)
  have eo1 : ∀ k j, k ≠ 34 → k ≠ 22 → k ≠ 65 → k ≠ 66 → g1.1 k j = f.1 k j := by
    intro k j h1 h2 h3 h4
    rw [hg1, R_bs_o h3 h4, eo0 k j h1 h2 h3 h4]
  conv => whnf
  refine hC _ _ _ _ (((r_putNumber ht1 (by omega)).up (show d + 3 ≤ d + 4 by omega)).mp ?_)
  rintro r g2 ⟨rfl, hg2⟩
  have ht2 : (g2.1 66 0).toInt = ((20 + R_ml N 20 + 12 : Nat) : Int) := by rw [hg2]; exact R_sz ht1 (rfl) (by omega)
  have eo2 : ∀ k j, k ≠ 34 → k ≠ 22 → k ≠ 65 → k ≠ 66 → g2.1 k j = f.1 k j := by
    intro k j h1 h2 h3 h4
    rw [hg2, R_bs_o h3 h4, eo1 k j h1 h2 h3 h4]
  conv => whnf
  refine hC _ _ _ _ (((r_conn hp hp4).up (show d + 1 ≤ d + 4 by omega)).mp ?_)
  rintro r g9 ⟨rfl, hg9⟩
  conv => whnf
  rw [hg9, R_conn_eq (f := f) (eo2 11 pN (by decide) (by decide) (by decide) (by decide)) (eo2 13 pN (by decide) (by decide) (by decide) (by decide)) (eo2 14 pN (by decide) (by decide) (by decide) (by decide))]
  refine hC _ _ _ _ (((r_go hc hc8 ht2 (by omega) (by rw [eo2 33 cN (by decide) (by decide) (by decide) (by decide)]; exact ha) ha2 (by rw [eo2 32 cN (by decide) (by decide) (by decide) (by decide)]; exact hz) hz2).up (show d + 1 ≤ d + 4 by omega)).mp ?_)
  rintro r g8 ⟨rfl, hg8⟩
  conv => whnf
  refine ⟨rfl, ?_⟩
  rw [hg8, hg2, hg1, hg0, hf2, hf1]
  simp only [R_sendEnding, R_msg, R_bs_app, hNs]
/-- the answer to the opening that came -/
def R_answerCame (f : jx_F) (p : Nat) : jx_F := R_msg f (R_hd (f.1 23 p &&& 64) 257 0 (f.1 24 p) (f.1 25 p) ++ (R_nm 268 2001 ++ (R_me f (R_hs f) (20 + 12) ++ R_ad (20 + 12 + R_ml (R_hs f) (20 + 12))))) (f.1 14 p)
theorem r_answerCame  {p : Int32} {pN cN : Nat} (hp : p.toInt = (pN : Int)) (hp4 : pN < 4) (ho : R_ok f) (hc : (f.1 14 pN).toInt = (cN : Int)) (hc8 : cN ≤ 8) : rfc th σ0 m (d + 5) 211 [.ref 0, .int p] f (fun r f' => r = none ∧ f' = R_answerCame f pN) := by
  have hpn := i32_nat hp
  obtain ⟨⟨N, hN, hN4⟩, hok⟩ := ho
  have hNs : R_hs f = N := i32_nat hN
  obtain ⟨⟨a, ha, ha2⟩, z, hz, hz2⟩ := hok cN (by omega)
  refine rf_go dt_211 80 [] dt_211_k (by decide +kernel) rfl ?_
  intro C J hC hJ
  conv => whnf
  refine ⟨jx_in_nat hp (show pN < 4 from hp4), ?_⟩
  conv => whnf
  try rw [hpn]
  refine ⟨jx_in_nat hp (show pN < 4 from hp4), ?_⟩
  conv => whnf
  try rw [hpn]
  refine ⟨jx_in_nat hp (show pN < 4 from hp4), ?_⟩
  conv => whnf
  try rw [hpn]
  have eo : ∀ k j, k ≠ 34 → k ≠ 34 → f.1 k j = f.1 k j := fun k j _ _ => rfl
  refine hC _ _ _ _ ((r_head.up (show d + 2 ≤ d + 4 by omega)).mp ?_)
  rintro r g0 ⟨rfl, hg0⟩
  have hs0 : ((rf_ui f 66 0 0).1 66 0).toInt = ((0 : Nat) : Int) := by rw [rf_ui_eq]; decide
  have ht0 : (g0.1 66 0).toInt = ((20 : Nat) : Int) := by rw [hg0]; exact R_sz (bs := R_hd (f.1 23 pN &&& 64) 257 0 (f.1 24 pN) (f.1 25 pN)) hs0 rfl (by omega)
  have eo0 : ∀ k j, k ≠ 34 → k ≠ 34 → k ≠ 65 → k ≠ 66 → g0.1 k j = f.1 k j := by
    intro k j h1 h2 h3 h4
    rw [hg0, R_bs_o h3 h4, rf_ui_ne (fun e => h4 e.1), eo k j h1 h2]
  conv => whnf
  refine hC _ _ _ _ (((r_putNumber ht0 (by omega)).up (show d + 3 ≤ d + 4 by omega)).mp ?_)
  rintro r g1 ⟨rfl, hg1⟩
  have ht1 : (g1.1 66 0).toInt = ((20 + 12 : Nat) : Int) := by rw [hg1]; exact R_sz ht0 (rfl) (by omega)
  have eo1 : ∀ k j, k ≠ 34 → k ≠ 34 → k ≠ 65 → k ≠ 66 → g1.1 k j = f.1 k j := by
    intro k j h1 h2 h3 h4
    rw [hg1, R_bs_o h3 h4, eo0 k j h1 h2 h3 h4]
  conv => whnf
  have hml := R_ml_le (N := N) (s := 20 + 12)
  refine hC _ _ _ _ ((r_me (N := N) (by rw [eo1 6 0 (by decide) (by decide) (by decide) (by decide)]; exact hN) hN4 ht1 (by omega)).mp ?_)
  rintro r g2 ⟨rfl, hg2⟩
  rw [R_me_eq (f := f) (fun q => eo1 5 q (by decide) (by decide) (by decide) (by decide)) (eo1 6 0 (by decide) (by decide) (by decide) (by decide))] at hg2
  have ht2 : (g2.1 66 0).toInt = ((20 + 12 + R_ml N (20 + 12) : Nat) : Int) := by rw [hg2]; exact R_sz ht1 (by rw [R_me_len]) (by omega)
  have eo2 : ∀ k j, k ≠ 34 → k ≠ 34 → k ≠ 65 → k ≠ 66 → g2.1 k j = f.1 k j := by
    intro k j h1 h2 h3 h4
    rw [hg2, R_bs_o h3 h4, eo1 k j h1 h2 h3 h4]
  conv => whnf
  have had : (R_ad (20 + 12 + R_ml N (20 + 12))).length ≤ 60 := R_ad_le
  refine hC _ _ _ _ ((r_address ht2 (by omega)).mp ?_)
  rintro r g3 ⟨rfl, hg3⟩
  have ht3 : (g3.1 66 0).toInt = ((20 + 12 + R_ml N (20 + 12) + (R_ad (20 + 12 + R_ml N (20 + 12))).length : Nat) : Int) := by rw [hg3]; exact R_sz ht2 (rfl) (by omega)
  have eo3 : ∀ k j, k ≠ 34 → k ≠ 34 → k ≠ 65 → k ≠ 66 → g3.1 k j = f.1 k j := by
    intro k j h1 h2 h3 h4
    rw [hg3, R_bs_o h3 h4, eo2 k j h1 h2 h3 h4]
  conv => whnf
  refine ⟨jx_in_nat hp (show pN < 4 from hp4), ?_⟩
  conv => whnf
  rw [hpn, eo3 14 pN (by decide) (by decide) (by decide) (by decide)]
  refine hC _ _ _ _ (((r_go hc hc8 ht3 (by omega) (by rw [eo3 33 cN (by decide) (by decide) (by decide) (by decide)]; exact ha) ha2 (by rw [eo3 32 cN (by decide) (by decide) (by decide) (by decide)]; exact hz) hz2).up (show d + 1 ≤ d + 4 by omega)).mp ?_)
  rintro r g8 ⟨rfl, hg8⟩
  conv => whnf
  refine ⟨rfl, ?_⟩
  rw [hg8, hg3, hg2, hg1, hg0]
  simp only [R_answerCame, R_msg, R_bs_app, hNs]
end JxRefsend2
