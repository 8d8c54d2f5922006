/-! THE REFERENCE refuses and answers; THE CLASS: what is WRONG, what is GRANTED in the draft -/
def R_nmd (w : Int32) : Prop := w = 5001 ∨ w = 5005 ∨ w = 5009 ∨ w = 5014 ∨ w = 3009
def R_nmT (f : jx_F) : List Int32 := if f.1 74 0 = 5001 ∨ f.1 74 0 = 5005 ∨ f.1 74 0 = 5009 ∨ f.1 74 0 = 5014 ∨ f.1 74 0 = 3009 then R_at 279 8 ++ R_at (f.1 75 0) 0 else []
def R_refuse (f : jx_F) (c : Int32) : jx_F := R_msg f (R_ans f (f.1 74 0) ++ R_nmT f) c
def R_stT (f : jx_F) (res : Int32) : List Int32 := if res = 2001 ∧ f.1 70 0 = 280 then R_nm 278 1 else []
def R_ansW (f : jx_F) (c res : Int32) : jx_F := R_msg f (R_ans f res ++ R_stT f res) c
/-- a GRANT -/
def R_grT (u : Int64) : List Int32 := R_at 431 16 ++ (R_at 421 8 ++ (R_p4 (u >>> 32).toInt32 ++ (R_p4 u.toInt32 ++ R_nm 448 600)))
section JxRefans2
variable {th : Nat → Nat} {σ0 : jx_S} {m d B O n : Nat} {σ σ' : jx_S} {f g : jx_F} {res cv c : Int32} {Q : Option Value → jx_F → Prop} {cN : Nat} {bs : List Int32} {w : Nat → Int32}
theorem r_goK {n : Nat} (ho : R_ok f) (go : ∀ k j, k ≠ 65 → k ≠ 66 → g.1 k j = f.1 k j) (hg : (g.1 66 0).toInt = (n : Int)) (hn : n ≤ 700) (hc : cv.toInt = (cN : Int)) (hc8 : cN ≤ 8) : rfc th σ0 m (d + 1) 200 [.ref 0, .int cv] g (fun r f' => r = none ∧ f' = R_go g cv) := by
  obtain ⟨⟨a, ha, ha2⟩, z, hz, hz2⟩ := ho.2 cN (by omega)
  exact r_go hc hc8 hg hn (by rw [go 33 cN (by decide) (by decide)]; exact ha) ha2 (by rw [go 32 cN (by decide) (by decide)]; exact hz) hz2
theorem r_refuse (ho : R_ok f) (hs : R_sok f) (hc : cv.toInt = (cN : Int)) (hc8 : cN ≤ 8) : rfc th σ0 m (d + 6) 232 [.ref 0, .int cv] f (fun r f' => r = none ∧ f' = R_refuse f cv) := by
  obtain ⟨al, al4⟩ := R_ans_l (res := f.1 74 0) ho hs
  have hs0 : ((rf_ui f 66 0 0).1 66 0).toInt = ((0 : Nat) : Int) := by rw [rf_ui_eq]; decide
  have t76 : ∀ (g : jx_F) (n : Nat), (g.1 66 0).toInt = (n : Int) → n ≤ 700 → (∀ k j, k ≠ 65 → k ≠ 66 → g.1 k j = f.1 k j) → R_go g cv = R_refuse f cv → jx_fj th (rf_g m) (rf σ0 m) (d + 5) 232 76 [(0, .ref 0), (1, .int cv)] [] g (fun r f' => r = none ∧ f' = R_refuse f cv) := by
    intro g n hg hn go eF
    refine rf_at dt_232 40 [] dt_232_k (by decide +kernel) ?_
    intro C J hC hJ
    conv => whnf
    refine hC _ _ _ _ (((r_goK (d := d) ho go hg hn hc hc8).up (by omega)).mp ?_)
    rintro r g1 ⟨rfl, hg1⟩
    conv => whnf
    exact ⟨rfl, by rw [hg1, eF]⟩
  have t58 : ∀ g : jx_F, g = R_bs (rf_ui f 66 0 0) (R_ans f (f.1 74 0)) → R_nmd (f.1 74 0) → jx_fj th (rf_g m) (rf σ0 m) (d + 5) 232 58 [(0, .ref 0), (1, .int cv)] [] g (fun r f' => r = none ∧ f' = R_refuse f cv) := by
    intro g hg hn
    have go : ∀ k j, k ≠ 65 → k ≠ 66 → g.1 k j = f.1 k j := fun k j h3 h4 => by rw [hg, R_bs_o h3 h4, rf_ui_ne (fun e => h4 e.1)]
    have ht : (g.1 66 0).toInt = (((R_ans f (f.1 74 0)).length : Nat) : Int) := by rw [hg]; exact R_sz hs0 (by omega) (by omega)
    refine rf_at dt_232 40 [(76, [0, 1])] dt_232_k (by decide +kernel) ?_
    intro C J hC hJ
    conv => whnf
    refine hC _ _ _ _ (((r_attribute (d := d) ht (by omega)).up (by omega)).mp ?_)
    rintro r g1 ⟨rfl, hg1⟩
    have ht1 : (g1.1 66 0).toInt = (((R_ans f (f.1 74 0)).length + 8 : Nat) : Int) := by rw [hg1]; exact R_sz ht rfl (by omega)
    have go1 : ∀ k j, k ≠ 65 → k ≠ 66 → g1.1 k j = f.1 k j := fun k j h3 h4 => by rw [hg1, R_bs_o h3 h4, go k j h3 h4]
    conv => whnf
    rw [go1 75 0 (by decide) (by decide)]
    refine hC _ _ _ _ (((r_attribute (d := d) ht1 (by omega)).up (by omega)).mp ?_)
    rintro r g2 ⟨rfl, hg2⟩
    have ht2 : (g2.1 66 0).toInt = (((R_ans f (f.1 74 0)).length + 16 : Nat) : Int) := by rw [hg2]; exact R_sz ht1 rfl (by omega)
    conv => whnf
    refine hJ _ _ _ _ (t76 g2 _ ht2 (by omega) (fun k j h3 h4 => by rw [hg2, R_bs_o h3 h4, go1 k j h3 h4]) ?_)
    unfold R_refuse R_msg R_nmT
    rw [if_pos (show f.1 74 0 = 5001 ∨ f.1 74 0 = 5005 ∨ f.1 74 0 = 5009 ∨ f.1 74 0 = 5014 ∨ f.1 74 0 = 3009 from hn), hg2, hg1, hg, R_bs_app, R_bs_app]
  refine rf_go dt_232 60 [(58, [0, 1]), (76, [0, 1])] dt_232_k (by decide +kernel) rfl ?_
  intro C J hC hJ
  conv => whnf
  refine hC _ _ _ _ ((r_answer (d := d) ho hs).mp ?_)
  rintro r g ⟨rfl, hg⟩
  have go : ∀ k j, k ≠ 65 → k ≠ 66 → g.1 k j = f.1 k j := fun k j h3 h4 => by rw [hg, R_bs_o h3 h4, rf_ui_ne (fun e => h4 e.1)]
  have ht : (g.1 66 0).toInt = (((R_ans f (f.1 74 0)).length : Nat) : Int) := by rw [hg]; exact R_sz hs0 (by omega) (by omega)
  conv => whnf
  rw [go 74 0 (by decide) (by decide)]
  refine ⟨fun (h1 : f.1 74 0 = 5001) => ?_, fun (h1 : ¬ f.1 74 0 = 5001) => ?_⟩
  · conv => whnf
    exact hJ _ _ _ _ (t58 g hg (Or.inl h1))
  conv => whnf
  rw [go 74 0 (by decide) (by decide)]
  refine ⟨fun (h2 : f.1 74 0 = 5005) => ?_, fun (h2 : ¬ f.1 74 0 = 5005) => ?_⟩
  · conv => whnf
    exact hJ _ _ _ _ (t58 g hg (Or.inr (Or.inl h2)))
  conv => whnf
  rw [go 74 0 (by decide) (by decide)]
  refine ⟨fun (h3 : f.1 74 0 = 5009) => ?_, fun (h3 : ¬ f.1 74 0 = 5009) => ?_⟩
  · conv => whnf
    exact hJ _ _ _ _ (t58 g hg (Or.inr (Or.inr (Or.inl h3))))
  conv => whnf
  rw [go 74 0 (by decide) (by decide)]
  refine ⟨fun (h4 : f.1 74 0 = 5014) => ?_, fun (h4 : ¬ f.1 74 0 = 5014) => ?_⟩
  · conv => whnf
    exact hJ _ _ _ _ (t58 g hg (Or.inr (Or.inr (Or.inr (Or.inl h4)))))
  conv => whnf
  rw [go 74 0 (by decide) (by decide)]
  refine ⟨fun (h5 : ¬ f.1 74 0 = 3009) => ?_, fun (h5 : ¬ ¬ f.1 74 0 = 3009) => ?_⟩
  · conv => whnf
    refine hJ _ _ _ _ (t76 g _ ht (by omega) go ?_)
    unfold R_refuse R_msg R_nmT
    rw [if_neg (fun z => by rcases z with z | z | z | z | z; exact h1 z; exact h2 z; exact h3 z; exact h4 z; exact h5 z), hg, List.append_nil]
  · conv => whnf
    exact hJ _ _ _ _ (t58 g hg (Or.inr (Or.inr (Or.inr (Or.inr (Decidable.not_not.mp h5))))))
theorem r_answerWith (ho : R_ok f) (hs : R_sok f) (hc : cv.toInt = (cN : Int)) (hc8 : cN ≤ 8) (hno : ¬ (res = 2001 ∧ f.1 70 0 = 257)) : rfc th σ0 m (d + 6) 235 [.ref 0, .int cv, .int res] f (fun r f' => r = none ∧ f' = R_ansW f cv res) := by
  obtain ⟨al, al4⟩ := R_ans_l (res := res) ho hs
  have hs0 : ((rf_ui f 66 0 0).1 66 0).toInt = ((0 : Nat) : Int) := by rw [rf_ui_eq]; decide
  obtain ⟨g, hg⟩ : ∃ g, g = R_bs (rf_ui f 66 0 0) (R_ans f res) := ⟨_, rfl⟩
  have go : ∀ k j, k ≠ 65 → k ≠ 66 → g.1 k j = f.1 k j := fun k j h3 h4 => by rw [hg, R_bs_o h3 h4, rf_ui_ne (fun e => h4 e.1)]
  have ht : (g.1 66 0).toInt = (((R_ans f res).length : Nat) : Int) := by rw [hg]; exact R_sz hs0 (by omega) (by omega)
  have t51 : ∀ (g : jx_F) (n : Nat), (g.1 66 0).toInt = (n : Int) → n ≤ 700 → (∀ k j, k ≠ 65 → k ≠ 66 → g.1 k j = f.1 k j) → R_go g cv = R_ansW f cv res → jx_fj th (rf_g m) (rf σ0 m) (d + 5) 235 51 [(0, .ref 0), (1, .int cv)] [] g (fun r f' => r = none ∧ f' = R_ansW f cv res) := by
    intro g n hg hn go eF
    refine rf_at dt_235 40 [] dt_235_k (by decide +kernel) ?_
    intro C J hC hJ
    conv => whnf
    refine hC _ _ _ _ (((r_goK (d := d) ho go hg hn hc hc8).up (by omega)).mp ?_)
    rintro r g1 ⟨rfl, hg1⟩
    conv => whnf
    exact ⟨rfl, by rw [hg1, eF]⟩
  have t26 : jx_fj th (rf_g m) (rf σ0 m) (d + 5) 235 26 [(0, .ref 0), (1, .int cv), (2, .int res)] [] g (fun r f' => r = none ∧ f' = R_ansW f cv res) := by
    refine rf_at dt_235 40 [(51, [0, 1])] dt_235_k (by decide +kernel) ?_
    intro C J hC hJ
    conv => whnf
    refine ⟨fun (h1 : ¬ res = 2001) => ?_, fun (h1 : ¬ ¬ res = 2001) => ?_⟩
    · conv => whnf
      refine hJ _ _ _ _ (t51 g _ ht (by omega) go ?_)
      unfold R_ansW R_msg R_stT
      rw [if_neg (fun z => h1 z.1), hg, List.append_nil]
    have h1 := Decidable.not_not.mp h1
    conv => whnf
    rw [go 70 0 (by decide) (by decide)]
    refine ⟨fun (h2 : ¬ f.1 70 0 = 280) => ?_, fun (h2 : ¬ ¬ f.1 70 0 = 280) => ?_⟩
    · conv => whnf
      refine hJ _ _ _ _ (t51 g _ ht (by omega) go ?_)
      unfold R_ansW R_msg R_stT
      rw [if_neg (fun z => h2 z.2), hg, List.append_nil]
    have h2 := Decidable.not_not.mp h2
    conv => whnf
    refine hC _ _ _ _ (((r_putNumber (d := d) ht (by omega)).up (by omega)).mp ?_)
    rintro r g1 ⟨rfl, hg1⟩
    have ht1 : (g1.1 66 0).toInt = (((R_ans f res).length + 12 : Nat) : Int) := by rw [hg1]; exact R_sz ht rfl (by omega)
    conv => whnf
    refine hJ _ _ _ _ (t51 g1 _ ht1 (by omega) (fun k j h3 h4 => by rw [hg1, R_bs_o h3 h4, go k j h3 h4]) ?_)
    unfold R_ansW R_msg R_stT
    rw [if_pos ⟨h1, h2⟩, hg1, hg, R_bs_app]
  refine rf_go dt_235 60 [(26, [0, 1, 2])] dt_235_k (by decide +kernel) rfl ?_
  intro C J hC hJ
  conv => whnf
  refine hC _ _ _ _ ((r_answer (d := d) ho hs).mp ?_)
  rintro r g' ⟨rfl, hg'⟩
  rw [hg', ← hg]
  conv => whnf
  refine ⟨fun (h1 : ¬ res = 2001) => ?_, fun (h1 : ¬ ¬ res = 2001) => ?_⟩
  · conv => whnf
    exact hJ _ _ _ _ t26
  have h1 := Decidable.not_not.mp h1
  conv => whnf
  rw [go 70 0 (by decide) (by decide)]
  refine jx_yes (show ¬ f.1 70 0 = 257 from fun z => hno ⟨h1, z⟩) ?_
  conv => whnf
  exact hJ _ _ _ _ t26
/-- the word of FLAGS and COMMAND -/
theorem sb {x y : Int32} {t i : Nat} (ht : t ≤ 24) (e1 : y.toBitVec = x.toBitVec.sshiftRight t) (hi : i < 8) : y.toInt8.toBitVec.getLsbD i = x.toBitVec.getLsbD (t + i) := by
  have h2 : t + i < 32 := by omega
  have h3 : i < 32 := by omega
  rw [Int32.toBitVec_toInt8, e1, BitVec.getLsbD_signExtend]
  simp only [BitVec.getLsbD_sshiftRight]
  simp [hi, h2, h3, show ¬ 32 ≤ i by omega]
theorem sb_eq {x y x' y' : Int32} {t t' : Nat} (ht : t ≤ 24) (ht' : t' ≤ 24) (e1 : y.toBitVec = x.toBitVec.sshiftRight t) (e2 : y'.toBitVec = x'.toBitVec.sshiftRight t') (h : ∀ i, i < 8 → x.toBitVec.getLsbD (t + i) = x'.toBitVec.getLsbD (t' + i)) : y.toInt8 = y'.toInt8 := by
  apply Int8.toBitVec_inj.mp
  apply BitVec.eq_of_getLsbD_eq
  intro i hi
  rw [sb ht e1 hi, sb ht' e2 hi, h i hi]
theorem bit_lt {x : Int32} {n i : Nat} (h : x.toBitVec.toNat < 2 ^ n) (hi : n ≤ i) : x.toBitVec.getLsbD i = false := by
  unfold BitVec.getLsbD
  exact Nat.testBit_lt_two_pow (Nat.lt_of_lt_of_le h (Nat.pow_le_pow_right (by omega) hi))
theorem ow_hd {fl c : Int32} (hf : fl.toBitVec.toNat < 2 ^ 8) (hc : c.toBitVec.toNat < 2 ^ 24) : ow (fl <<< 24 ||| c) = om (R_p1 fl ++ R_p3 c) := by
  have e0 : (fl <<< 24 ||| c).toBitVec = (fl.toBitVec <<< 24) ||| c.toBitVec := rfl
  have key : ∀ j, j < 32 → (fl <<< 24 ||| c).toBitVec.getLsbD j = if j < 24 then c.toBitVec.getLsbD j else fl.toBitVec.getLsbD (j - 24) := by
    intro j hj
    rw [e0, BitVec.getLsbD_or, BitVec.getLsbD_shiftLeft]
    by_cases h : j < 24
    · simp [h]
    · rw [if_neg h, bit_lt hc (by omega)]
      simp [h, hj]
  have q1 : ((fl <<< 24 ||| c) >>> 24).toInt8 = (fl >>> 0).toInt8 := sb_eq (t := 24) (t' := 0) (x := fl <<< 24 ||| c) (x' := fl) (by omega) (by omega) rfl rfl (fun i hi => by
    rw [key (24 + i) (by omega), if_neg (by omega)]
    congr 1
    omega)
  have q2 : ((fl <<< 24 ||| c) >>> 16).toInt8 = (c >>> 16).toInt8 := sb_eq (t := 16) (t' := 16) (x := fl <<< 24 ||| c) (x' := c) (by omega) (by omega) rfl rfl (fun i hi => by rw [key (16 + i) (by omega), if_pos (by omega)])
  have q3 : ((fl <<< 24 ||| c) >>> 8).toInt8 = (c >>> 8).toInt8 := sb_eq (t := 8) (t' := 8) (x := fl <<< 24 ||| c) (x' := c) (by omega) (by omega) rfl rfl (fun i hi => by rw [key (8 + i) (by omega), if_pos (by omega)])
  have q4 : ((fl <<< 24 ||| c) >>> 0).toInt8 = (c >>> 0).toInt8 := sb_eq (t := 0) (t' := 0) (x := fl <<< 24 ||| c) (x' := c) (by omega) (by omega) rfl rfl (fun i hi => by rw [key (0 + i) (by omega), if_pos (by omega)])
  show [((fl <<< 24 ||| c) >>> 24).toInt8, ((fl <<< 24 ||| c) >>> 16).toInt8, ((fl <<< 24 ||| c) >>> 8).toInt8, ((fl <<< 24 ||| c) >>> 0).toInt8] = [(fl >>> 0).toInt8, (c >>> 16).toInt8, (c >>> 8).toInt8, (c >>> 0).toInt8]
  rw [q1, q2, q3, q4]
end JxRefans2
