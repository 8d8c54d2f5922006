/-! THE CLASS: an answer to an ENDING -/
section JxOnending
variable {th : Nat → Nat} {d B b n a R L bb q p : Nat} {xl : List Int32} {σ σ' : jx_S} {f f0 g : jx_F} {A : Nat → Nat → Nat} {G : Nat → Nat → Int32} {T : Nat → Nat} {o : Nat → Int32} {c w z ev cv : Int32}
theorem drop_da7 (hS : PS g n a) (hp : p < n) (hq : q < 8) (h27 : g.1 27 (q + 1) = Int32.ofNat (p + 1)) (h7 : g.1 11 p = 7) : R_drop g n a (q + 1) = R_dropAll g n a p := by
  have hn4 := hS.1.2.2.1
  obtain ⟨st, oo, kk, u, ⟨y1, y1'⟩, ⟨y2, y2'⟩, ⟨y3, y3'⟩, -, q5, q6, q7, q8, q9, q10, q11, q12, q13, q14, -⟩ := hS.2.2.1 p hp
  have st7 : st = 7 := by rw [h7, show (7 : Int32).toInt = 7 by decide] at y1; omega
  obtain ⟨i1, i2⟩ := i32_p1 (p := p) (by omega) h27
  have eS : R_da2 (R_da1 g p) p = R_shut g (q + 1) := by
    rcases hS.cof hp (c := q + 1) (by omega) (by omega) h27 with ⟨z1, z2⟩ | ⟨z1, z2, z3⟩
    · have eo : oo = q + 1 := by rw [z2, i32_ofNat (by omega)] at y2; omega
      have k0 : kk = 0 := by rcases q14 st7 with v | v <;> omega
      have e1 : R_da1 g p = R_shut g (q + 1) := by
        unfold R_da1
        rw [if_neg (fun v => by have := (i32_z y2).mp v; omega), i32_nat y2, eo]
      rw [e1]
      unfold R_da2
      refine if_pos ?_
      rw [R_shut_own (p := p) (by omega) h27 z1, rf_ui_ne (by omega), R_shut0_o (by omega)]
      exact (i32_z y3).mpr k0
    · have ek : kk = q + 1 := by rw [z2, i32_ofNat (by omega)] at y3; omega
      have o0 : oo = 0 := by rcases q14 st7 with v | v <;> omega
      have e1 : R_da1 g p = g := by
        unfold R_da1
        exact if_pos ((i32_z y2).mpr o0)
      rw [e1]
      unfold R_da2
      rw [if_neg (fun v => by have := (i32_z y3).mp v; omega), i32_nat y3, ek]
  have e11 : (R_shut g (q + 1)).1 11 p = 7 := by
    rw [R_shut_o (pn := p + 1) (by rw [h27]; exact i32_ofNat (by omega)) (by omega) (by omega)]
    exact h7
  unfold R_dropAll
  rw [eS]
  unfold R_drop
  rw [if_neg i1, i2]
  unfold R_drop1
  rw [e11, if_neg (by decide), if_neg (by decide)]
theorem k_onEnding {h : Nat} (hW : RW th B b xl σ g A T) (hS : PS g n a) (hM : MR σ (B + 9) R L o) (hl : 20 ≤ L) (hL : LK o L bb f0 g) (hq : q < 8) (hp : p < n) (h27 : g.1 27 (q + 1) = Int32.ofNat (p + 1)) (h7 : g.1 11 p = 7) (h34 : (g.1 34 0).toInt = (h : Int)) (hh : h < 2147482000) : jc th (d + 9) 150 [.ref B, .ref (A 6 p), .ref (B + 14 + 3 * q)] σ (fun r σ' => r = none ∧ RW th B b xl σ' (R_edg g n a p) A T ∧ kp B σ σ') := by
  obtain ⟨G, hR, hls⟩ := id hW
  have hX := hR.X
  have hn4 := hS.1.2.2.1
  have hp7 : (p : Int) < (g.1 7 0).toInt := by rw [hS.1.2.1]; omega
  unfold MR at hM
  obtain ⟨-, a2, -, a4⟩ := hR.pe hp7
  have h22 := (hS.2.2.2.2.1 p (by omega)).1
  have hpos : ¬ g.1 22 p = 0 → 0 < g.1 22 p := fun y => by
    rw [Int32.lt_iff_toInt_lt, show (0 : Int32).toInt = 0 by decide]
    have : (g.1 22 p).toInt ≠ 0 := fun v => y (Int32.toInt_inj.mp (by rw [v]; decide))
    omega
  obtain ⟨F, hF⟩ : ∃ F, F = R_edg g n a p := ⟨_, rfl⟩
  rw [← hF]
  unfold R_edg at hF
  rw [hL.h69, hL.h70, hL.h72] at hF
  have t32 : F = rf_ui g 2 0 (g.1 2 0 + 1) → cl_fj th (d + 8) 150 32 [(0, .ref B)] [] σ (fun r σ' => r = none ∧ RW th B b xl σ' F A T ∧ kp B σ σ') := by
    intro eF
    refine cl_at dt_150 40 [] dt_150_k ?_
    intro C J hC hJ
    conv => whnf
    refine ⟨_, jx_getF_of (hX) rfl, ?_⟩
    conv => whnf
    refine putK hX rfl (fit_i _) (fun s1 p1 o1 n1 => ?_)
    conv => whnf
    obtain ⟨hW1, hk1⟩ := RW.pas hR hls p1 o1 n1
    exact ⟨rfl, by rw [eF]; exact hW1, hk1⟩
  refine cl_go dt_150 60 [(32, [0])] dt_150_k rfl ?_
  intro C J hC hJ
  conv => whnf
  refine ⟨_, jx_getF_of (a2) rfl, ?_⟩
  conv => whnf
  by_cases z0 : g.1 22 p = 0
  · rw [if_neg (fun y => by rw [z0] at y; exact absurd y.1 (by decide))] at hF
    refine jx_yes (show (if g.1 22 p = 0 then (0 : Int32) else 1) = 0 by rw [if_pos z0]) ?_
    conv => whnf
    exact hJ _ _ _ _ (t32 hF)
  · refine jx_no (show ¬ (if g.1 22 p = 0 then (0 : Int32) else 1) = 0 by rw [if_neg z0]; decide) ?_
    conv => whnf
    refine ⟨_, jx_getF_of (hX) rfl, ?_⟩
    conv => whnf
    refine ⟨_, jx_getF_of (a2) rfl, ?_⟩
    conv => whnf
    rw [a4 z0]
    refine ⟨jx_isC_of hM.1, hC _ _ _ _ (((k_isAns (d := d) (x := 282) (hv := g.1 22 p) hM hl).up (by omega)).mp ?_)⟩
    rintro r s1 ⟨hr, hs1⟩
    rw [hs1]
    rcases hr with ⟨rfl, w0, r1, r2, r3⟩ | ⟨rfl, hr⟩
    · rw [if_pos ⟨hpos z0, ⟨r1, r2, r3⟩, hL.wz.mpr w0⟩, ← drop_da7 hS hp hq h27 h7] at hF
      conv => whnf
      refine jx_no (show ¬ (1 : Int32) = 0 by decide) ?_
      conv => whnf
      refine ⟨jx_isC_of hX, hC _ _ _ _ (((k_closeAsGone (d := d) hW hS h34 hh hq).up (by omega)).mp ?_)⟩
      rintro r s2 ⟨rfl, hW2, hk2⟩
      conv => whnf
      exact ⟨rfl, by rw [hF]; exact hW2, hk2⟩
    · rw [if_neg (fun y => hr ⟨hL.wz.mp y.2.2, y.2.1.1, y.2.1.2.1, y.2.1.2.2⟩)] at hF
      conv => whnf
      refine jx_yes (show (0 : Int32) = 0 from rfl) ?_
      conv => whnf
      exact hJ _ _ _ _ (t32 hF)
end JxOnending
