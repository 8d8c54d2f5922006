/-! THE REFERENCE: an ANSWER is KEPT -/
def R_kp0 (f : jx_F) (n : Nat) : jx_F := rf_ui (rf_ui (rf_ui (R_cpT (rf_ui (R_cy f 65 0 60 (320 * n) (f.1 66 0).toNatClampNeg) 61 n (f.1 66 0)) 1 (R_hSk f 1) 62 (41 * n) (f.1 78 1).toNatClampNeg) 63 n (f.1 73 0)) 64 n (f.1 1 0 + 240)) 59 0 (f.1 59 0 + 1)
def R_keep (f : jx_F) (n : Nat) : jx_F := if n = 32 then R_oldest (R_kp0 f n) 33 else R_kp0 f n
section JxRefkeep
variable {th : Nat → Nat} {σ0 : jx_S} {m d n s i k N : Nat} {f : jx_F} {Q : Option Value → jx_F → Prop}
theorem kp0_o {q j : Nat} (h : ¬ (59 ≤ q ∧ q ≤ 64)) : (R_kp0 f n).1 q j = f.1 q j := by
  unfold R_kp0 R_cpT
  rw [rf_ui_ne (by omega), rf_ui_ne (by omega), rf_ui_ne (by omega), R_cy_o (by omega), rf_ui_ne (by omega), rf_ui_ne (by omega), R_cy_o (by omega)]
theorem kp0_l : (R_kp0 f n).2 = f.2 := rfl
theorem keep_o {q j : Nat} (h : ¬ (59 ≤ q ∧ q ≤ 64)) : (R_keep f n).1 q j = f.1 q j := by
  unfold R_keep
  split
  · rw [R_oldest_o h, kp0_o h]
  · exact kp0_o h
theorem keep_l : (R_keep f n).2 = f.2 := by
  unfold R_keep
  split
  · rw [R_oldest_l, kp0_l]
  · exact kp0_l
theorem r_keep_l (hn : (f.1 59 0).toInt = (n : Int)) (hn32 : n ≤ 32) (hN : (f.1 66 0).toInt = (N : Int)) (hN3 : N ≤ 320) : ∀ (r i : Nat) (iv : Int32), iv.toInt = (i : Int) → i + r = N → jx_fj th (rf_g m) (rf σ0 m) d 260 37 [(0, .ref 0)] [] (R_cy f 65 0 60 (320 * n) N) Q → jx_fj th (rf_g m) (rf σ0 m) d 260 2 [(0, .ref 0), (1, .int iv)] [] (R_cy f 65 0 60 (320 * n) i) Q
  | 0, i, iv, hv, hi, h => by
    have ei : i = N := by omega
    rw [ei]
    refine rf_at dt_260 40 [(37, [0])] dt_260_k (by decide +kernel) ?_
    intro C J hC hJ
    conv => whnf
    refine jx_yes (show (R_cy f 65 0 60 (320 * n) N).1 66 0 ≤ iv by rw [R_cy_o (by omega), Int32.le_iff_toInt_le, hv, hN]; omega) ?_
    conv => whnf
    exact hJ _ _ _ _ h
  | r + 1, i, iv, hv, hi, h => by
    have h32 : (320 * f.1 59 0).toInt = ((320 * n : Nat) : Int) := by rw [i32_mul (a := 320) (by decide) hn (by omega) (by omega)]; omega
    have hei : (320 * f.1 59 0 + iv).toInt = ((320 * n + i : Nat) : Int) := by rw [i32_add h32 hv (by omega) (by omega)]; omega
    refine rf_at dt_260 40 [(2, [0, 1])] dt_260_k (by decide +kernel) ?_
    intro C J hC hJ
    conv => whnf
    refine jx_no (show ¬ (R_cy f 65 0 60 (320 * n) i).1 66 0 ≤ iv by rw [R_cy_o (by omega), Int32.le_iff_toInt_le, hv, hN]; omega) ?_
    conv => whnf
    refine ⟨jx_in_nat hv (show i < 700 by omega), ?_⟩
    conv => whnf
    rw [show (R_cy f 65 0 60 (320 * n) i).1 59 0 = f.1 59 0 from R_cy_o (by omega)]
    refine ⟨jx_in_nat hei (show 320 * n + i < 10560 by omega), ?_⟩
    conv => whnf
    rw [i32_nat hv, show ((fun x y : Int32 => x + y) ((fun x y : Int32 => x * y) 320 (f.1 59 0)) iv).toNatClampNeg = 320 * n + i from i32_nat hei]
    have e : (R_cy f 65 0 60 (320 * n) i).1 65 i = f.1 65 (0 + i) := by rw [R_cy_o (by omega), Nat.zero_add]
    rw [e, R_cy_s]
    refine hJ _ _ _ _ (r_keep_l hn hn32 hN hN3 r (i + 1) _ ?_ (by omega) h)
    rw [i32_add (c := 1) hv (by decide) (by omega) (by omega)]; omega
theorem r_keep (hn : (f.1 59 0).toInt = (n : Int)) (hn32 : n ≤ 32) (hN : (f.1 66 0).toInt = (N : Int)) (hN3 : N ≤ 320) (h1 : R_tok f 1) : rfc th σ0 m (d + 3) 260 [.ref 0] f (fun r f' => r = none ∧ f' = R_keep f n) := by
  obtain ⟨S1, N1, a1, a2, a3, a4⟩ := h1
  have hn33 : n < 33 := by omega
  have t37 : jx_fj th (rf_g m) (rf σ0 m) (d + 2) 260 37 [(0, .ref 0)] [] (R_cy f 65 0 60 (320 * n) N) (fun r f' => r = none ∧ f' = R_keep f n) := by
    obtain ⟨g, hg⟩ : ∃ g, g = R_cy f 65 0 60 (320 * n) N := ⟨_, rfl⟩
    have og : ∀ u j, u ≠ 60 → g.1 u j = f.1 u j := fun u j z => by rw [hg]; exact R_cy_o (by omega)
    rw [← hg]
    have g59 : (g.1 59 0).toInt = (n : Int) := by rw [og 59 0 (by omega)]; exact hn
    have k41 : (41 * g.1 59 0).toInt = ((41 * n : Nat) : Int) := by rw [i32_mul (a := 41) (by decide) g59 (by omega) (by omega)]; omega
    refine rf_at dt_260 90 [] dt_260_k (by decide +kernel) ?_
    intro C J hC hJ
    conv => whnf
    refine ⟨jx_in_nat g59 hn33, ?_⟩
    conv => whnf
    rw [i32_nat g59]
    obtain ⟨g1, hg1⟩ : ∃ g1, g1 = rf_ui g 61 n (g.1 66 0) := ⟨_, rfl⟩
    have o1 : ∀ u j, u ≠ 60 → u ≠ 61 → g1.1 u j = f.1 u j := fun u j z1 z2 => by rw [hg1, rf_ui_ne (by omega)]; exact og u j z1
    rw [← hg1, show g1.1 59 0 = g.1 59 0 by rw [hg1]; exact rf_ui_ne (by omega)]
    refine hC _ _ _ _ (((r_copyText62 (d := d) (k := 1) (S := S1) (a := 41 * n) (N := N1) (by decide) (by decide) (by rw [o1 67 0 (by omega) (by omega), o1 77 1 (by omega) (by omega)]; exact a1) a4 k41 (by omega) (by rw [o1 78 1 (by omega) (by omega)]; exact a2)).up (by omega)).mp ?_)
    rintro r g2 ⟨rfl, hg2⟩
    have o2 : ∀ u j, u ≠ 60 → u ≠ 61 → u ≠ 62 → g2.1 u j = f.1 u j := fun u j z1 z2 z3 => by
      rw [hg2]
      unfold R_cpT
      rw [R_cy_o (by omega), rf_ui_ne (by omega), o1 u j z1 z2]
    have g259 : (g2.1 59 0).toInt = (n : Int) := by rw [o2 59 0 (by omega) (by omega) (by omega)]; exact hn
    conv => whnf
    refine ⟨jx_in_nat g259 hn33, ?_⟩
    conv => whnf
    rw [i32_nat g259]
    obtain ⟨g3, hg3⟩ : ∃ g3, g3 = rf_ui g2 63 n (g2.1 73 0) := ⟨_, rfl⟩
    have o3 : ∀ u j, u ≠ 60 → u ≠ 61 → u ≠ 62 → u ≠ 63 → g3.1 u j = f.1 u j := fun u j z1 z2 z3 z4 => by rw [hg3, rf_ui_ne (by omega)]; exact o2 u j z1 z2 z3
    have g359 : (g3.1 59 0).toInt = (n : Int) := by rw [o3 59 0 (by omega) (by omega) (by omega) (by omega)]; exact hn
    rw [← hg3]
    refine ⟨jx_in_nat g359 hn33, ?_⟩
    conv => whnf
    rw [i32_nat g359]
    obtain ⟨g4, hg4⟩ : ∃ g4, g4 = rf_ui g3 64 n ((fun x y : Int32 => x + y) (g3.1 1 0) 240) := ⟨_, rfl⟩
    have o4 : ∀ u j, u ≠ 60 → u ≠ 61 → u ≠ 62 → u ≠ 63 → u ≠ 64 → g4.1 u j = f.1 u j := fun u j z1 z2 z3 z4 z5 => by rw [hg4, rf_ui_ne (by omega)]; exact o3 u j z1 z2 z3 z4
    rw [← hg4]
    obtain ⟨F, hF⟩ : ∃ F, F = R_kp0 f n := ⟨_, rfl⟩
    have eF : rf_ui g4 59 0 ((fun x y : Int32 => x + y) (g4.1 59 0) 1) = F := by
      rw [o4 59 0 (by omega) (by omega) (by omega) (by omega) (by omega), hg4, o3 1 0 (by omega) (by omega) (by omega) (by omega), hg3, o2 73 0 (by omega) (by omega) (by omega), hg2, hg1, og 66 0 (by omega), hg, hF]
      unfold R_kp0 R_hSk
      rw [i32_nat a1, i32_nat a2, i32_nat hN]
    rw [eF]
    have F59 : F.1 59 0 = f.1 59 0 + 1 := by rw [hF]; unfold R_kp0; exact rf_ui_eq
    have F59' : (F.1 59 0).toInt = ((n + 1 : Nat) : Int) := by rw [F59, i32_add (c := 1) hn (by decide) (by omega) (by omega)]; omega
    unfold R_keep
    rw [← hF]
    refine ⟨fun (h3 : ¬ F.1 59 0 = 33) => ?_, fun (h3 : ¬ ¬ F.1 59 0 = 33) => ?_⟩
    · have e : ¬ n = 32 := fun z => h3 (Int32.toInt_inj.mp (by rw [F59', z]; decide))
      rw [if_neg e]
      conv => whnf
      exact ⟨rfl, rfl⟩
    · have e : n = 32 := by
        have := Decidable.not_not.mp h3
        rw [this] at F59'
        have e33 : (33 : Int32).toInt = 33 := by decide
        omega
      rw [if_pos e]
      conv => whnf
      refine hC _ _ _ _ ((r_oldest (d := d) (n := 33) (by rw [F59', e]) (by omega) (by omega)).mp ?_)
      rintro r g5 ⟨rfl, hg5⟩
      conv => whnf
      exact ⟨rfl, hg5⟩
  have := r_keep_l (th := th) (σ0 := σ0) (m := m) (d := d + 2) hn hn32 hN hN3 N 0 0 (by decide) (by omega) t37
  rw [R_cy_0] at this
  refine rf_go dt_260 20 [(2, [0, 1])] dt_260_k (by decide +kernel) rfl ?_
  intro C J hC hJ
  conv => whnf
  exact hJ _ _ _ _ this
end JxRefkeep
