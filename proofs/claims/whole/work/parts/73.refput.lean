/-! THE REFERENCE: a message as it is made, octet by octet -/
/-- an octet behind what is made -/
def R_b (f : jx_F) (y : Int32) : jx_F := rf_ui (rf_ui f 65 (f.1 66 0).toNatClampNeg y.toInt8.toInt32) 66 0 (f.1 66 0 + 1)
def R_bs (f : jx_F) (bs : List Int32) : jx_F := bs.foldl R_b f
def R_p1 (v : Int32) : List Int32 := [v >>> 0]
def R_p2 (v : Int32) : List Int32 := [v >>> 8, v >>> 0]
def R_p3 (v : Int32) : List Int32 := [v >>> 16, v >>> 8, v >>> 0]
def R_p4 (v : Int32) : List Int32 := [v >>> 24, v >>> 16, v >>> 8, v >>> 0]
theorem R_bs_app (f : jx_F) (a c : List Int32) : R_bs f (a ++ c) = R_bs (R_bs f a) c := List.foldl_append
theorem rf_ui_ne {f : jx_F} {k j a c : Nat} {x : Int32} (h : ¬ (a = k ∧ c = j)) : (rf_ui f k j x).1 a c = f.1 a c := if_neg h
theorem rf_ui_eq {f : jx_F} {k j : Nat} {x : Int32} : (rf_ui f k j x).1 k j = x := if_pos ⟨rfl, rfl⟩
theorem rf_ui_l {f : jx_F} {k j : Nat} {x : Int32} : (rf_ui f k j x).2 = f.2 := rfl
theorem rf_ul_i {f : jx_F} {k j : Nat} {x : Int64} : (rf_ul f k j x).1 = f.1 := rfl
theorem R_b_size {f : jx_F} {y : Int32} : (R_b f y).1 66 0 = f.1 66 0 + 1 := rf_ui_eq
theorem R_b_o {f : jx_F} {y : Int32} {k j : Nat} (h1 : k ≠ 65) (h2 : k ≠ 66) : (R_b f y).1 k j = f.1 k j := by
  unfold R_b
  rw [rf_ui_ne (fun h => h2 h.1), rf_ui_ne (fun h => h1 h.1)]
theorem R_bs_o {k j : Nat} (h1 : k ≠ 65) (h2 : k ≠ 66) : ∀ (bs : List Int32) (f : jx_F), (R_bs f bs).1 k j = f.1 k j
  | [], _ => rfl
  | y :: bs, f => (R_bs_o h1 h2 bs (R_b f y)).trans (R_b_o h1 h2)
theorem R_bs_l : ∀ (bs : List Int32) (f : jx_F), (R_bs f bs).2 = f.2
  | [], _ => rfl
  | y :: bs, f => R_bs_l bs (R_b f y)
theorem R_bs_size : ∀ (bs : List Int32) (f : jx_F) (s : Nat), (f.1 66 0).toInt = (s : Int) → s + bs.length < 2147483648 → ((R_bs f bs).1 66 0).toInt = ((s + bs.length : Nat) : Int)
  | [], _, _, h, _ => h
  | y :: bs, f, s, h, hl => by
    have := R_bs_size bs (R_b f y) (s + 1) (by rw [R_b_size, i32_add (c := 1) h (by decide) (by omega) (by simp only [List.length_cons] at hl; omega)]; omega) (by simp only [List.length_cons] at hl; omega)
    rw [show R_bs f (y :: bs) = R_bs (R_b f y) bs from rfl, this]
    simp only [List.length_cons]
    omega
theorem jx_in_nat {j : Int32} {n k : Nat} (h : j.toInt = (k : Int)) (hk : k < n) : jx_in j n := by
  intro hh
  rcases hh with hh | hh
  · rw [Int32.lt_iff_toInt_lt, h] at hh
    simp at hh
    omega
  · have : j.toInt.toNat = j.toNatClampNeg := rfl
    omega
theorem nar_b (y : Int32) : vp_nar .byte y.toInt8.toInt32 = y.toInt8.toInt32 := by
  simp [vp_nar, narrow]
section JxRefput
variable {th : Nat → Nat} {σ0 : jx_S} {m d s : Nat} {f : jx_F} {v : Int32}
theorem r_put_s {n k : Int32} {Q : Option Value → jx_F → Prop} (hk : ¬ k < 0) (hk3 : k ≤ 3) (hs : (f.1 66 0).toInt = (s : Int)) (hl : s < 700) (h : jx_fj th (rf_g m) (rf σ0 m) d 193 4 [(0, .ref 0), (1, .int v), (2, .int n), (3, .int (k + Int32.ofInt (-1)))] [] (R_b f (v >>> (8 * k &&& 31))) Q) : jx_fj th (rf_g m) (rf σ0 m) d 193 4 [(0, .ref 0), (1, .int v), (2, .int n), (3, .int k)] [] f Q := by
  refine rf_at dt_193 40 [(4, [0, 1, 2, 3])] dt_193_k (by decide +kernel) ?_
  intro C J hC hJ
  conv => whnf
  refine jx_no hk ?_
  conv => whnf
  refine jx_yes hk3 ?_
  conv => whnf
  refine ⟨jx_in_nat hs (show s < 700 from hl), ?_⟩
  conv => whnf
  rw [nar_b]
  exact hJ _ _ _ _ h
theorem r_put_e {n k : Int32} {Q : Option Value → jx_F → Prop} (hk : k < 0) (h : Q none f) : jx_fj th (rf_g m) (rf σ0 m) d 193 4 [(0, .ref 0), (1, .int v), (2, .int n), (3, .int k)] [] f Q := by
  refine rf_at dt_193 40 [(4, [0, 1, 2, 3])] dt_193_k (by decide +kernel) ?_
  intro C J hC hJ
  conv => whnf
  refine jx_yes hk ?_
  conv => whnf
  exact h
theorem r_put1 (hs : (f.1 66 0).toInt = (s : Int)) (hl : s + 1 ≤ 700) : rfc th σ0 m (d + 1) 193 [.ref 0, .int v, .int 1] f (fun r f' => r = none ∧ f' = R_bs f (R_p1 v)) := by
  refine rf_go dt_193 20 [(4, [0, 1, 2, 3])] dt_193_k (by decide +kernel) rfl ?_
  intro C J hC hJ
  conv => whnf
  refine hJ _ _ _ _ ?_
  refine r_put_s (s := s + 0) (show ¬ (1 : Int32) - 1 < 0 by decide) (show (1 : Int32) - 1 ≤ 3 by decide) (R_bs_size [] f s hs (show s + 0 < _ by omega)) (by omega) ?_
  refine r_put_e (show (1 : Int32) - 1 + Int32.ofInt (-1) < 0 by decide) ⟨rfl, ?_⟩
  rw [show ((8 : Int32) * ((1 : Int32) - 1) &&& 31) = 0 from by decide]
  rfl
theorem r_put2 (hs : (f.1 66 0).toInt = (s : Int)) (hl : s + 2 ≤ 700) : rfc th σ0 m (d + 1) 193 [.ref 0, .int v, .int 2] f (fun r f' => r = none ∧ f' = R_bs f (R_p2 v)) := by
  refine rf_go dt_193 20 [(4, [0, 1, 2, 3])] dt_193_k (by decide +kernel) rfl ?_
  intro C J hC hJ
  conv => whnf
  refine hJ _ _ _ _ ?_
  refine r_put_s (s := s + 0) (show ¬ (2 : Int32) - 1 < 0 by decide) (show (2 : Int32) - 1 ≤ 3 by decide) (R_bs_size [] f s hs (show s + 0 < _ by omega)) (by omega) ?_
  refine r_put_s (s := s + 1) (show ¬ (2 : Int32) - 1 + Int32.ofInt (-1) < 0 by decide) (show (2 : Int32) - 1 + Int32.ofInt (-1) ≤ 3 by decide) (R_bs_size [v >>> (8 * ((2 : Int32) - 1) &&& 31)] f s hs (show s + 1 < _ by omega)) (by omega) ?_
  refine r_put_e (show (2 : Int32) - 1 + Int32.ofInt (-1) + Int32.ofInt (-1) < 0 by decide) ⟨rfl, ?_⟩
  rw [show ((8 : Int32) * ((2 : Int32) - 1) &&& 31) = 8 from by decide, show ((8 : Int32) * ((2 : Int32) - 1 + Int32.ofInt (-1)) &&& 31) = 0 from by decide]
  rfl
theorem r_put3 (hs : (f.1 66 0).toInt = (s : Int)) (hl : s + 3 ≤ 700) : rfc th σ0 m (d + 1) 193 [.ref 0, .int v, .int 3] f (fun r f' => r = none ∧ f' = R_bs f (R_p3 v)) := by
  refine rf_go dt_193 20 [(4, [0, 1, 2, 3])] dt_193_k (by decide +kernel) rfl ?_
  intro C J hC hJ
  conv => whnf
  refine hJ _ _ _ _ ?_
  refine r_put_s (s := s + 0) (show ¬ (3 : Int32) - 1 < 0 by decide) (show (3 : Int32) - 1 ≤ 3 by decide) (R_bs_size [] f s hs (show s + 0 < _ by omega)) (by omega) ?_
  refine r_put_s (s := s + 1) (show ¬ (3 : Int32) - 1 + Int32.ofInt (-1) < 0 by decide) (show (3 : Int32) - 1 + Int32.ofInt (-1) ≤ 3 by decide) (R_bs_size [v >>> (8 * ((3 : Int32) - 1) &&& 31)] f s hs (show s + 1 < _ by omega)) (by omega) ?_
  refine r_put_s (s := s + 2) (show ¬ (3 : Int32) - 1 + Int32.ofInt (-1) + Int32.ofInt (-1) < 0 by decide) (show (3 : Int32) - 1 + Int32.ofInt (-1) + Int32.ofInt (-1) ≤ 3 by decide) (R_bs_size [v >>> (8 * ((3 : Int32) - 1) &&& 31), v >>> (8 * ((3 : Int32) - 1 + Int32.ofInt (-1)) &&& 31)] f s hs (show s + 2 < _ by omega)) (by omega) ?_
  refine r_put_e (show (3 : Int32) - 1 + Int32.ofInt (-1) + Int32.ofInt (-1) + Int32.ofInt (-1) < 0 by decide) ⟨rfl, ?_⟩
  rw [show ((8 : Int32) * ((3 : Int32) - 1) &&& 31) = 16 from by decide, show ((8 : Int32) * ((3 : Int32) - 1 + Int32.ofInt (-1)) &&& 31) = 8 from by decide, show ((8 : Int32) * ((3 : Int32) - 1 + Int32.ofInt (-1) + Int32.ofInt (-1)) &&& 31) = 0 from by decide]
  rfl
theorem r_put4 (hs : (f.1 66 0).toInt = (s : Int)) (hl : s + 4 ≤ 700) : rfc th σ0 m (d + 1) 193 [.ref 0, .int v, .int 4] f (fun r f' => r = none ∧ f' = R_bs f (R_p4 v)) := by
  refine rf_go dt_193 20 [(4, [0, 1, 2, 3])] dt_193_k (by decide +kernel) rfl ?_
  intro C J hC hJ
  conv => whnf
  refine hJ _ _ _ _ ?_
  refine r_put_s (s := s + 0) (show ¬ (4 : Int32) - 1 < 0 by decide) (show (4 : Int32) - 1 ≤ 3 by decide) (R_bs_size [] f s hs (show s + 0 < _ by omega)) (by omega) ?_
  refine r_put_s (s := s + 1) (show ¬ (4 : Int32) - 1 + Int32.ofInt (-1) < 0 by decide) (show (4 : Int32) - 1 + Int32.ofInt (-1) ≤ 3 by decide) (R_bs_size [v >>> (8 * ((4 : Int32) - 1) &&& 31)] f s hs (show s + 1 < _ by omega)) (by omega) ?_
  refine r_put_s (s := s + 2) (show ¬ (4 : Int32) - 1 + Int32.ofInt (-1) + Int32.ofInt (-1) < 0 by decide) (show (4 : Int32) - 1 + Int32.ofInt (-1) + Int32.ofInt (-1) ≤ 3 by decide) (R_bs_size [v >>> (8 * ((4 : Int32) - 1) &&& 31), v >>> (8 * ((4 : Int32) - 1 + Int32.ofInt (-1)) &&& 31)] f s hs (show s + 2 < _ by omega)) (by omega) ?_
  refine r_put_s (s := s + 3) (show ¬ (4 : Int32) - 1 + Int32.ofInt (-1) + Int32.ofInt (-1) + Int32.ofInt (-1) < 0 by decide) (show (4 : Int32) - 1 + Int32.ofInt (-1) + Int32.ofInt (-1) + Int32.ofInt (-1) ≤ 3 by decide) (R_bs_size [v >>> (8 * ((4 : Int32) - 1) &&& 31), v >>> (8 * ((4 : Int32) - 1 + Int32.ofInt (-1)) &&& 31), v >>> (8 * ((4 : Int32) - 1 + Int32.ofInt (-1) + Int32.ofInt (-1)) &&& 31)] f s hs (show s + 3 < _ by omega)) (by omega) ?_
  refine r_put_e (show (4 : Int32) - 1 + Int32.ofInt (-1) + Int32.ofInt (-1) + Int32.ofInt (-1) + Int32.ofInt (-1) < 0 by decide) ⟨rfl, ?_⟩
  rw [show ((8 : Int32) * ((4 : Int32) - 1) &&& 31) = 24 from by decide, show ((8 : Int32) * ((4 : Int32) - 1 + Int32.ofInt (-1)) &&& 31) = 16 from by decide, show ((8 : Int32) * ((4 : Int32) - 1 + Int32.ofInt (-1) + Int32.ofInt (-1)) &&& 31) = 8 from by decide, show ((8 : Int32) * ((4 : Int32) - 1 + Int32.ofInt (-1) + Int32.ofInt (-1) + Int32.ofInt (-1)) &&& 31) = 0 from by decide]
  rfl
end JxRefput
