/-! WHAT HOLDS BETWEEN THE CALLS, AT THE BEGINNING -/
def st_A (th : Nat → Nat) (B k i : Nat) : Nat := match k with
  | 0 => th 0
  | 4 => B + 38
  | 51 => B + 15 + 3 * i
  | 52 => B + 16 + 3 * i
  | 70 => th 1
  | _ => 0
theorem R_ro_lt {f f' : jx_F} {k : Nat} : ∀ (n F : Nat), (∀ q, F ≤ q → q < F + n → f'.1 k q = f.1 k q) → R_ro f' k F n = R_ro f k F n
  | 0, _, _ => rfl
  | n + 1, F, h => by
    unfold R_ro
    rw [h F (by omega) (by omega), R_ro_lt n (F + 1) (fun q h1 h2 => h q (by omega) (by omega))]
theorem cn_ob_at {i k ci : Nat} {fs : List Value} (h : cn_ob[i]? = some (k, ci, fs)) : cn_o cn_2 k = some (ci, fs) := of_decide_eq_true (List.all_eq_true.mp cn_ob_ok (k, ci, fs) (List.mem_of_getElem? h))
theorem cn_rb_at {i k t n s : Nat} (h : cn_rb[i]? = some (k, t, n, s)) : cn_a cn_2 k = some (t, n, s) := of_decide_eq_true (List.all_eq_true.mp cn_rb_ok (k, t, n, s) (List.mem_of_getElem? h))
theorem cn_map_at {α : Type} {n i : Nat} {g : Nat → α} {l : List α} {x : α} (h : (List.range n).map g = l) (hi : l[i]? = some x) (hn : i < n) : g i = x := by
  rw [← h] at hi
  simpa [hn] using hi
def st_f (k j : Nat) : Int32 := match k with
  | 5 => [109, 46, 104, 111, 109, 101].getD j 0
  | 6 => 6
  | _ => 0
theorem fN_i {f : jx_F} {k j : Nat} (h : rf_scr k = false) : (fN f).1 k j = f.1 k j := if_neg (by rw [h]; decide)
theorem fN_l {f : jx_F} {k j : Nat} (h : rf_scr k = false) : (fN f).2 k j = f.2 k j := if_neg (by rw [h]; decide)
theorem cn_g_ge {th : Nat → Nat} {B k : Nat} (h : 10 ≤ k) : cn_g th B k = B + (k - 10) := by
  unfold cn_g
  rw [if_neg (by omega), if_neg (by omega)]
theorem cn_g_lt {th : Nat → Nat} {B k : Nat} (h : k < 8) : cn_g th B k = th k := if_pos h
/-- the reference's numbers at the beginning -/
theorem f0_s {k j : Nat} (h1 : rf_scr k = false) (h2 : ¬ rf_t.getD k 99 < 4) : (fN rf_0).1 k j = if k = 34 then 1 else if k = 6 then 6 else 0 := by
  rw [fN_i h1]
  exact if_neg h2
section JxStart
variable {th : Nat → Nat} {B b : Nat} {xl : List Int32} {K : Nat → Option jx_E} {H1 H2 : jx_S}
theorem st_host {j : Nat} (hj : j < 6) : (fN rf_0).1 5 j = [109, 46, 104, 111, 109, 101].getD j 0 := by
  rw [fN_i rfl]
  have : j = 0 ∨ j = 1 ∨ j = 2 ∨ j = 3 ∨ j = 4 ∨ j = 5 := by omega
  rcases this with rfl | rfl | rfl | rfl | rfl | rfl
  · exact cn_map_at (i := 0) cn_host rfl (by omega)
  · exact cn_map_at (i := 1) cn_host rfl (by omega)
  · exact cn_map_at (i := 2) cn_host rfl (by omega)
  · exact cn_map_at (i := 3) cn_host rfl (by omega)
  · exact cn_map_at (i := 4) cn_host rfl (by omega)
  · exact cn_map_at (i := 5) cn_host rfl (by omega)
theorem st_me : R_me (fN rf_0) 6 20 = R_me (st_f, fun _ _ => 0) 6 20 := by
  unfold R_me R_tx
  have e6 : (fN rf_0).1 6 0 = 6 := f0_s rfl (by decide)
  have er : R_ro (fN rf_0) 5 0 6 = R_ro (st_f, fun _ _ => 0) 5 0 6 := R_ro_lt (f := (st_f, fun _ _ => 0)) 6 0 (fun q _ h => st_host (by omega))
  rw [er, e6]
  rfl
theorem st_o {k ci : Nat} {fs : List Value} (hS : st2 th B b xl K H1 H2) (hk : k < 49) (h10 : 10 ≤ k) (h : cn_o cn_2 k = some (ci, fs)) : H2.1 (B + (k - 10)) = some (.inr (ci, fs.map (jx_rn (cn_g th B)))) := by
  obtain ⟨hKV, hlt, hR1, hR2⟩ := hS
  have h1 := bg_o hR1 h
  rw [cn_g_ge h10] at h1
  rw [hR2.2.2.2.2.2 _ (by omega)]
  exact h1
theorem st_a {k t n : Nat} (hS : st2 th B b xl K H1 H2) (hk : k < 49) (h10 : 10 ≤ k) (h : cn_a cn_2 k = some (t, n, 0)) : H2.1 (B + (k - 10)) = some (.inl (t, n, .inl (cn_int cn_2 k))) := by
  obtain ⟨hKV, hlt, hR1, hR2⟩ := hS
  have h1 := bg_a hR1 h
  rw [cn_g_ge h10] at h1
  rw [hR2.2.2.2.2.2 _ (by omega)]
  exact h1
theorem st_al {i : Nat} {k t E : Nat} (hS : st2 th B b xl K H1 H2) (h : cn_ob[i]? = some (k, 1, [.ref 1, .int 0, .int 0])) (hk : k < 49) (h10 : 10 ≤ k) (hE : E = th 1) (T : Nat → Nat) (L : Nat) (hL : L = B + (k - 10)) : al_at th B H2 T L E t [] := by
  refine ⟨⟨0, ?_⟩, Or.inl ⟨hE, rfl⟩⟩
  have h1 := st_o hS hk h10 (cn_ob_at h)
  have e : ([.ref 1, .int 0, .int 0] : List Value).map (jx_rn (cn_g th B)) = [.ref (th 1), .int 0, .int 0] := by
    simp only [List.map_cons, List.map_nil, jx_rn, cn_g_lt (show 1 < 8 by omega)]
  have h2 : H2.1 (B + (k - 10)) = some (.inr (1, [.ref (th 1), .int 0, .int 0])) := by rw [← e]; exact h1
  rw [hL, hE]
  exact h2
theorem st_x (hS : st2 th B b xl K H1 H2) : H2.1 B = some (cx_e B (fN rf_0) (th 0) 0) := by
  have h1 := st_o (k := 10) hS (by omega) (by omega) (cn_ob_at (i := 0) rfl)
  have e4 : (fN rf_0).1 4 0 = 0 := f0_s rfl (by decide)
  have e1 : (fN rf_0).1 1 0 = 0 := f0_s rfl (by decide)
  have e34 : (fN rf_0).1 34 0 = 1 := f0_s rfl (by decide)
  unfold cx_e
  rw [e4, e1, e34]
  simp only [List.map_cons, List.map_nil, jx_rn, cn_g_lt (show 0 < 8 by omega), cn_g_ge (show 10 ≤ 11 by omega), cn_g_ge (show 10 ≤ 12 by omega), cn_g_ge (show 10 ≤ 13 by omega), cn_g_ge (show 10 ≤ 14 by omega), cn_g_ge (show 10 ≤ 15 by omega), cn_g_ge (show 10 ≤ 16 by omega), cn_g_ge (show 10 ≤ 19 by omega), cn_g_ge (show 10 ≤ 21 by omega)] at h1
  exact h1
theorem st_c (hS : st2 th B b xl K H1 H2) (T : Nat → Nat) : rl_c B H2 (fN rf_0) (st_A th B) (fun _ _ => 0) T := by
  intro c hc
  have z : ∀ k, k ∈ [26, 27, 28, 30, 32, 33] → (fN rf_0).1 k (c + 1) = 0 := by
    intro k hk
    rw [fN_i (by simp only [List.mem_cons, List.not_mem_nil, or_false] at hk; rcases hk with rfl | rfl | rfl | rfl | rfl | rfl <;> rfl)]
    exact rf_0_z.2 (c + 1) (by omega) k hk
  have ho : cn_ob[9 + c]? = some (24 + 3 * c, 5, [.int (Int32.ofNat (c + 1)), .int 0, .null, .int 0, .int 0, .int 0, .int 0, .int 0, .ref (25 + 3 * c), .ref (26 + 3 * c)]) := by
    have : c = 0 ∨ c = 1 ∨ c = 2 ∨ c = 3 ∨ c = 4 ∨ c = 5 ∨ c = 6 ∨ c = 7 := by omega
    rcases this with rfl | rfl | rfl | rfl | rfl | rfl | rfl | rfl <;> rfl
  have hr1 : cn_rb[6 + 2 * c]? = some (25 + 3 * c, 0, 0, 0) := by
    have : c = 0 ∨ c = 1 ∨ c = 2 ∨ c = 3 ∨ c = 4 ∨ c = 5 ∨ c = 6 ∨ c = 7 := by omega
    rcases this with rfl | rfl | rfl | rfl | rfl | rfl | rfl | rfl <;> rfl
  have hr2 : cn_rb[7 + 2 * c]? = some (26 + 3 * c, 0, 0, 0) := by
    have : c = 0 ∨ c = 1 ∨ c = 2 ∨ c = 3 ∨ c = 4 ∨ c = 5 ∨ c = 6 ∨ c = 7 := by omega
    rcases this with rfl | rfl | rfl | rfl | rfl | rfl | rfl | rfl <;> rfl
  have h1 := st_o hS (by omega) (by omega) (cn_ob_at ho)
  have h2 := st_a hS (by omega) (by omega) (cn_rb_at hr1)
  have h3 := st_a hS (by omega) (by omega) (cn_rb_at hr2)
  rw [show B + (24 + 3 * c - 10) = B + 14 + 3 * c by omega] at h1
  rw [show B + (25 + 3 * c - 10) = B + 15 + 3 * c by omega] at h2
  rw [show B + (26 + 3 * c - 10) = B + 16 + 3 * c by omega] at h3
  refine ⟨?_, Or.inl ⟨rfl, rfl, ⟨_, h2⟩, ⟨_, h3⟩, z 26 (by decide), z 30 (by decide), z 32 (by decide), z 33 (by decide)⟩⟩
  rw [h1]
  unfold cc_e
  rw [z 26 (by decide), z 27 (by decide), z 28 (by decide), z 30 (by decide), z 32 (by decide), z 33 (by decide)]
  simp only [List.map_cons, List.map_nil, jx_rn, cn_g_ge (show 10 ≤ 25 + 3 * c by omega), cn_g_ge (show 10 ≤ 26 + 3 * c by omega), show B + (25 + 3 * c - 10) = B + 15 + 3 * c by omega, show B + (26 + 3 * c - 10) = B + 16 + 3 * c by omega]
  rfl
theorem st_bytes : ∀ i, i < 28 → ((R_me (st_f, fun _ _ => 0) 6 20)[i]?).map (fun x => x.toInt8) = some (cn_pk (fun j => ([264, 1073741838, 1831757935, 1835335680, 296, 1073741836, 1752132965] : List Int32).getD j 0) i) := by decide +kernel
theorem st_orig {j : Nat} (hj : j < 7) : cn_int cn_2 48 j = ([264, 1073741838, 1831757935, 1835335680, 296, 1073741836, 1752132965] : List Int32).getD j 0 := by
  have : j = 0 ∨ j = 1 ∨ j = 2 ∨ j = 3 ∨ j = 4 ∨ j = 5 ∨ j = 6 := by omega
  rcases this with rfl | rfl | rfl | rfl | rfl | rfl | rfl
  · exact cn_map_at (i := 0) cn_orig rfl (by omega)
  · exact cn_map_at (i := 1) cn_orig rfl (by omega)
  · exact cn_map_at (i := 2) cn_orig rfl (by omega)
  · exact cn_map_at (i := 3) cn_orig rfl (by omega)
  · exact cn_map_at (i := 4) cn_orig rfl (by omega)
  · exact cn_map_at (i := 5) cn_orig rfl (by omega)
  · exact cn_map_at (i := 6) cn_orig rfl (by omega)
theorem st_d (hS : st2 th B b xl K H1 H2) (T : Nat → Nat) : rl_d B H2 (fN rf_0) (st_A th B) T := by
  have h1 := st_o (k := 21) hS (by omega) (by omega) (cn_ob_at (i := 8) rfl)
  have h2 := st_a (k := 22) hS (by omega) (by omega) (cn_rb_at (i := 3) rfl)
  have h3 := st_a (k := 48) hS (by omega) (by omega) (cn_rb_at (i := 5) rfl)
  simp only [List.map_cons, List.map_nil, jx_rn, cn_g_ge (show 10 ≤ 22 by omega), cn_g_ge (show 10 ≤ 48 by omega)] at h1
  have e6 : (fN rf_0).1 6 0 = 6 := f0_s rfl (by decide)
  have hs : R_hs (fN rf_0) = 6 := by
    unfold R_hs
    rw [e6]
    decide
  refine ⟨⟨7, h1⟩, ⟨_, h2⟩, Or.inl rfl, 7, _, h3, ?_, fun i x hx => ?_⟩
  · rw [hs, st_me]
    decide +kernel
  · rw [hs, st_me] at hx
    have hi : i < 28 := by
      have := (List.getElem?_eq_some_iff.mp hx).1
      have e : (R_me (st_f, fun _ _ => 0) 6 20).length = 28 := by decide +kernel
      omega
    have hb := st_bytes i hi
    rw [hx] at hb
    have hb : x.toInt8 = _ := Option.some.inj hb
    rw [hb]
    unfold cn_pk
    rw [st_orig (show i / 4 < 7 by omega)]
theorem st_ca (hS : st2 th B b xl K H1 H2) : cl_ca B H2 := by
  have hs := cn_rb_at (i := 1) (k := 12) rfl
  unfold cn_a at hs
  split at hs
  · cases hs
  · cases hs
  · rename_i t n g e
    cases hs
    obtain ⟨hKV, hlt, hR1, hR2⟩ := hS
    have h1 := hR1.1 12 _ e
    rw [cn_g_ge (by omega)] at h1
    refine ⟨fun j => (g j).map (cn_g th B), ?_, fun i hi => ?_⟩
    · rw [hR2.2.2.2.2.2 _ (by omega)]
      exact h1
    · have hg : g i = cn_rf cn_2 12 i := by
        unfold cn_rf
        rw [e]
      have hv : cn_rf cn_2 12 i = some (24 + 3 * i) := by
        have : i = 0 ∨ i = 1 ∨ i = 2 ∨ i = 3 ∨ i = 4 ∨ i = 5 ∨ i = 6 ∨ i = 7 := by omega
        rcases this with rfl | rfl | rfl | rfl | rfl | rfl | rfl | rfl
        · exact cn_map_at (i := 0) cn_cons rfl (by omega)
        · exact cn_map_at (i := 1) cn_cons rfl (by omega)
        · exact cn_map_at (i := 2) cn_cons rfl (by omega)
        · exact cn_map_at (i := 3) cn_cons rfl (by omega)
        · exact cn_map_at (i := 4) cn_cons rfl (by omega)
        · exact cn_map_at (i := 5) cn_cons rfl (by omega)
        · exact cn_map_at (i := 6) cn_cons rfl (by omega)
        · exact cn_map_at (i := 7) cn_cons rfl (by omega)
      show (g i).map (cn_g th B) = _
      rw [hg, hv, Option.map_some, cn_g_ge (by omega), show B + (24 + 3 * i - 10) = B + 14 + 3 * i by omega]
  · cases hs
theorem start_rel (hS : st2 th B b xl K H1 H2) : Rel th B b xl H2 rf_0 (st_A th B) (fun _ _ => 0) (fun _ => 0) := by
  have hS0 := hS
  obtain ⟨hKV, hlt, hR1, hR2⟩ := hS
  have hth : ∀ z, z < 8 → th z < B := by
    intro z hz
    have hc : z = 0 ∨ z = 1 ∨ 2 ≤ z := by omega
    rcases hc with rfl | rfl | hc
    · exact hlt _ _ hKV.2.1
    · exact hlt _ _ hKV.2.2.1
    · exact hlt _ _ (hKV.2.2.2 z hc hz)
  have hb : b < B := hlt _ _ hKV.1
  have hlow : ∀ A, A < B → H2.1 A = K A := by
    intro A hA
    rw [hR2.2.2.2.2.2 A (by omega), hR1.2.2.2.2.2 A hA]
  have hK2 : bg_K th H2 := ⟨by rw [hlow _ (hth 0 (by omega))]; exact hKV.2.1, by rw [hlow _ (hth 1 (by omega))]; exact hKV.2.2.1, fun z h1 h2 => by rw [hlow _ (hth z h2)]; exact hKV.2.2.2 z h1 h2⟩
  have hn2 : H2.2.1 = B + 102 := by
    rw [hR2.2.2.1, cn_m_n, cn_g_ge (by omega)]
    omega
  have z : ∀ k, (rf_scr k = false ∧ ¬ rf_t.getD k 99 < 4 ∧ k ≠ 34 ∧ k ≠ 6) → ((fN rf_0).1 k 0).toInt = ((0 : Nat) : Int) := by
    intro k hk
    rw [f0_s hk.1 hk.2.1, if_neg hk.2.2.1, if_neg hk.2.2.2]
    decide
  have h1 := st_a (k := 11) hS0 (by omega) (by omega) (cn_rb_at (i := 0) rfl)
  have h6 := st_o (k := 16) hS0 (by omega) (by omega) (cn_ob_at (i := 6) rfl)
  have h9 := st_o (k := 19) hS0 (by omega) (by omega) (cn_ob_at (i := 7) rfl)
  simp only [List.map_cons, List.map_nil, jx_rn, cn_g_ge (show 10 ≤ 17 by omega), cn_g_ge (show 10 ≤ 18 by omega)] at h6
  simp only [List.map_cons, List.map_nil, jx_rn, cn_g_ge (show 10 ≤ 20 by omega)] at h9
  have hx : H2.1 B = some (cx_e B (fN rf_0) (st_A th B 0 0) 0) := st_x (th := th) hS0
  refine ⟨rf_start (fun a ha => cn_g_ge ha) hR2, ⟨?_, hb, hK2, hth, by rw [hn2]; exact Nat.le_refl _, hx, ⟨0, z 4 (by decide), by omega, _, h1, fun j hj => by omega⟩, ?_, st_ca hS0, h6, ⟨_, _, _, _, _, _, h9⟩⟩, st_d hS0 _, st_c hS0 _, ?_, ?_, ?_, ?_, ?_⟩
  · rw [hlow b hb]; exact hKV.1
  · refine ⟨6, by rw [f0_s rfl (by decide)]; decide, by omega, fun j => (kl 0).getD j 0, Or.inl ⟨rfl, hK2.1⟩, fun j hj => ?_⟩
    rw [st_host hj]
    have : j = 0 ∨ j = 1 ∨ j = 2 ∨ j = 3 ∨ j = 4 ∨ j = 5 := by omega
    rcases this with rfl | rfl | rfl | rfl | rfl | rfl <;> decide
  · exact ⟨0, z 7 (by decide), by omega, st_al (i := 1) (k := 13) hS0 rfl (by omega) (by omega) rfl _ _ rfl, fun p hp => by omega⟩
  · exact ⟨0, z 49 (by decide), by omega, st_al (i := 2) (k := 14) hS0 rfl (by omega) (by omega) rfl _ _ rfl, fun p hp => by omega⟩
  · exact ⟨0, z 59 (by decide), by omega, st_al (i := 3) (k := 15) hS0 rfl (by omega) (by omega) rfl _ _ rfl, fun p _ hp => by omega, fun p hp => by omega⟩
  · exact ⟨0, z 35 (by decide), by omega, st_al (i := 4) (k := 17) hS0 rfl (by omega) (by omega) rfl _ _ rfl, fun p hp => by omega⟩
  · exact ⟨0, z 40 (by decide), by omega, st_al (i := 5) (k := 18) hS0 rfl (by omega) (by omega) rfl _ _ rfl, fun p _ hp => by omega, fun p hp => by omega⟩
end JxStart
