/-! THE REFERENCE: its own messages -/
/-- what sending needs of the state: the host's size, the rows that wait -/
def R_ok (f : jx_F) : Prop := (∃ N : Nat, (f.1 6 0).toInt = (N : Int) ∧ N ≤ 40) ∧ ∀ c : Nat, c < 9 → (∃ a : Nat, (f.1 33 c).toInt = (a : Int) ∧ a < 2000) ∧ ∃ z : Nat, (f.1 32 c).toInt = (z : Int) ∧ z ≤ 2000
/-- a message of these octets goes out on c -/
def R_msg (f : jx_F) (bs : List Int32) (c : Int32) : jx_F := R_go (R_bs (rf_ui f 66 0 0) bs) c
def R_hs (f : jx_F) : Nat := (f.1 6 0).toNatClampNeg
def R_ml (N s : Nat) : Nat := R_tl s N + 12
def R_conn (f : jx_F) (p : Nat) : Int32 := if f.1 11 p = 6 ∨ f.1 14 p = 0 then f.1 13 p else f.1 14 p
section JxRefsend
variable {th : Nat → Nat} {σ0 : jx_S} {m d : Nat} {f : jx_F} {Q : Option Value → jx_F → Prop}
theorem R_ok.of {f' : jx_F} (h : R_ok f) (h6 : f'.1 6 0 = f.1 6 0) (h3 : ∀ c, f'.1 33 c = f.1 33 c) (h2 : ∀ c, f'.1 32 c = f.1 32 c) : R_ok f' := by
  refine ⟨?_, fun c hc => ?_⟩
  · rw [h6]; exact h.1
  · rw [h3, h2]; exact h.2 c hc
theorem R_me_len {N s : Nat} : (R_me f N s).length = R_ml N s := by
  unfold R_me R_ml
  rw [List.length_append, R_tx_len]
  rfl
theorem R_ml_le {N s : Nat} : R_ml N s ≤ N + 23 := by
  unfold R_ml
  have := R_tl_le (s := s) (N := N)
  omega
theorem R_me_eq {f f' : jx_F} {N s : Nat} (h5 : ∀ q, f'.1 5 q = f.1 5 q) (h6 : f'.1 6 0 = f.1 6 0) : R_me f' N s = R_me f N s := by
  unfold R_me R_tx
  rw [R_ro_eq h5, h6]
theorem r_conn {p : Int32} {pN : Nat} (hp : p.toInt = (pN : Int)) (hp4 : pN < 4) : rfc th σ0 m (d + 1) 199 [.ref 0, .int p] f (fun r f' => r = some (.int (R_conn f pN)) ∧ f' = f) := by
  have hpn := i32_nat hp
  refine rf_go dt_199 40 [] dt_199_k (by decide +kernel) rfl ?_
  intro C J hC hJ
  conv => whnf
  refine ⟨jx_in_nat hp (show pN < 4 from hp4), ?_⟩
  conv => whnf
  try rw [hpn]
  refine ⟨fun (h : f.1 11 pN = 6) => ?_, fun (h : ¬ f.1 11 pN = 6) => ?_⟩
  · conv => whnf
    refine ⟨jx_in_nat hp (show pN < 4 from hp4), ?_⟩
    conv => whnf
    try rw [hpn]
    refine ⟨?_, rfl⟩
    unfold R_conn
    rw [if_pos (Or.inl h)]
  · conv => whnf
    refine ⟨jx_in_nat hp (show pN < 4 from hp4), ?_⟩
    conv => whnf
    try rw [hpn]
    refine ⟨fun (h2 : ¬ f.1 14 pN = 0) => ?_, fun (h2 : ¬ ¬ f.1 14 pN = 0) => ?_⟩
    · conv => whnf
      refine ⟨jx_in_nat hp (show pN < 4 from hp4), ?_⟩
      conv => whnf
      try rw [hpn]
      refine ⟨?_, rfl⟩
      unfold R_conn
      rw [if_neg (fun z => z.elim h h2)]
    · conv => whnf
      refine ⟨jx_in_nat hp (show pN < 4 from hp4), ?_⟩
      conv => whnf
      try rw [hpn]
      refine ⟨?_, rfl⟩
      unfold R_conn
      rw [if_pos (Or.inr (Decidable.not_not.mp h2))]
/-- the opening of a PEER's own connection -/
def R_sendOpening (f : jx_F) (p : Nat) : jx_F := R_msg (rf_ui (rf_ui f 34 0 (f.1 34 0 + 1)) 20 p (f.1 34 0)) (R_hd 128 257 0 (f.1 34 0) (f.1 34 0) ++ (R_me f (R_hs f) 20 ++ R_ad (20 + R_ml (R_hs f) 20))) (f.1 13 p)
theorem r_sendOpening {p : Int32} {pN cN : Nat} (hp : p.toInt = (pN : Int)) (hp4 : pN < 4) (ho : R_ok f) (hc : (f.1 13 pN).toInt = (cN : Int)) (hc8 : cN ≤ 8) : rfc th σ0 m (d + 5) 213 [.ref 0, .int p] f (fun r f' => r = none ∧ f' = R_sendOpening f pN) := by
  have hpn := i32_nat hp
  obtain ⟨⟨N, hN, hN4⟩, hok⟩ := ho
  have hNs : R_hs f = N := i32_nat hN
  obtain ⟨⟨a, ha, ha2⟩, z, hz, hz2⟩ := hok cN (by omega)
  have hml := R_ml_le (N := N) (s := 20)
  refine rf_go dt_213 60 [] dt_213_k (by decide +kernel) rfl ?_
  intro C J hC hJ
  conv => whnf
  refine hC _ _ _ _ ((r_nextHop.up (show d + 1 ≤ d + 4 by omega)).mp ?_)
  rintro r f1 ⟨rfl, hf1⟩
  conv => whnf
  refine ⟨jx_in_nat hp (show pN < 4 from hp4), ?_⟩
  conv => whnf
  try rw [hpn]
  obtain ⟨f2, hf2⟩ : ∃ f2, f2 = rf_ui f1 20 pN (f.1 34 0) := ⟨_, rfl⟩
  rw [← hf2]
  refine ⟨jx_in_nat hp (show pN < 4 from hp4), ?_⟩
  conv => whnf
  try rw [hpn]
  refine ⟨jx_in_nat hp (show pN < 4 from hp4), ?_⟩
  conv => whnf
  try rw [hpn]
  have e20 : f2.1 20 pN = f.1 34 0 := by rw [hf2]; exact rf_ui_eq
  have eo : ∀ k j, k ≠ 34 → k ≠ 20 → f2.1 k j = f.1 k j := by
    intro k j h1 h2
    rw [hf2, rf_ui_ne (fun e => h2 e.1), hf1, rf_ui_ne (fun e => h1 e.1)]
  refine hC _ _ _ _ ((r_head.up (show d + 2 ≤ d + 4 by omega)).mp ?_)
  rintro r f3 ⟨rfl, hf3⟩
  rw [e20] at hf3
  have hs0 : ((rf_ui f2 66 0 0).1 66 0).toInt = ((0 : Nat) : Int) := by rw [rf_ui_eq]; decide
  have hs3 : (f3.1 66 0).toInt = ((20 : Nat) : Int) := by rw [hf3]; exact R_sz (bs := R_hd 128 257 0 (f.1 34 0) (f.1 34 0)) hs0 rfl (by omega)
  have eo3 : ∀ k j, k ≠ 34 → k ≠ 20 → k ≠ 65 → k ≠ 66 → f3.1 k j = f.1 k j := by
    intro k j h1 h2 h3 h4
    rw [hf3, R_bs_o h3 h4, rf_ui_ne (fun e => h4 e.1), eo k j h1 h2]
  conv => whnf
  refine hC _ _ _ _ ((r_me (N := N) (by rw [eo3 6 0 (by decide) (by decide) (by decide) (by decide)]; exact hN) hN4 hs3 (by omega)).mp ?_)
  rintro r f4 ⟨rfl, hf4⟩
  rw [R_me_eq (f := f) (fun q => eo3 5 q (by decide) (by decide) (by decide) (by decide)) (eo3 6 0 (by decide) (by decide) (by decide) (by decide))] at hf4
  have hs4 : (f4.1 66 0).toInt = ((20 + R_ml N 20 : Nat) : Int) := by rw [hf4]; exact R_sz hs3 (by rw [R_me_len]) (by omega)
  conv => whnf
  refine hC _ _ _ _ ((r_address hs4 (by omega)).mp ?_)
  rintro r f5 ⟨rfl, hf5⟩
  have eo5 : ∀ k j, k ≠ 34 → k ≠ 20 → k ≠ 65 → k ≠ 66 → f5.1 k j = f.1 k j := by
    intro k j h1 h2 h3 h4
    rw [hf5, R_bs_o h3 h4, hf4, R_bs_o h3 h4, eo3 k j h1 h2 h3 h4]
  have had : (R_ad (20 + R_ml N 20)).length ≤ 60 := by
    unfold R_ad
    simp only [List.length_append, R_pd_len]
    show 8 + (2 + (4 + (_ + (12 + (8 + (4 + 12)))))) ≤ 60
    omega
  have hs5 : (f5.1 66 0).toInt = ((20 + R_ml N 20 + (R_ad (20 + R_ml N 20)).length : Nat) : Int) := by rw [hf5]; exact R_sz hs4 rfl (by omega)
  conv => whnf
  refine ⟨jx_in_nat hp (show pN < 4 from hp4), ?_⟩
  conv => whnf
  rw [hpn, eo5 13 pN (by decide) (by decide) (by decide) (by decide)]
  refine hC _ _ _ _ (((r_go hc hc8 hs5 (by omega) (by rw [eo5 33 cN (by decide) (by decide) (by decide) (by decide)]; exact ha) ha2 (by rw [eo5 32 cN (by decide) (by decide) (by decide) (by decide)]; exact hz) hz2).up (show d + 1 ≤ d + 4 by omega)).mp ?_)
  rintro r f6 ⟨rfl, hf6⟩
  conv => whnf
  refine ⟨rfl, ?_⟩
  rw [hf6, hf5, hf4, hf3, hf2, hf1]
  simp only [R_sendOpening, R_msg, R_bs_app, hNs]
end JxRefsend
