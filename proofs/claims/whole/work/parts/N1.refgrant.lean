/-! THE REFERENCE: a GRANT -/
def R_uok (f : jx_F) (k : Nat) : Prop := ¬ f.1 k 0 = 0 → ∃ b x : Nat, (f.1 67 0).toInt = (b : Int) ∧ (f.1 k 0).toInt = (x : Int) ∧ b + x + 7 < 5400
def R_gw (f : jx_F) (i : Nat) : Int64 := if (R_un f 83 1000).toInt < (R_fre f i).toInt then R_un f 83 1000 else R_fre f i
def R_grnt (f : jx_F) (s i : Nat) : jx_F := rf_ul (rf_ui (rf_ul (rf_ul f 45 s (R_gw f i)) 38 i (f.2 38 i + R_gw f i)) 89 0 1) 90 0 (R_gw f i)
section JxRefgrant
variable {th : Nat → Nat} {σ0 : jx_S} {m d n s i k : Nat} {f : jx_F} {iv sv pv : Int32} {v : Int64} {Q : Option Value → jx_F → Prop}
theorem r_units (h : R_uok f k) : rfc th σ0 m (d + 4) 247 [.ref 0, .int (f.1 k 0), .long v] f (fun r f' => r = some (.long (R_un f k v)) ∧ f' = f) := by
  refine rf_go dt_247 20 [] dt_247_k (by decide +kernel) rfl ?_
  intro C J hC hJ
  conv => whnf
  unfold R_un
  refine ⟨fun (h1 : ¬ f.1 k 0 = 0) => ?_, fun (h1 : ¬ ¬ f.1 k 0 = 0) => ?_⟩
  · obtain ⟨b, x, y1, y2, y3⟩ := h h1
    rw [if_neg h1, i32_nat y1, i32_nat y2]
    conv => whnf
    refine hC _ _ _ _ ((r_number8 (d := d) y1 y2 y3).mp ?_)
    rintro r f1 ⟨rfl, hf1⟩
    conv => whnf
    exact ⟨rfl, hf1⟩
  · rw [if_pos (Decidable.not_not.mp h1)]
    conv => whnf
    exact ⟨rfl, rfl⟩
theorem r_grant (hu : R_uok f 83) (hs : sv.toInt = (s : Int)) (hs16 : s < 16) (hi : (f.1 44 s).toInt = (i : Int)) (hi16 : i < 16) : rfc th σ0 m (d + 5) 257 [.ref 0, .int sv] f (fun r f' => r = none ∧ f' = R_grnt f s i) := by
  have t43 : ∀ G : Int64, G = R_gw f i → jx_fj th (rf_g m) (rf σ0 m) (d + 4) 257 43 [(0, .ref 0), (1, .int sv), (2, .int (f.1 44 s))] [.long G, .int sv, .ref 46] f (fun r f' => r = none ∧ f' = R_grnt f s i) := by
    intro G hG
    refine rf_at dt_257 60 [] dt_257_k (by decide +kernel) ?_
    intro C J hC hJ
    conv => whnf
    refine ⟨jx_in_nat hs hs16, ?_⟩
    conv => whnf
    refine ⟨jx_in_nat hi hi16, ?_⟩
    conv => whnf
    refine ⟨jx_in_nat hs hs16, ?_⟩
    conv => whnf
    refine ⟨jx_in_nat hi hi16, ?_⟩
    conv => whnf
    refine ⟨by decide, ?_⟩
    conv => whnf
    refine ⟨jx_in_nat hs hs16, ?_⟩
    conv => whnf
    rw [i32_nat hs, i32_nat hi]
    refine ⟨rfl, ?_⟩
    unfold R_grnt
    have e1 : (rf_ul f 45 s G).2 38 i = f.2 38 i := rf_ul_ne (by omega)
    have e2 : (rf_ul f 45 s G).2 45 s = G := rf_ul_eq
    have e3 : ∀ y : Int64, (rf_ui (rf_ul (rf_ul f 45 s G) 38 i y) 89 0 1).2 45 s = G := fun y => by
      show (rf_ul (rf_ul f 45 s G) 38 i y).2 45 s = G
      rw [rf_ul_ne (by omega), e2]
    rw [← hG, e1, e2]
    try rw [nar_z1]
    rw [e3]
  refine rf_go dt_257 60 [(43, [0, 1, 2])] dt_257_k (by decide +kernel) rfl ?_
  intro C J hC hJ
  conv => whnf
  refine ⟨jx_in_nat hs hs16, ?_⟩
  conv => whnf
  rw [i32_nat hs]
  refine hC _ _ _ _ ((r_units (d := d) (v := 1000) hu).mp ?_)
  rintro r f1 ⟨rfl, hf1⟩
  rw [hf1]
  conv => whnf
  refine hC _ _ _ _ (((r_free (d := d) hi hi16).up (by omega)).mp ?_)
  rintro r f2 ⟨rfl, hf2⟩
  rw [hf2]
  conv => whnf
  refine ⟨fun (h1 : 0 ≤ lg_cmp (R_un f 83 1000) (R_fre f i)) => ?_, fun (h1 : ¬ 0 ≤ lg_cmp (R_un f 83 1000) (R_fre f i)) => ?_⟩
  · conv => whnf
    refine hC _ _ _ _ (((r_free (d := d) hi hi16).up (by omega)).mp ?_)
    rintro r f3 ⟨rfl, hf3⟩
    rw [hf3]
    conv => whnf
    exact hJ _ _ _ _ (t43 _ (by unfold R_gw; rw [if_neg (fun y => absurd (lg_lt.mpr y) (Int32.not_lt.mpr h1))]))
  · conv => whnf
    exact hJ _ _ _ _ (t43 _ (by unfold R_gw; rw [if_pos (lg_lt.mp (Int32.not_le.mp h1))]))
end JxRefgrant
