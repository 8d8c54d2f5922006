/-! THE REFERENCE: a CREDIT that came before -/
def R_kat (f : jx_F) (k : Nat) : Prop := f.1 63 k = f.1 73 0 ∧ R_isT f 1 (R_hSk f 1) 62 (41 * k + 1) (f.1 62 (41 * k)) (f.1 62 (41 * k)).toNatClampNeg
/-- the first KEPT ANSWER from k on that fits, 33: none -/
noncomputable def R_ksf (f : jx_F) : Nat → Nat → Nat
  | 0, _ => 33
  | r + 1, k => @ite _ (R_kat f k) (Classical.propDecidable _) k (R_ksf f r (k + 1))
def R_hq (f : jx_F) (i : Nat) : Int32 := (f.1 72 0 >>> ((24 - 8 * Int32.ofNat i) &&& 31)).toInt8.toInt32
def R_h4 (f : jx_F) : Nat → jx_F
  | 0 => f
  | i + 1 => rf_ui (R_h4 f i) 65 (12 + i) (R_hq f i)
def R_aga (f : jx_F) (k : Nat) : jx_F := R_h4 (R_cy (rf_ui f 66 0 (f.1 61 k)) 60 (320 * k) 65 0 (f.1 61 k).toNatClampNeg) 4
/-- what is KEPT is right -/
def R_kok (f : jx_F) (n : Nat) : Prop := (f.1 59 0).toInt = (n : Int) ∧ n ≤ 32 ∧ ∀ k, k < n → (∃ N : Nat, (f.1 61 k).toInt = (N : Int) ∧ N ≤ 320) ∧ ∃ N : Nat, (f.1 62 (41 * k)).toInt = (N : Int) ∧ N ≤ 40
section JxRefagain
variable {th : Nat → Nat} {σ0 : jx_S} {m d n s i k N c : Nat} {f g : jx_F} {cv kv : Int32} {Q : Option Value → jx_F → Prop}
theorem h4_o {q j : Nat} (h : q ≠ 65) : ∀ i, (R_h4 f i).1 q j = f.1 q j
  | 0 => rfl
  | i + 1 => by
    unfold R_h4
    rw [rf_ui_ne (by omega), h4_o h i]
theorem h4_l : ∀ i, (R_h4 f i).2 = f.2
  | 0 => rfl
  | i + 1 => h4_l i
theorem aga_o {q j : Nat} (h1 : q ≠ 65) (h2 : q ≠ 66) : (R_aga f k).1 q j = f.1 q j := by
  unfold R_aga
  rw [h4_o h1, R_cy_o (by omega), rf_ui_ne (by omega)]
theorem aga_66 : (R_aga f k).1 66 0 = f.1 61 k := by
  unfold R_aga
  rw [h4_o (by omega), R_cy_o (by omega), rf_ui_eq]
theorem aga_l : (R_aga f k).2 = f.2 := by
  unfold R_aga
  rw [h4_l]
  rfl
theorem R_ksf_r : ∀ (r k : Nat), R_ksf f r k ≠ 33 → k ≤ R_ksf f r k ∧ R_ksf f r k < k + r
  | 0, k, h => absurd rfl h
  | r + 1, k, h => by
    unfold R_ksf at h ⊢
    by_cases e : R_kat f k
    · rw [if_pos e]; omega
    · rw [if_neg e] at h ⊢
      have := R_ksf_r r (k + 1) h
      omega
theorem r_ag_c (hk : kv.toInt = (k : Int)) (hk32 : k < 32) (hN : (g.1 66 0).toInt = (N : Int)) (hN3 : N ≤ 320) : ∀ (r i : Nat) (iv : Int32), iv.toInt = (i : Int) → i + r = N → jx_fj th (rf_g m) (rf σ0 m) d 242 98 [(0, .ref 0), (1, .int cv), (2, .int kv)] [] (R_cy g 60 (320 * k) 65 0 N) Q → jx_fj th (rf_g m) (rf σ0 m) d 242 66 [(0, .ref 0), (1, .int cv), (2, .int kv), (3, .int iv)] [] (R_cy g 60 (320 * k) 65 0 i) Q
  | 0, i, iv, hv, hi, h => by
    have ei : i = N := by omega
    rw [ei]
    refine rf_at dt_242 40 [(98, [0, 1, 2])] dt_242_k (by decide +kernel) ?_
    intro C J hC hJ
    conv => whnf
    refine jx_yes (show (R_cy g 60 (320 * k) 65 0 N).1 66 0 ≤ iv by rw [R_cy_o (by omega), Int32.le_iff_toInt_le, hv, hN]; omega) ?_
    conv => whnf
    exact hJ _ _ _ _ h
  | r + 1, i, iv, hv, hi, h => by
    have h32 : (320 * kv).toInt = ((320 * k : Nat) : Int) := by rw [i32_mul (a := 320) (by decide) hk (by omega) (by omega)]; omega
    have hei : (320 * kv + iv).toInt = ((320 * k + i : Nat) : Int) := by rw [i32_add h32 hv (by omega) (by omega)]; omega
    refine rf_at dt_242 40 [(66, [0, 1, 2, 3])] dt_242_k (by decide +kernel) ?_
    intro C J hC hJ
    conv => whnf
    refine jx_no (show ¬ (R_cy g 60 (320 * k) 65 0 i).1 66 0 ≤ iv by rw [R_cy_o (by omega), Int32.le_iff_toInt_le, hv, hN]; omega) ?_
    conv => whnf
    refine ⟨jx_in_nat hei (show 320 * k + i < 10560 by omega), ?_⟩
    conv => whnf
    refine ⟨jx_in_nat hv (show i < 700 by omega), ?_⟩
    conv => whnf
    rw [i32_nat hv, show ((fun x y : Int32 => x + y) ((fun x y : Int32 => x * y) 320 kv) iv).toNatClampNeg = 320 * k + i from i32_nat hei]
    have e : ∀ x, rf_ui (R_cy g 60 (320 * k) 65 0 i) 65 i x = rf_ui (R_cy g 60 (320 * k) 65 0 i) 65 (0 + i) x := fun x => by rw [Nat.zero_add]
    rw [e, R_cy_r (Or.inl (by omega)), R_cy_s]
    refine hJ _ _ _ _ (r_ag_c hk hk32 hN hN3 r (i + 1) _ ?_ (by omega) h)
    rw [i32_add (c := 1) hv (by decide) (by omega) (by omega)]; omega
theorem r_ag_h : ∀ (r i : Nat) (iv : Int32), iv = Int32.ofNat i → i + r = 4 → jx_fj th (rf_g m) (rf σ0 m) d 242 133 [(0, .ref 0), (1, .int cv)] [] (R_h4 g 4) Q → jx_fj th (rf_g m) (rf σ0 m) d 242 100 [(0, .ref 0), (1, .int cv), (2, .int kv), (3, .int iv)] [] (R_h4 g i) Q
  | 0, i, iv, hv, hi, h => by
    have ei : i = 4 := by omega
    rw [ei] at hv ⊢
    refine rf_at dt_242 40 [(133, [0, 1])] dt_242_k (by decide +kernel) ?_
    intro C J hC hJ
    conv => whnf
    refine jx_yes (show 4 ≤ iv by rw [hv]; decide) ?_
    conv => whnf
    exact hJ _ _ _ _ h
  | r + 1, i, iv, hv, hi, h => by
    have hvi : iv.toInt = (i : Int) := by rw [hv]; exact i32_ofNat (by omega)
    have h12 : (12 + iv).toInt = ((12 + i : Nat) : Int) := by rw [i32_add (a := 12) (by decide) hvi (by omega) (by omega)]; omega
    refine rf_at dt_242 40 [(100, [0, 1, 2, 3])] dt_242_k (by decide +kernel) ?_
    intro C J hC hJ
    conv => whnf
    refine jx_no (show ¬ 4 ≤ iv by rw [Int32.le_iff_toInt_le, hvi, show (4 : Int32).toInt = 4 by decide]; omega) ?_
    conv => whnf
    refine ⟨jx_in_nat h12 (show 12 + i < 700 by omega), ?_⟩
    conv => whnf
    rw [nar_b, show ((fun x y : Int32 => x + y) 12 iv).toNatClampNeg = 12 + i from i32_nat h12, h4_o (by omega)]
    have e : rf_ui (R_h4 g i) 65 (12 + i) (g.1 72 0 >>> ((24 - 8 * iv) &&& 31)).toInt8.toInt32 = R_h4 g (i + 1) := by
      rw [hv]
      rfl
    refine hJ _ _ _ _ ?_
    have := r_ag_h r (i + 1) (iv + Int32.ofInt 1) (by rw [hv]; exact nadd (by decide) (by omega)) (by omega) h
    rw [← e] at this
    exact this
theorem r_again_l (hk2 : R_kok f n) (ho : R_ok f) (h1 : R_tok f 1) (hc : cv.toInt = (c : Int)) (hc8 : c ≤ 8) : ∀ (r k : Nat) (kv : Int32), kv.toInt = (k : Int) → k + r = n → (R_ksf f r k ≠ 33 → Q (some (.int 1)) (R_go (R_aga f (R_ksf f r k)) cv)) → (R_ksf f r k = 33 → Q (some (.int 0)) f) → jx_fj th (rf_g m) (rf σ0 m) (d + 2) 242 6 [(0, .ref 0), (1, .int cv), (2, .int kv)] [] f Q
  | 0, k, kv, hk, hkn, hy, hz => by
    refine rf_at dt_242 40 [] dt_242_k (by decide +kernel) ?_
    intro C J hC hJ
    conv => whnf
    refine jx_yes (show f.1 59 0 ≤ kv by rw [Int32.le_iff_toInt_le, hk, hk2.1]; omega) ?_
    conv => whnf
    refine ⟨by decide, ?_⟩
    exact hz rfl
  | r + 1, k, kv, hk, hkn, hy, hz => by
    obtain ⟨h59, h32, hall⟩ := id hk2
    obtain ⟨⟨N, hN, hN3⟩, M, hM, hM4⟩ := hall k (by omega)
    obtain ⟨S1, N1, a1, a2, a3, a4⟩ := id h1
    have k41 : (41 * kv).toInt = ((41 * k : Nat) : Int) := by rw [i32_mul (a := 41) (by decide) hk (by omega) (by omega)]; omega
    have k42 : (41 * kv + 1).toInt = ((41 * k + 1 : Nat) : Int) := by rw [i32_add (c := 1) k41 (by decide) (by omega) (by omega)]; omega
    have hkk := i32_nat hk
    have go : ¬ R_kat f k → jx_fj th (rf_g m) (rf σ0 m) (d + 2) 242 140 [(0, .ref 0), (1, .int cv), (2, .int kv)] [] f Q := by
      intro hno
      refine rf_at dt_242 40 [(6, [0, 1, 2])] dt_242_k (by decide +kernel) ?_
      intro C J hC hJ
      conv => whnf
      have e : R_ksf f (r + 1) k = R_ksf f r (k + 1) := by
        show (@ite _ _ (Classical.propDecidable _) _ _) = _
        rw [if_neg hno]
      rw [e] at hy hz
      refine hJ _ _ _ _ (r_again_l hk2 ho h1 hc hc8 r (k + 1) _ ?_ (by omega) hy hz)
      rw [i32_add (c := 1) hk (by decide) (by omega) (by omega)]; omega
    have t133 : R_kat f k → jx_fj th (rf_g m) (rf σ0 m) (d + 2) 242 133 [(0, .ref 0), (1, .int cv)] [] (R_aga f k) Q := by
      intro hyes
      have e : R_ksf f (r + 1) k = k := by
        show (@ite _ _ (Classical.propDecidable _) _ _) = _
        rw [if_pos hyes]
      rw [e] at hy
      refine rf_at dt_242 40 [] dt_242_k (by decide +kernel) ?_
      intro C J hC hJ
      conv => whnf
      refine hC _ _ _ _ (((r_goK (d := d) (f := f) (n := N) ho (fun q j z1 z2 => aga_o z1 z2) (by rw [aga_66]; exact hN) (by omega) hc hc8).up (by omega)).mp ?_)
      rintro r1 f1 ⟨rfl, hf1⟩
      conv => whnf
      refine ⟨by decide, ?_⟩
      rw [hf1]
      exact hy (by omega)
    refine rf_at dt_242 60 [(66, [0, 1, 2, 3]), (140, [0, 1, 2])] dt_242_k (by decide +kernel) ?_
    intro C J hC hJ
    conv => whnf
    refine jx_no (show ¬ f.1 59 0 ≤ kv by rw [Int32.le_iff_toInt_le, hk, h59]; omega) ?_
    conv => whnf
    refine ⟨jx_in_nat hk (show k < 33 by omega), ?_⟩
    conv => whnf
    rw [hkk]
    refine ⟨fun (h3 : ¬ f.1 63 k = f.1 73 0) => ?_, fun (h3 : ¬ ¬ f.1 63 k = f.1 73 0) => ?_⟩
    · conv => whnf
      exact hJ _ _ _ _ (go (fun z => h3 z.1))
    · have e3 := Decidable.not_not.mp h3
      conv => whnf
      refine ⟨jx_in_nat k41 (show 41 * k < 1353 by omega), ?_⟩
      conv => whnf
      rw [show ((fun x y : Int32 => x * y) 41 kv).toNatClampNeg = 41 * k from i32_nat k41]
      refine hC _ _ _ _ (((r_isText62 (d := d) (k := 1) (S := S1) (F := 41 * k + 1) (N := M) (by decide) (by decide) a1 (fun e => by have e2 := i32_nat hM; rw [← e, i32_nat a2] at e2; omega) k42 (by omega) hM).up (by omega)).mp ?_)
      rintro r1 f1 ⟨hr1, hf1⟩
      rw [hf1]
      have eS : R_hSk f 1 = S1 := by unfold R_hSk; exact i32_nat a1
      rcases hr1 with ⟨rfl, hT⟩ | ⟨rfl, hT⟩
      · have hyes : R_kat f k := ⟨e3, by rw [eS, i32_nat hM]; exact hT⟩
        conv => whnf
        refine jx_no (show ¬ (1 : Int32) = 0 by decide) ?_
        conv => whnf
        refine ⟨jx_in_nat hk (show k < 33 by omega), ?_⟩
        conv => whnf
        rw [hkk]
        obtain ⟨g, hg⟩ : ∃ g, g = rf_ui f 66 0 (f.1 61 k) := ⟨_, rfl⟩
        rw [← hg]
        have hN' : (g.1 66 0).toInt = (N : Int) := by rw [hg, rf_ui_eq]; exact hN
        have eA : R_h4 (R_cy g 60 (320 * k) 65 0 N) 4 = R_aga f k := by unfold R_aga; rw [← hg, i32_nat hN]
        have t98 : jx_fj th (rf_g m) (rf σ0 m) (d + 2) 242 98 [(0, .ref 0), (1, .int cv), (2, .int kv)] [] (R_cy g 60 (320 * k) 65 0 N) Q := by
          refine rf_at dt_242 40 [(100, [0, 1, 2, 3])] dt_242_k (by decide +kernel) ?_
          intro C J hC hJ
          conv => whnf
          exact hJ _ _ _ _ (r_ag_h (g := R_cy g 60 (320 * k) 65 0 N) 4 0 0 (by decide) (by omega) (by rw [eA]; exact t133 hyes))
        have := r_ag_c (th := th) (σ0 := σ0) (m := m) (d := d + 2) (cv := cv) hk (by omega) hN' hN3 N 0 0 (by decide) (by omega) t98
        rw [R_cy_0] at this
        exact hJ _ _ _ _ this
      · conv => whnf
        refine jx_yes (show (0 : Int32) = 0 from rfl) ?_
        conv => whnf
        exact hJ _ _ _ _ (go (fun z => hT (by have := z.2; rw [eS, i32_nat hM] at this; exact this)))
theorem r_again {n0 : Nat} {f0 : jx_F} (hn0 : (f0.1 59 0).toInt = (n0 : Int)) (h320 : n0 ≤ 32) (hf : f = R_stale n0 f0) (hk2 : R_kok f n) (ho : R_ok f) (h1 : R_tok f 1) (hc : cv.toInt = (c : Int)) (hc8 : c ≤ 8) : rfc th σ0 m (d + 4) 242 [.ref 0, .int cv] f0 (fun r f' => (R_ksf f n 0 ≠ 33 ∧ r = some (.int 1) ∧ f' = R_go (R_aga f (R_ksf f n 0)) cv) ∨ (R_ksf f n 0 = 33 ∧ r = some (.int 0) ∧ f' = f)) := by
  refine rf_go dt_242 40 [(6, [0, 1, 2])] dt_242_k (by decide +kernel) rfl ?_
  intro C J hC hJ
  conv => whnf
  refine hC _ _ _ _ ((r_stale (d := d) hn0 h320).mp ?_)
  rintro r f1 ⟨rfl, hf1⟩
  rw [← hf] at hf1
  rw [hf1]
  conv => whnf
  exact hJ _ _ _ _ (r_again_l (d := d + 1) hk2 ho h1 hc hc8 n 0 0 (by decide) (by omega) (fun z => Or.inl ⟨z, rfl, rfl⟩) (fun z => Or.inr ⟨z, rfl, rfl⟩))
end JxRefagain
