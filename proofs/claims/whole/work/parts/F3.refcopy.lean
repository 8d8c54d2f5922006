/-! THE REFERENCE: rows are copied; the oldest KEPT ANSWER goes -/
def R_cy (f : jx_F) (q1 s q2 e n : Nat) : jx_F := (fun a j => if a = q2 ∧ e ≤ j ∧ j < e + n then vp_nar .byte (f.1 q1 (s + (j - e))) else f.1 a j, f.2)
theorem R_cy_0 {f : jx_F} {q1 s q2 e : Nat} : R_cy f q1 s q2 e 0 = f := by
  refine Prod.ext (funext fun a => funext fun j => ?_) rfl
  exact if_neg (by omega)
theorem R_cy_s {f : jx_F} {q1 s q2 e k : Nat} : rf_ui (R_cy f q1 s q2 e k) q2 (e + k) (vp_nar .byte (f.1 q1 (s + k))) = R_cy f q1 s q2 e (k + 1) := by
  refine Prod.ext (funext fun a => funext fun j => ?_) rfl
  show (if a = q2 ∧ j = e + k then vp_nar .byte (f.1 q1 (s + k)) else if a = q2 ∧ e ≤ j ∧ j < e + k then vp_nar .byte (f.1 q1 (s + (j - e))) else f.1 a j) = if a = q2 ∧ e ≤ j ∧ j < e + (k + 1) then vp_nar .byte (f.1 q1 (s + (j - e))) else f.1 a j
  by_cases h : a = q2 ∧ j = e + k
  · rw [if_pos h, if_pos (by omega), show j - e = k by omega]
  · rw [if_neg h]
    by_cases h2 : a = q2 ∧ e ≤ j ∧ j < e + k
    · rw [if_pos h2, if_pos (by omega)]
    · rw [if_neg h2, if_neg (by omega)]
theorem R_cy_r {f : jx_F} {q1 s q2 e k : Nat} (h : q1 ≠ q2 ∨ e ≤ s) : (R_cy f q1 s q2 e k).1 q1 (s + k) = f.1 q1 (s + k) := if_neg (by omega)
theorem R_cy_o {f : jx_F} {q1 s q2 e k a j : Nat} (h : ¬ (a = q2 ∧ e ≤ j ∧ j < e + k)) : (R_cy f q1 s q2 e k).1 a j = f.1 a j := if_neg h
theorem R_cy_v {f : jx_F} {q1 s q2 e k j : Nat} (h1 : e ≤ j) (h2 : j < e + k) : (R_cy f q1 s q2 e k).1 q2 j = vp_nar .byte (f.1 q1 (s + (j - e))) := if_pos ⟨rfl, h1, h2⟩
section JxRefcopy
variable {th : Nat → Nat} {σ0 : jx_S} {m d : Nat} {f : jx_F}
theorem r_copy_l62_62 {sv ev : Int32} {s e : Nat} {Q : Option Value → jx_F → Prop} (hs : sv.toInt = (s : Int)) (he : ev.toInt = (e : Int)) (hs2 : s + 41 ≤ 1353) (he2 : e + 41 ≤ 1353) (hes : e ≤ s) : ∀ (r k : Nat) (iv : Int32), iv.toInt = (k : Int) → k + r = 41 → Q none (R_cy f 62 s 62 e 41) → jx_fj th (rf_g m) (rf σ0 m) d 245 3 [(0, .ref 0), (1, .ref 63), (2, .int sv), (3, .ref 63), (4, .int ev), (5, .int iv)] [] (R_cy f 62 s 62 e k) Q
  | 0, k, iv, hv, hk, h => by
    have ek : k = 41 := by omega
    subst ek
    refine rf_at dt_245 40 [] dt_245_k (by decide +kernel) ?_
    intro C J hC hJ
    conv => whnf
    refine jx_yes (show 41 ≤ iv by rw [Int32.le_iff_toInt_le, hv, show (41 : Int32).toInt = 41 by decide]; omega) ?_
    conv => whnf
    exact h
  | r + 1, k, iv, hv, hk, h => by
    have hsi : (sv + iv).toInt = ((s + k : Nat) : Int) := by rw [i32_add hs hv (by omega) (by omega)]; omega
    have hei : (ev + iv).toInt = ((e + k : Nat) : Int) := by rw [i32_add he hv (by omega) (by omega)]; omega
    refine rf_at dt_245 40 [(3, [0, 1, 2, 3, 4, 5])] dt_245_k (by decide +kernel) ?_
    intro C J hC hJ
    conv => whnf
    refine jx_no (show ¬ 41 ≤ iv by rw [Int32.le_iff_toInt_le, hv, show (41 : Int32).toInt = 41 by decide]; omega) ?_
    conv => whnf
    refine ⟨jx_in_nat hsi (show s + k < 1353 by omega), ?_⟩
    conv => whnf
    refine ⟨jx_in_nat hei (show e + k < 1353 by omega), ?_⟩
    conv => whnf
    rw [i32_nat hsi, i32_nat hei, R_cy_r (Or.inr hes), R_cy_s]
    refine hJ _ _ _ _ (r_copy_l62_62 hs he hs2 he2 hes r (k + 1) _ ?_ (by omega) h)
    rw [i32_add (c := 1) hv (by decide) (by omega) (by omega)]; omega
theorem r_copyRow62_62 {sv ev : Int32} {s e : Nat} (hs : sv.toInt = (s : Int)) (he : ev.toInt = (e : Int)) (hs2 : s + 41 ≤ 1353) (he2 : e + 41 ≤ 1353) (hes : e ≤ s) : rfc th σ0 m (d + 1) 245 [.ref 0, .ref 63, .int sv, .ref 63, .int ev] f (fun r f' => r = none ∧ f' = R_cy f 62 s 62 e 41) := by
  refine rf_go dt_245 20 [(3, [0, 1, 2, 3, 4, 5])] dt_245_k (by decide +kernel) rfl ?_
  intro C J hC hJ
  conv => whnf
  refine hJ _ _ _ _ ?_
  have := r_copy_l62_62 (th := th) (σ0 := σ0) (m := m) (d := d) (f := f) (Q := fun r f' => r = none ∧ f' = R_cy f 62 s 62 e 41) hs he hs2 he2 hes 41 0 0 (by decide) (by omega) ⟨rfl, rfl⟩
  rw [R_cy_0] at this
  exact this
theorem r_copy_l41_41 {sv ev : Int32} {s e : Nat} {Q : Option Value → jx_F → Prop} (hs : sv.toInt = (s : Int)) (he : ev.toInt = (e : Int)) (hs2 : s + 41 ≤ 656) (he2 : e + 41 ≤ 656) (hes : e ≤ s) : ∀ (r k : Nat) (iv : Int32), iv.toInt = (k : Int) → k + r = 41 → Q none (R_cy f 41 s 41 e 41) → jx_fj th (rf_g m) (rf σ0 m) d 245 3 [(0, .ref 0), (1, .ref 42), (2, .int sv), (3, .ref 42), (4, .int ev), (5, .int iv)] [] (R_cy f 41 s 41 e k) Q
  | 0, k, iv, hv, hk, h => by
    have ek : k = 41 := by omega
    subst ek
    refine rf_at dt_245 40 [] dt_245_k (by decide +kernel) ?_
    intro C J hC hJ
    conv => whnf
    refine jx_yes (show 41 ≤ iv by rw [Int32.le_iff_toInt_le, hv, show (41 : Int32).toInt = 41 by decide]; omega) ?_
    conv => whnf
    exact h
  | r + 1, k, iv, hv, hk, h => by
    have hsi : (sv + iv).toInt = ((s + k : Nat) : Int) := by rw [i32_add hs hv (by omega) (by omega)]; omega
    have hei : (ev + iv).toInt = ((e + k : Nat) : Int) := by rw [i32_add he hv (by omega) (by omega)]; omega
    refine rf_at dt_245 40 [(3, [0, 1, 2, 3, 4, 5])] dt_245_k (by decide +kernel) ?_
    intro C J hC hJ
    conv => whnf
    refine jx_no (show ¬ 41 ≤ iv by rw [Int32.le_iff_toInt_le, hv, show (41 : Int32).toInt = 41 by decide]; omega) ?_
    conv => whnf
    refine ⟨jx_in_nat hsi (show s + k < 656 by omega), ?_⟩
    conv => whnf
    refine ⟨jx_in_nat hei (show e + k < 656 by omega), ?_⟩
    conv => whnf
    rw [i32_nat hsi, i32_nat hei, R_cy_r (Or.inr hes), R_cy_s]
    refine hJ _ _ _ _ (r_copy_l41_41 hs he hs2 he2 hes r (k + 1) _ ?_ (by omega) h)
    rw [i32_add (c := 1) hv (by decide) (by omega) (by omega)]; omega
theorem r_copyRow41_41 {sv ev : Int32} {s e : Nat} (hs : sv.toInt = (s : Int)) (he : ev.toInt = (e : Int)) (hs2 : s + 41 ≤ 656) (he2 : e + 41 ≤ 656) (hes : e ≤ s) : rfc th σ0 m (d + 1) 245 [.ref 0, .ref 42, .int sv, .ref 42, .int ev] f (fun r f' => r = none ∧ f' = R_cy f 41 s 41 e 41) := by
  refine rf_go dt_245 20 [(3, [0, 1, 2, 3, 4, 5])] dt_245_k (by decide +kernel) rfl ?_
  intro C J hC hJ
  conv => whnf
  refine hJ _ _ _ _ ?_
  have := r_copy_l41_41 (th := th) (σ0 := σ0) (m := m) (d := d) (f := f) (Q := fun r f' => r = none ∧ f' = R_cy f 41 s 41 e 41) hs he hs2 he2 hes 41 0 0 (by decide) (by omega) ⟨rfl, rfl⟩
  rw [R_cy_0] at this
  exact this
theorem r_copy_l42_42 {sv ev : Int32} {s e : Nat} {Q : Option Value → jx_F → Prop} (hs : sv.toInt = (s : Int)) (he : ev.toInt = (e : Int)) (hs2 : s + 41 ≤ 656) (he2 : e + 41 ≤ 656) (hes : e ≤ s) : ∀ (r k : Nat) (iv : Int32), iv.toInt = (k : Int) → k + r = 41 → Q none (R_cy f 42 s 42 e 41) → jx_fj th (rf_g m) (rf σ0 m) d 245 3 [(0, .ref 0), (1, .ref 43), (2, .int sv), (3, .ref 43), (4, .int ev), (5, .int iv)] [] (R_cy f 42 s 42 e k) Q
  | 0, k, iv, hv, hk, h => by
    have ek : k = 41 := by omega
    subst ek
    refine rf_at dt_245 40 [] dt_245_k (by decide +kernel) ?_
    intro C J hC hJ
    conv => whnf
    refine jx_yes (show 41 ≤ iv by rw [Int32.le_iff_toInt_le, hv, show (41 : Int32).toInt = 41 by decide]; omega) ?_
    conv => whnf
    exact h
  | r + 1, k, iv, hv, hk, h => by
    have hsi : (sv + iv).toInt = ((s + k : Nat) : Int) := by rw [i32_add hs hv (by omega) (by omega)]; omega
    have hei : (ev + iv).toInt = ((e + k : Nat) : Int) := by rw [i32_add he hv (by omega) (by omega)]; omega
    refine rf_at dt_245 40 [(3, [0, 1, 2, 3, 4, 5])] dt_245_k (by decide +kernel) ?_
    intro C J hC hJ
    conv => whnf
    refine jx_no (show ¬ 41 ≤ iv by rw [Int32.le_iff_toInt_le, hv, show (41 : Int32).toInt = 41 by decide]; omega) ?_
    conv => whnf
    refine ⟨jx_in_nat hsi (show s + k < 656 by omega), ?_⟩
    conv => whnf
    refine ⟨jx_in_nat hei (show e + k < 656 by omega), ?_⟩
    conv => whnf
    rw [i32_nat hsi, i32_nat hei, R_cy_r (Or.inr hes), R_cy_s]
    refine hJ _ _ _ _ (r_copy_l42_42 hs he hs2 he2 hes r (k + 1) _ ?_ (by omega) h)
    rw [i32_add (c := 1) hv (by decide) (by omega) (by omega)]; omega
theorem r_copyRow42_42 {sv ev : Int32} {s e : Nat} (hs : sv.toInt = (s : Int)) (he : ev.toInt = (e : Int)) (hs2 : s + 41 ≤ 656) (he2 : e + 41 ≤ 656) (hes : e ≤ s) : rfc th σ0 m (d + 1) 245 [.ref 0, .ref 43, .int sv, .ref 43, .int ev] f (fun r f' => r = none ∧ f' = R_cy f 42 s 42 e 41) := by
  refine rf_go dt_245 20 [(3, [0, 1, 2, 3, 4, 5])] dt_245_k (by decide +kernel) rfl ?_
  intro C J hC hJ
  conv => whnf
  refine hJ _ _ _ _ ?_
  have := r_copy_l42_42 (th := th) (σ0 := σ0) (m := m) (d := d) (f := f) (Q := fun r f' => r = none ∧ f' = R_cy f 42 s 42 e 41) hs he hs2 he2 hes 41 0 0 (by decide) (by omega) ⟨rfl, rfl⟩
  rw [R_cy_0] at this
  exact this
theorem r_copy_l43_43 {sv ev : Int32} {s e : Nat} {Q : Option Value → jx_F → Prop} (hs : sv.toInt = (s : Int)) (he : ev.toInt = (e : Int)) (hs2 : s + 41 ≤ 656) (he2 : e + 41 ≤ 656) (hes : e ≤ s) : ∀ (r k : Nat) (iv : Int32), iv.toInt = (k : Int) → k + r = 41 → Q none (R_cy f 43 s 43 e 41) → jx_fj th (rf_g m) (rf σ0 m) d 245 3 [(0, .ref 0), (1, .ref 44), (2, .int sv), (3, .ref 44), (4, .int ev), (5, .int iv)] [] (R_cy f 43 s 43 e k) Q
  | 0, k, iv, hv, hk, h => by
    have ek : k = 41 := by omega
    subst ek
    refine rf_at dt_245 40 [] dt_245_k (by decide +kernel) ?_
    intro C J hC hJ
    conv => whnf
    refine jx_yes (show 41 ≤ iv by rw [Int32.le_iff_toInt_le, hv, show (41 : Int32).toInt = 41 by decide]; omega) ?_
    conv => whnf
    exact h
  | r + 1, k, iv, hv, hk, h => by
    have hsi : (sv + iv).toInt = ((s + k : Nat) : Int) := by rw [i32_add hs hv (by omega) (by omega)]; omega
    have hei : (ev + iv).toInt = ((e + k : Nat) : Int) := by rw [i32_add he hv (by omega) (by omega)]; omega
    refine rf_at dt_245 40 [(3, [0, 1, 2, 3, 4, 5])] dt_245_k (by decide +kernel) ?_
    intro C J hC hJ
    conv => whnf
    refine jx_no (show ¬ 41 ≤ iv by rw [Int32.le_iff_toInt_le, hv, show (41 : Int32).toInt = 41 by decide]; omega) ?_
    conv => whnf
    refine ⟨jx_in_nat hsi (show s + k < 656 by omega), ?_⟩
    conv => whnf
    refine ⟨jx_in_nat hei (show e + k < 656 by omega), ?_⟩
    conv => whnf
    rw [i32_nat hsi, i32_nat hei, R_cy_r (Or.inr hes), R_cy_s]
    refine hJ _ _ _ _ (r_copy_l43_43 hs he hs2 he2 hes r (k + 1) _ ?_ (by omega) h)
    rw [i32_add (c := 1) hv (by decide) (by omega) (by omega)]; omega
theorem r_copyRow43_43 {sv ev : Int32} {s e : Nat} (hs : sv.toInt = (s : Int)) (he : ev.toInt = (e : Int)) (hs2 : s + 41 ≤ 656) (he2 : e + 41 ≤ 656) (hes : e ≤ s) : rfc th σ0 m (d + 1) 245 [.ref 0, .ref 44, .int sv, .ref 44, .int ev] f (fun r f' => r = none ∧ f' = R_cy f 43 s 43 e 41) := by
  refine rf_go dt_245 20 [(3, [0, 1, 2, 3, 4, 5])] dt_245_k (by decide +kernel) rfl ?_
  intro C J hC hJ
  conv => whnf
  refine hJ _ _ _ _ ?_
  have := r_copy_l43_43 (th := th) (σ0 := σ0) (m := m) (d := d) (f := f) (Q := fun r f' => r = none ∧ f' = R_cy f 43 s 43 e 41) hs he hs2 he2 hes 41 0 0 (by decide) (by omega) ⟨rfl, rfl⟩
  rw [R_cy_0] at this
  exact this
theorem r_copy_l41_50 {sv ev : Int32} {s e : Nat} {Q : Option Value → jx_F → Prop} (hs : sv.toInt = (s : Int)) (he : ev.toInt = (e : Int)) (hs2 : s + 41 ≤ 656) (he2 : e + 41 ≤ 2624) : ∀ (r k : Nat) (iv : Int32), iv.toInt = (k : Int) → k + r = 41 → Q none (R_cy f 41 s 50 e 41) → jx_fj th (rf_g m) (rf σ0 m) d 245 3 [(0, .ref 0), (1, .ref 42), (2, .int sv), (3, .ref 51), (4, .int ev), (5, .int iv)] [] (R_cy f 41 s 50 e k) Q
  | 0, k, iv, hv, hk, h => by
    have ek : k = 41 := by omega
    subst ek
    refine rf_at dt_245 40 [] dt_245_k (by decide +kernel) ?_
    intro C J hC hJ
    conv => whnf
    refine jx_yes (show 41 ≤ iv by rw [Int32.le_iff_toInt_le, hv, show (41 : Int32).toInt = 41 by decide]; omega) ?_
    conv => whnf
    exact h
  | r + 1, k, iv, hv, hk, h => by
    have hsi : (sv + iv).toInt = ((s + k : Nat) : Int) := by rw [i32_add hs hv (by omega) (by omega)]; omega
    have hei : (ev + iv).toInt = ((e + k : Nat) : Int) := by rw [i32_add he hv (by omega) (by omega)]; omega
    refine rf_at dt_245 40 [(3, [0, 1, 2, 3, 4, 5])] dt_245_k (by decide +kernel) ?_
    intro C J hC hJ
    conv => whnf
    refine jx_no (show ¬ 41 ≤ iv by rw [Int32.le_iff_toInt_le, hv, show (41 : Int32).toInt = 41 by decide]; omega) ?_
    conv => whnf
    refine ⟨jx_in_nat hsi (show s + k < 656 by omega), ?_⟩
    conv => whnf
    refine ⟨jx_in_nat hei (show e + k < 2624 by omega), ?_⟩
    conv => whnf
    rw [i32_nat hsi, i32_nat hei, R_cy_r (Or.inl (by decide)), R_cy_s]
    refine hJ _ _ _ _ (r_copy_l41_50 hs he hs2 he2 r (k + 1) _ ?_ (by omega) h)
    rw [i32_add (c := 1) hv (by decide) (by omega) (by omega)]; omega
theorem r_copyRow41_50 {sv ev : Int32} {s e : Nat} (hs : sv.toInt = (s : Int)) (he : ev.toInt = (e : Int)) (hs2 : s + 41 ≤ 656) (he2 : e + 41 ≤ 2624) : rfc th σ0 m (d + 1) 245 [.ref 0, .ref 42, .int sv, .ref 51, .int ev] f (fun r f' => r = none ∧ f' = R_cy f 41 s 50 e 41) := by
  refine rf_go dt_245 20 [(3, [0, 1, 2, 3, 4, 5])] dt_245_k (by decide +kernel) rfl ?_
  intro C J hC hJ
  conv => whnf
  refine hJ _ _ _ _ ?_
  have := r_copy_l41_50 (th := th) (σ0 := σ0) (m := m) (d := d) (f := f) (Q := fun r f' => r = none ∧ f' = R_cy f 41 s 50 e 41) hs he hs2 he2 41 0 0 (by decide) (by omega) ⟨rfl, rfl⟩
  rw [R_cy_0] at this
  exact this
theorem r_copy_l42_51 {sv ev : Int32} {s e : Nat} {Q : Option Value → jx_F → Prop} (hs : sv.toInt = (s : Int)) (he : ev.toInt = (e : Int)) (hs2 : s + 41 ≤ 656) (he2 : e + 41 ≤ 2624) : ∀ (r k : Nat) (iv : Int32), iv.toInt = (k : Int) → k + r = 41 → Q none (R_cy f 42 s 51 e 41) → jx_fj th (rf_g m) (rf σ0 m) d 245 3 [(0, .ref 0), (1, .ref 43), (2, .int sv), (3, .ref 52), (4, .int ev), (5, .int iv)] [] (R_cy f 42 s 51 e k) Q
  | 0, k, iv, hv, hk, h => by
    have ek : k = 41 := by omega
    subst ek
    refine rf_at dt_245 40 [] dt_245_k (by decide +kernel) ?_
    intro C J hC hJ
    conv => whnf
    refine jx_yes (show 41 ≤ iv by rw [Int32.le_iff_toInt_le, hv, show (41 : Int32).toInt = 41 by decide]; omega) ?_
    conv => whnf
    exact h
  | r + 1, k, iv, hv, hk, h => by
    have hsi : (sv + iv).toInt = ((s + k : Nat) : Int) := by rw [i32_add hs hv (by omega) (by omega)]; omega
    have hei : (ev + iv).toInt = ((e + k : Nat) : Int) := by rw [i32_add he hv (by omega) (by omega)]; omega
    refine rf_at dt_245 40 [(3, [0, 1, 2, 3, 4, 5])] dt_245_k (by decide +kernel) ?_
    intro C J hC hJ
    conv => whnf
    refine jx_no (show ¬ 41 ≤ iv by rw [Int32.le_iff_toInt_le, hv, show (41 : Int32).toInt = 41 by decide]; omega) ?_
    conv => whnf
    refine ⟨jx_in_nat hsi (show s + k < 656 by omega), ?_⟩
    conv => whnf
    refine ⟨jx_in_nat hei (show e + k < 2624 by omega), ?_⟩
    conv => whnf
    rw [i32_nat hsi, i32_nat hei, R_cy_r (Or.inl (by decide)), R_cy_s]
    refine hJ _ _ _ _ (r_copy_l42_51 hs he hs2 he2 r (k + 1) _ ?_ (by omega) h)
    rw [i32_add (c := 1) hv (by decide) (by omega) (by omega)]; omega
theorem r_copyRow42_51 {sv ev : Int32} {s e : Nat} (hs : sv.toInt = (s : Int)) (he : ev.toInt = (e : Int)) (hs2 : s + 41 ≤ 656) (he2 : e + 41 ≤ 2624) : rfc th σ0 m (d + 1) 245 [.ref 0, .ref 43, .int sv, .ref 52, .int ev] f (fun r f' => r = none ∧ f' = R_cy f 42 s 51 e 41) := by
  refine rf_go dt_245 20 [(3, [0, 1, 2, 3, 4, 5])] dt_245_k (by decide +kernel) rfl ?_
  intro C J hC hJ
  conv => whnf
  refine hJ _ _ _ _ ?_
  have := r_copy_l42_51 (th := th) (σ0 := σ0) (m := m) (d := d) (f := f) (Q := fun r f' => r = none ∧ f' = R_cy f 42 s 51 e 41) hs he hs2 he2 41 0 0 (by decide) (by omega) ⟨rfl, rfl⟩
  rw [R_cy_0] at this
  exact this
theorem r_copy_l43_52 {sv ev : Int32} {s e : Nat} {Q : Option Value → jx_F → Prop} (hs : sv.toInt = (s : Int)) (he : ev.toInt = (e : Int)) (hs2 : s + 41 ≤ 656) (he2 : e + 41 ≤ 2624) : ∀ (r k : Nat) (iv : Int32), iv.toInt = (k : Int) → k + r = 41 → Q none (R_cy f 43 s 52 e 41) → jx_fj th (rf_g m) (rf σ0 m) d 245 3 [(0, .ref 0), (1, .ref 44), (2, .int sv), (3, .ref 53), (4, .int ev), (5, .int iv)] [] (R_cy f 43 s 52 e k) Q
  | 0, k, iv, hv, hk, h => by
    have ek : k = 41 := by omega
    subst ek
    refine rf_at dt_245 40 [] dt_245_k (by decide +kernel) ?_
    intro C J hC hJ
    conv => whnf
    refine jx_yes (show 41 ≤ iv by rw [Int32.le_iff_toInt_le, hv, show (41 : Int32).toInt = 41 by decide]; omega) ?_
    conv => whnf
    exact h
  | r + 1, k, iv, hv, hk, h => by
    have hsi : (sv + iv).toInt = ((s + k : Nat) : Int) := by rw [i32_add hs hv (by omega) (by omega)]; omega
    have hei : (ev + iv).toInt = ((e + k : Nat) : Int) := by rw [i32_add he hv (by omega) (by omega)]; omega
    refine rf_at dt_245 40 [(3, [0, 1, 2, 3, 4, 5])] dt_245_k (by decide +kernel) ?_
    intro C J hC hJ
    conv => whnf
    refine jx_no (show ¬ 41 ≤ iv by rw [Int32.le_iff_toInt_le, hv, show (41 : Int32).toInt = 41 by decide]; omega) ?_
    conv => whnf
    refine ⟨jx_in_nat hsi (show s + k < 656 by omega), ?_⟩
    conv => whnf
    refine ⟨jx_in_nat hei (show e + k < 2624 by omega), ?_⟩
    conv => whnf
    rw [i32_nat hsi, i32_nat hei, R_cy_r (Or.inl (by decide)), R_cy_s]
    refine hJ _ _ _ _ (r_copy_l43_52 hs he hs2 he2 r (k + 1) _ ?_ (by omega) h)
    rw [i32_add (c := 1) hv (by decide) (by omega) (by omega)]; omega
theorem r_copyRow43_52 {sv ev : Int32} {s e : Nat} (hs : sv.toInt = (s : Int)) (he : ev.toInt = (e : Int)) (hs2 : s + 41 ≤ 656) (he2 : e + 41 ≤ 2624) : rfc th σ0 m (d + 1) 245 [.ref 0, .ref 44, .int sv, .ref 53, .int ev] f (fun r f' => r = none ∧ f' = R_cy f 43 s 52 e 41) := by
  refine rf_go dt_245 20 [(3, [0, 1, 2, 3, 4, 5])] dt_245_k (by decide +kernel) rfl ?_
  intro C J hC hJ
  conv => whnf
  refine hJ _ _ _ _ ?_
  have := r_copy_l43_52 (th := th) (σ0 := σ0) (m := m) (d := d) (f := f) (Q := fun r f' => r = none ∧ f' = R_cy f 43 s 52 e 41) hs he hs2 he2 41 0 0 (by decide) (by omega) ⟨rfl, rfl⟩
  rw [R_cy_0] at this
  exact this
/-- one KEPT ANSWER moves down -/
def R_old1 (f : jx_F) (k : Nat) : jx_F := rf_ui (rf_ui (rf_ui (R_cy (R_cy f 60 (320 * k + 320) 60 (320 * k) 320) 62 (41 * k + 41) 62 (41 * k) 41) 61 k (f.1 61 (k + 1))) 63 k (f.1 63 (k + 1))) 64 k (f.1 64 (k + 1))
def R_olds : Nat → Nat → jx_F → jx_F
  | 0, _, f => f
  | r + 1, k, f => R_olds r (k + 1) (R_old1 f k)
def R_oldest (f : jx_F) (n : Nat) : jx_F := rf_ui (R_olds (n - 1) 0 f) 59 0 (f.1 59 0 - 1)
theorem R_old1_o {f : jx_F} {k q j : Nat} (h : ¬ (60 ≤ q ∧ q ≤ 64)) : (R_old1 f k).1 q j = f.1 q j := by
  unfold R_old1
  rw [rf_ui_ne (by omega), rf_ui_ne (by omega), rf_ui_ne (by omega), R_cy_o (by omega), R_cy_o (by omega)]
theorem R_olds_o {q j : Nat} (h : ¬ (60 ≤ q ∧ q ≤ 64)) : ∀ (r k : Nat) (f : jx_F), (R_olds r k f).1 q j = f.1 q j
  | 0, _, _ => rfl
  | r + 1, k, f => (R_olds_o h r (k + 1) (R_old1 f k)).trans (R_old1_o h)
theorem R_olds_l : ∀ (r k : Nat) (f : jx_F), (R_olds r k f).2 = f.2
  | 0, _, _ => rfl
  | r + 1, k, f => R_olds_l r (k + 1) (R_old1 f k)
theorem R_old1_60 {f : jx_F} {k j : Nat} : (R_old1 f k).1 60 j = if 320 * k ≤ j ∧ j < 320 * k + 320 then vp_nar .byte (f.1 60 (j + 320)) else f.1 60 j := by
  unfold R_old1
  rw [rf_ui_ne (by omega), rf_ui_ne (by omega), rf_ui_ne (by omega), R_cy_o (by omega)]
  by_cases h : 320 * k ≤ j ∧ j < 320 * k + 320
  · rw [if_pos h, R_cy_v h.1 h.2, show 320 * k + 320 + (j - 320 * k) = j + 320 by omega]
  · rw [if_neg h, R_cy_o (by omega)]
theorem R_old1_62 {f : jx_F} {k j : Nat} : (R_old1 f k).1 62 j = if 41 * k ≤ j ∧ j < 41 * k + 41 then vp_nar .byte (f.1 62 (j + 41)) else f.1 62 j := by
  unfold R_old1
  rw [rf_ui_ne (by omega), rf_ui_ne (by omega), rf_ui_ne (by omega)]
  by_cases h : 41 * k ≤ j ∧ j < 41 * k + 41
  · rw [if_pos h, R_cy_v h.1 h.2, R_cy_o (by omega), show 41 * k + 41 + (j - 41 * k) = j + 41 by omega]
  · rw [if_neg h, R_cy_o (by omega), R_cy_o (by omega)]
theorem R_old1_6 {f : jx_F} {k j q : Nat} (hq : q = 61 ∨ q = 63 ∨ q = 64) : (R_old1 f k).1 q j = if j = k then f.1 q (k + 1) else f.1 q j := by
  unfold R_old1
  by_cases h : j = k
  · rw [if_pos h, h]
    rcases hq with rfl | rfl | rfl
    · rw [rf_ui_ne (by omega), rf_ui_ne (by omega), rf_ui_eq]
    · rw [rf_ui_ne (by omega), rf_ui_eq]
    · rw [rf_ui_eq]
  · rw [if_neg h, rf_ui_ne (by omega), rf_ui_ne (by omega), rf_ui_ne (by omega), R_cy_o (by omega), R_cy_o (by omega)]
theorem R_olds_60 {j : Nat} : ∀ (r k : Nat) (f : jx_F), (R_olds r k f).1 60 j = if 320 * k ≤ j ∧ j < 320 * (k + r) then vp_nar .byte (f.1 60 (j + 320)) else f.1 60 j
  | 0, k, f => (if_neg (by omega)).symm
  | r + 1, k, f => by
    show (R_olds r (k + 1) (R_old1 f k)).1 60 j = _
    rw [R_olds_60 r (k + 1), R_old1_60, R_old1_60]
    by_cases h : 320 * (k + 1) ≤ j ∧ j < 320 * (k + 1 + r)
    · rw [if_pos h, if_neg (by omega), if_pos (by omega)]
    · rw [if_neg h]
      by_cases h2 : 320 * k ≤ j ∧ j < 320 * k + 320
      · rw [if_pos h2, if_pos (by omega)]
      · rw [if_neg h2, if_neg (by omega)]
theorem R_olds_62 {j : Nat} : ∀ (r k : Nat) (f : jx_F), (R_olds r k f).1 62 j = if 41 * k ≤ j ∧ j < 41 * (k + r) then vp_nar .byte (f.1 62 (j + 41)) else f.1 62 j
  | 0, k, f => (if_neg (by omega)).symm
  | r + 1, k, f => by
    show (R_olds r (k + 1) (R_old1 f k)).1 62 j = _
    rw [R_olds_62 r (k + 1), R_old1_62, R_old1_62]
    by_cases h : 41 * (k + 1) ≤ j ∧ j < 41 * (k + 1 + r)
    · rw [if_pos h, if_neg (by omega), if_pos (by omega)]
    · rw [if_neg h]
      by_cases h2 : 41 * k ≤ j ∧ j < 41 * k + 41
      · rw [if_pos h2, if_pos (by omega)]
      · rw [if_neg h2, if_neg (by omega)]
theorem R_olds_6 {j q : Nat} (hq : q = 61 ∨ q = 63 ∨ q = 64) : ∀ (r k : Nat) (f : jx_F), (R_olds r k f).1 q j = if k ≤ j ∧ j < k + r then f.1 q (j + 1) else f.1 q j
  | 0, k, f => (if_neg (by omega)).symm
  | r + 1, k, f => by
    show (R_olds r (k + 1) (R_old1 f k)).1 q j = _
    rw [R_olds_6 hq r (k + 1), R_old1_6 hq, R_old1_6 hq]
    by_cases h : k + 1 ≤ j ∧ j < k + 1 + r
    · rw [if_pos h, if_neg (by omega), if_pos (by omega)]
    · rw [if_neg h]
      by_cases h2 : j = k
      · rw [if_pos h2, if_pos (by omega), h2]
      · rw [if_neg h2, if_neg (by omega)]
/-- the octets of one KEPT ANSWER -/
theorem r_old_i {Q : Option Value → jx_F → Prop} {kv : Int32} {k : Nat} (hk : kv.toInt = (k : Int)) (hk32 : k < 32) : ∀ (r i : Nat) (iv : Int32), iv.toInt = (i : Int) → i + r = 320 → jx_fj th (rf_g m) (rf σ0 m) (d + 1) 244 55 [(0, .ref 0), (1, .int kv)] [] (R_cy f 60 (320 * k + 320) 60 (320 * k) 320) Q → jx_fj th (rf_g m) (rf σ0 m) (d + 1) 244 14 [(0, .ref 0), (1, .int kv), (2, .int iv)] [] (R_cy f 60 (320 * k + 320) 60 (320 * k) i) Q
  | 0, i, iv, hv, hi, h => by
    have ei : i = 320 := by omega
    subst ei
    refine rf_at dt_244 40 [(55, [0, 1])] dt_244_k (by decide +kernel) ?_
    intro C J hC hJ
    conv => whnf
    refine jx_yes (show 320 ≤ iv by rw [Int32.le_iff_toInt_le, hv, show (320 : Int32).toInt = 320 by decide]; omega) ?_
    conv => whnf
    exact hJ _ _ _ _ h
  | r + 1, i, iv, hv, hi, h => by
    have h32 : (320 * kv).toInt = ((320 * k : Nat) : Int) := by rw [i32_mul (a := 320) (by decide) hk (by omega) (by omega)]; omega
    have hei : (320 * kv + iv).toInt = ((320 * k + i : Nat) : Int) := by rw [i32_add h32 hv (by omega) (by omega)]; omega
    have h33 : (320 * kv + 320).toInt = ((320 * k + 320 : Nat) : Int) := by rw [i32_add h32 (show (320 : Int32).toInt = 320 by decide) (by omega) (by omega)]; omega
    have hsi : (320 * kv + 320 + iv).toInt = ((320 * k + 320 + i : Nat) : Int) := by rw [i32_add h33 hv (by omega) (by omega)]; omega
    refine rf_at dt_244 40 [(14, [0, 1, 2])] dt_244_k (by decide +kernel) ?_
    intro C J hC hJ
    conv => whnf
    refine jx_no (show ¬ 320 ≤ iv by rw [Int32.le_iff_toInt_le, hv, show (320 : Int32).toInt = 320 by decide]; omega) ?_
    conv => whnf
    refine ⟨jx_in_nat hsi (show 320 * k + 320 + i < 10560 by omega), ?_⟩
    conv => whnf
    refine ⟨jx_in_nat hei (show 320 * k + i < 10560 by omega), ?_⟩
    conv => whnf
    rw [i32_nat hsi, i32_nat hei, R_cy_r (Or.inr (by omega)), R_cy_s]
    refine hJ _ _ _ _ (r_old_i hk hk32 r (i + 1) _ ?_ (by omega) h)
    rw [i32_add (c := 1) hv (by decide) (by omega) (by omega)]; omega
theorem r_old_k {Q : Option Value → jx_F → Prop} {n : Nat} (hn33 : n ≤ 33) : ∀ (r k : Nat) (kv : Int32) (f : jx_F), kv.toInt = (k : Int) → (f.1 59 0).toInt = (n : Int) → k + 1 + r = n → Q none (rf_ui (R_olds r k f) 59 0 ((R_olds r k f).1 59 0 - 1)) → jx_fj th (rf_g m) (rf σ0 m) (d + 1) 244 2 [(0, .ref 0), (1, .int kv)] [] f Q
  | 0, k, kv, f, hk, hn, hkn, h => by
    have hk1 : (kv + 1).toInt = ((k + 1 : Nat) : Int) := by rw [i32_add (c := 1) hk (by decide) (by omega) (by omega)]; omega
    refine rf_at dt_244 40 [] dt_244_k (by decide +kernel) ?_
    intro C J hC hJ
    conv => whnf
    refine jx_yes (show f.1 59 0 ≤ kv + 1 by rw [Int32.le_iff_toInt_le, hn, hk1]; omega) ?_
    conv => whnf
    exact h
  | r + 1, k, kv, f, hk, hn, hkn, h => by
    have hk1 : (kv + 1).toInt = ((k + 1 : Nat) : Int) := by rw [i32_add (c := 1) hk (by decide) (by omega) (by omega)]; omega
    have hk1n := i32_nat hk1
    have hkn' := i32_nat hk
    have hki : jx_in kv 33 := jx_in_nat hk (by omega)
    have hki1 : jx_in (kv + 1) 33 := jx_in_nat hk1 (by omega)
    have h41 : (41 * kv).toInt = ((41 * k : Nat) : Int) := by rw [i32_mul (a := 41) (by decide) hk (by omega) (by omega)]; omega
    have h42 : (41 * kv + 41).toInt = ((41 * k + 41 : Nat) : Int) := by rw [i32_add h41 (show (41 : Int32).toInt = 41 by decide) (by omega) (by omega)]; omega
    have tail : jx_fj th (rf_g m) (rf σ0 m) (d + 1) 244 55 [(0, .ref 0), (1, .int kv)] [] (R_cy f 60 (320 * k + 320) 60 (320 * k) 320) Q := by
      refine rf_at dt_244 80 [(2, [0, 1])] dt_244_k (by decide +kernel) ?_
      intro C J hC hJ
      conv => whnf
      refine hC _ _ _ _ ((r_copyRow62_62 (d := d) h42 h41 (by omega) (by omega) (by omega)).mp ?_)
      rintro r' f2 ⟨rfl, hf2⟩
      conv => whnf
      refine ⟨hki1, ?_⟩
      conv => whnf
      refine ⟨hki, ?_⟩
      conv => whnf
      refine ⟨hki1, ?_⟩
      conv => whnf
      refine ⟨hki, ?_⟩
      conv => whnf
      refine ⟨hki1, ?_⟩
      conv => whnf
      refine ⟨hki, ?_⟩
      conv => whnf
      rw [hk1n, hkn']
      have e : rf_ui (rf_ui (rf_ui f2 61 k (f2.1 61 (k + 1))) 63 k ((rf_ui f2 61 k (f2.1 61 (k + 1))).1 63 (k + 1))) 64 k ((rf_ui (rf_ui f2 61 k (f2.1 61 (k + 1))) 63 k ((rf_ui f2 61 k (f2.1 61 (k + 1))).1 63 (k + 1))).1 64 (k + 1)) = R_old1 f k := by
        rw [rf_ui_ne (show ¬ (64 = 63 ∧ k + 1 = k) by omega), rf_ui_ne (show ¬ (64 = 61 ∧ k + 1 = k) by omega), rf_ui_ne (show ¬ (63 = 61 ∧ k + 1 = k) by omega), hf2, R_cy_o (a := 61) (by omega), R_cy_o (a := 61) (by omega), R_cy_o (a := 63) (by omega), R_cy_o (a := 63) (by omega), R_cy_o (a := 64) (by omega), R_cy_o (a := 64) (by omega)]
        rfl
      rw [e]
      refine hJ _ _ _ _ (r_old_k hn33 r (k + 1) _ (R_old1 f k) hk1 (by rw [R_old1_o (by omega)]; exact hn) (by omega) h)
    have := r_old_i (th := th) (σ0 := σ0) (m := m) (d := d) (f := f) (Q := Q) hk (by omega) 320 0 0 (by decide) (by omega) tail
    rw [R_cy_0] at this
    refine rf_at dt_244 40 [(14, [0, 1, 2])] dt_244_k (by decide +kernel) ?_
    intro C J hC hJ
    conv => whnf
    refine jx_no (show ¬ f.1 59 0 ≤ kv + 1 by rw [Int32.le_iff_toInt_le, hn, hk1]; omega) ?_
    conv => whnf
    exact hJ _ _ _ _ this
theorem r_oldest {n : Nat} (hn : (f.1 59 0).toInt = (n : Int)) (hn1 : 1 ≤ n) (hn33 : n ≤ 33) : rfc th σ0 m (d + 2) 244 [.ref 0] f (fun r f' => r = none ∧ f' = R_oldest f n) := by
  refine rf_go dt_244 20 [(2, [0, 1])] dt_244_k (by decide +kernel) rfl ?_
  intro C J hC hJ
  conv => whnf
  refine hJ _ _ _ _ (r_old_k hn33 (n - 1) 0 _ f (by decide) hn (by omega) ⟨rfl, ?_⟩)
  unfold R_oldest
  rw [R_olds_o (by omega)]
end JxRefcopy
