/-! A SESSION is forgotten -/
/-- one SESSION moves down -/
def R_fg1 (f : jx_F) (k : Nat) : jx_F := rf_ui (rf_ui (rf_ul (rf_ul (rf_ui (R_cy (R_cy (R_cy f 41 (41 * k + 41) 41 (41 * k) 41) 42 (41 * k + 41) 42 (41 * k) 41) 43 (41 * k + 41) 43 (41 * k) 41) 44 k (f.1 44 (k + 1))) 45 k (f.2 45 (k + 1))) 46 k (f.2 46 (k + 1))) 47 k (f.1 47 (k + 1))) 48 k (f.1 48 (k + 1))
def R_fgs : Nat → Nat → jx_F → jx_F
  | 0, _, f => f
  | r + 1, k, f => R_fgs r (k + 1) (R_fg1 f k)
def R_forget (f : jx_F) (n s : Nat) : jx_F := rf_ui (R_fgs (n - 1 - s) s f) 40 0 (f.1 40 0 - 1)
section JxForget
variable {th : Nat → Nat} {B b m d s n : Nat} {xl : List Int32} {σ σ' σ0 : jx_S} {f f' : jx_F} {A A' : Nat → Nat → Nat} {G : Nat → Nat → Int32} {T T' : Nat → Nat} {W : Nat → Prop}
theorem R_fg1_o {k q j : Nat} (h : ¬ (41 ≤ q ∧ q ≤ 48)) : (R_fg1 f k).1 q j = f.1 q j := by
  unfold R_fg1
  rw [rf_ui_ne (by omega), rf_ui_ne (by omega)]
  show (rf_ui _ _ _ _).1 q j = _
  rw [rf_ui_ne (by omega), R_cy_o (by omega), R_cy_o (by omega), R_cy_o (by omega)]
theorem R_fg1_l {k q j : Nat} (h : ¬ (q = 45 ∨ q = 46)) : (R_fg1 f k).2 q j = f.2 q j := by
  unfold R_fg1
  show (rf_ul (rf_ul _ _ _ _) _ _ _).2 q j = _
  rw [rf_ul_ne (by omega), rf_ul_ne (by omega)]
  rfl
theorem R_fg1_4 {k q j : Nat} (hq : q = 41 ∨ q = 42 ∨ q = 43) : (R_fg1 f k).1 q j = if 41 * k ≤ j ∧ j < 41 * k + 41 then vp_nar .byte (f.1 q (j + 41)) else f.1 q j := by
  unfold R_fg1
  rw [rf_ui_ne (by omega), rf_ui_ne (by omega)]
  show (rf_ui _ _ _ _).1 q j = _
  rw [rf_ui_ne (by omega)]
  by_cases h : 41 * k ≤ j ∧ j < 41 * k + 41
  · rw [if_pos h]
    rcases hq with rfl | rfl | rfl
    · rw [R_cy_o (by omega), R_cy_o (by omega), R_cy_v h.1 h.2, show 41 * k + 41 + (j - 41 * k) = j + 41 by omega]
    · rw [R_cy_o (by omega), R_cy_v h.1 h.2, show 41 * k + 41 + (j - 41 * k) = j + 41 by omega, R_cy_o (by omega)]
    · rw [R_cy_v h.1 h.2, show 41 * k + 41 + (j - 41 * k) = j + 41 by omega, R_cy_o (by omega), R_cy_o (by omega)]
  · rw [if_neg h, R_cy_o (by omega), R_cy_o (by omega), R_cy_o (by omega)]
theorem R_fg1_i {k q j : Nat} (hq : q = 44 ∨ q = 47 ∨ q = 48) : (R_fg1 f k).1 q j = if j = k then f.1 q (k + 1) else f.1 q j := by
  unfold R_fg1
  by_cases h : j = k
  · rw [if_pos h, h]
    rcases hq with rfl | rfl | rfl
    · rw [rf_ui_ne (by omega), rf_ui_ne (by omega)]
      show (rf_ui _ _ _ _).1 44 k = _
      rw [rf_ui_eq]
    · rw [rf_ui_ne (by omega), rf_ui_eq]
    · rw [rf_ui_eq]
  · rw [if_neg h, rf_ui_ne (by omega), rf_ui_ne (by omega)]
    show (rf_ui _ _ _ _).1 q j = _
    rw [rf_ui_ne (by omega), R_cy_o (by omega), R_cy_o (by omega), R_cy_o (by omega)]
theorem R_fg1_2 {k q j : Nat} (hq : q = 45 ∨ q = 46) : (R_fg1 f k).2 q j = if j = k then f.2 q (k + 1) else f.2 q j := by
  unfold R_fg1
  show (rf_ul (rf_ul _ _ _ _) _ _ _).2 q j = _
  by_cases h : j = k
  · rw [if_pos h, h]
    rcases hq with rfl | rfl
    · rw [rf_ul_ne (by omega), rf_ul_eq]
    · rw [rf_ul_eq]
  · rw [if_neg h, rf_ul_ne (by omega), rf_ul_ne (by omega)]
    rfl
theorem R_fgs_o {q j : Nat} (h : ¬ (41 ≤ q ∧ q ≤ 48)) : ∀ (r k : Nat) (f : jx_F), (R_fgs r k f).1 q j = f.1 q j
  | 0, _, _ => rfl
  | r + 1, k, f => (R_fgs_o h r (k + 1) (R_fg1 f k)).trans (R_fg1_o h)
theorem R_fgs_l {q j : Nat} (h : ¬ (q = 45 ∨ q = 46)) : ∀ (r k : Nat) (f : jx_F), (R_fgs r k f).2 q j = f.2 q j
  | 0, _, _ => rfl
  | r + 1, k, f => (R_fgs_l h r (k + 1) (R_fg1 f k)).trans (R_fg1_l h)
theorem R_fgs_4 {q j : Nat} (hq : q = 41 ∨ q = 42 ∨ q = 43) : ∀ (r k : Nat) (f : jx_F), (R_fgs r k f).1 q j = if 41 * k ≤ j ∧ j < 41 * (k + r) then vp_nar .byte (f.1 q (j + 41)) else f.1 q j
  | 0, k, f => (if_neg (by omega)).symm
  | r + 1, k, f => by
    show (R_fgs r (k + 1) (R_fg1 f k)).1 q j = _
    rw [R_fgs_4 hq r (k + 1), R_fg1_4 hq, R_fg1_4 hq]
    by_cases h : 41 * (k + 1) ≤ j ∧ j < 41 * (k + 1 + r)
    · rw [if_pos h, if_neg (by omega), if_pos (by omega)]
    · rw [if_neg h]
      by_cases h2 : 41 * k ≤ j ∧ j < 41 * k + 41
      · rw [if_pos h2, if_pos (by omega)]
      · rw [if_neg h2, if_neg (by omega)]
theorem R_fgs_i {q j : Nat} (hq : q = 44 ∨ q = 47 ∨ q = 48) : ∀ (r k : Nat) (f : jx_F), (R_fgs r k f).1 q j = if k ≤ j ∧ j < k + r then f.1 q (j + 1) else f.1 q j
  | 0, k, f => (if_neg (by omega)).symm
  | r + 1, k, f => by
    show (R_fgs r (k + 1) (R_fg1 f k)).1 q j = _
    rw [R_fgs_i hq r (k + 1), R_fg1_i hq, R_fg1_i hq]
    by_cases h : k + 1 ≤ j ∧ j < k + 1 + r
    · rw [if_pos h, if_neg (by omega), if_pos (by omega)]
    · rw [if_neg h]
      by_cases h2 : j = k
      · rw [if_pos h2, if_pos (by omega), h2]
      · rw [if_neg h2, if_neg (by omega)]
theorem R_fgs_2 {q j : Nat} (hq : q = 45 ∨ q = 46) : ∀ (r k : Nat) (f : jx_F), (R_fgs r k f).2 q j = if k ≤ j ∧ j < k + r then f.2 q (j + 1) else f.2 q j
  | 0, k, f => (if_neg (by omega)).symm
  | r + 1, k, f => by
    show (R_fgs r (k + 1) (R_fg1 f k)).2 q j = _
    rw [R_fgs_2 hq r (k + 1), R_fg1_2 hq, R_fg1_2 hq]
    by_cases h : k + 1 ≤ j ∧ j < k + 1 + r
    · rw [if_pos h, if_neg (by omega), if_pos (by omega)]
    · rw [if_neg h]
      by_cases h2 : j = k
      · rw [if_pos h2, if_pos (by omega), h2]
      · rw [if_neg h2, if_neg (by omega)]
/-- all of it -/
theorem fg_o {q j : Nat} (h : ¬ (40 ≤ q ∧ q ≤ 48)) : (R_forget f n s).1 q j = f.1 q j := by
  unfold R_forget
  rw [rf_ui_ne (by omega), R_fgs_o (by omega)]
theorem fg_40 : (R_forget f n s).1 40 0 = f.1 40 0 - 1 := rf_ui_eq
theorem fg_l {q j : Nat} (h : ¬ (q = 45 ∨ q = 46)) : (R_forget f n s).2 q j = f.2 q j := by
  unfold R_forget
  exact R_fgs_l h _ _ _
theorem fg_4 {q i j : Nat} (hq : q = 41 ∨ q = 42 ∨ q = 43) (hs : s ≤ i) (hi : i + 1 < n) (hj : j < 41) : (R_forget f n s).1 q (41 * i + j) = vp_nar .byte (f.1 q (41 * (i + 1) + j)) := by
  unfold R_forget
  rw [rf_ui_ne (by omega), R_fgs_4 hq, if_pos (by omega), show 41 * i + j + 41 = 41 * (i + 1) + j by omega]
theorem fg_4o {q i j : Nat} (hq : q = 41 ∨ q = 42 ∨ q = 43) (hi : i < s) (hj : j < 41) : (R_forget f n s).1 q (41 * i + j) = f.1 q (41 * i + j) := by
  unfold R_forget
  rw [rf_ui_ne (by omega), R_fgs_4 hq, if_neg (by omega)]
theorem fg_i {q i : Nat} (hq : q = 44 ∨ q = 47 ∨ q = 48) (hs : s ≤ i) (hi : i + 1 < n) : (R_forget f n s).1 q i = f.1 q (i + 1) := by
  unfold R_forget
  rw [rf_ui_ne (by omega), R_fgs_i hq, if_pos (by omega)]
theorem fg_io {q i : Nat} (hq : q = 44 ∨ q = 47 ∨ q = 48) (hi : i < s) : (R_forget f n s).1 q i = f.1 q i := by
  unfold R_forget
  rw [rf_ui_ne (by omega), R_fgs_i hq, if_neg (by omega)]
theorem fg_2 {q i : Nat} (hq : q = 45 ∨ q = 46) (hs : s ≤ i) (hi : i + 1 < n) : (R_forget f n s).2 q i = f.2 q (i + 1) := by
  unfold R_forget
  show (R_fgs _ _ _).2 q i = _
  rw [R_fgs_2 hq, if_pos (by omega)]
theorem fg_2o {q i : Nat} (hq : q = 45 ∨ q = 46) (hi : i < s) : (R_forget f n s).2 q i = f.2 q i := by
  unfold R_forget
  show (R_fgs _ _ _).2 q i = _
  rw [R_fgs_2 hq, if_neg (by omega)]
theorem r_fg_k {Q : Option Value → jx_F → Prop} {sv : Int32} (hn16 : n ≤ 16) : ∀ (r k : Nat) (kv : Int32) (f : jx_F), kv.toInt = (k : Int) → (f.1 40 0).toInt = (n : Int) → k + 1 + r = n → Q none (rf_ui (R_fgs r k f) 40 0 ((R_fgs r k f).1 40 0 - 1)) → jx_fj th (rf_g m) (rf σ0 m) (d + 1) 259 2 [(0, .ref 0), (1, .int sv), (2, .int kv)] [] f Q
  | 0, k, kv, f, hk, hn, hkn, h => by
    have hk1 : (kv + 1).toInt = ((k + 1 : Nat) : Int) := by rw [i32_add (c := 1) hk (by decide) (by omega) (by omega)]; omega
    refine rf_at dt_259 40 [] dt_259_k (by decide +kernel) ?_
    intro C J hC hJ
    conv => whnf
    refine jx_yes (show f.1 40 0 ≤ kv + 1 by rw [Int32.le_iff_toInt_le, hn, hk1]; omega) ?_
    conv => whnf
    exact h
  | r + 1, k, kv, f, hk, hn, hkn, h => by
    have hk1 : (kv + 1).toInt = ((k + 1 : Nat) : Int) := by rw [i32_add (c := 1) hk (by decide) (by omega) (by omega)]; omega
    have hk1n := i32_nat hk1
    have hkn' := i32_nat hk
    have hki : jx_in kv 16 := jx_in_nat hk (by omega)
    have hki1 : jx_in (kv + 1) 16 := jx_in_nat hk1 (by omega)
    have h41 : (41 * kv).toInt = ((41 * k : Nat) : Int) := by rw [i32_mul (a := 41) (by decide) hk (by omega) (by omega)]; omega
    have h42 : (41 * kv + 41).toInt = ((41 * k + 41 : Nat) : Int) := by rw [i32_add h41 (show (41 : Int32).toInt = 41 by decide) (by omega) (by omega)]; omega
    refine rf_at dt_259 150 [(2, [0, 1, 2])] dt_259_k (by decide +kernel) ?_
    intro C J hC hJ
    conv => whnf
    refine jx_no (show ¬ f.1 40 0 ≤ kv + 1 by rw [Int32.le_iff_toInt_le, hn, hk1]; omega) ?_
    conv => whnf
    refine hC _ _ _ _ ((r_copyRow41_41 (d := d) h42 h41 (by omega) (by omega) (by omega)).mp ?_)
    rintro r' f2 ⟨rfl, hf2⟩
    conv => whnf
    refine hC _ _ _ _ ((r_copyRow42_42 (d := d) h42 h41 (by omega) (by omega) (by omega)).mp ?_)
    rintro r' f3 ⟨rfl, hf3⟩
    conv => whnf
    refine hC _ _ _ _ ((r_copyRow43_43 (d := d) h42 h41 (by omega) (by omega) (by omega)).mp ?_)
    rintro r' f4 ⟨rfl, hf4⟩
    have o4 : ∀ q j, q ≠ 41 → q ≠ 42 → q ≠ 43 → f4.1 q j = f.1 q j := fun q j z1 z2 z3 => by rw [hf4, R_cy_o (by omega), hf3, R_cy_o (by omega), hf2, R_cy_o (by omega)]
    have l4 : f4.2 = f.2 := by rw [hf4, hf3, hf2]; rfl
    conv => whnf
    refine ⟨hki1, ?_⟩
    conv => whnf
    refine ⟨hki, ?_⟩
    conv => whnf
    refine ⟨hki1, ?_⟩
    conv => whnf
    refine ⟨hki, ?_⟩
    conv => whnf
    refine ⟨hki1, ?_⟩
    conv => whnf
    refine ⟨hki, ?_⟩
    conv => whnf
    refine ⟨hki1, ?_⟩
    conv => whnf
    refine ⟨hki, ?_⟩
    conv => whnf
    refine ⟨hki1, ?_⟩
    conv => whnf
    refine ⟨hki, ?_⟩
    conv => whnf
    rw [hk1n, hkn']
    obtain ⟨g1, hg1⟩ : ∃ g1, g1 = rf_ui f4 44 k (f4.1 44 (k + 1)) := ⟨_, rfl⟩
    rw [← hg1]
    obtain ⟨g2, hg2⟩ : ∃ g2, g2 = rf_ul g1 45 k (g1.2 45 (k + 1)) := ⟨_, rfl⟩
    rw [← hg2]
    obtain ⟨g3, hg3⟩ : ∃ g3, g3 = rf_ul g2 46 k (g2.2 46 (k + 1)) := ⟨_, rfl⟩
    rw [← hg3]
    obtain ⟨g4, hg4⟩ : ∃ g4, g4 = rf_ui g3 47 k (g3.1 47 (k + 1)) := ⟨_, rfl⟩
    rw [← hg4]
    have e : rf_ui g4 48 k (g4.1 48 (k + 1)) = R_fg1 f k := by
      have a1 : f4.1 44 (k + 1) = f.1 44 (k + 1) := o4 44 _ (by omega) (by omega) (by omega)
      have a2 : g1.2 45 (k + 1) = f.2 45 (k + 1) := by rw [hg1]; show f4.2 45 (k + 1) = _; rw [l4]
      have a3 : g2.2 46 (k + 1) = f.2 46 (k + 1) := by rw [hg2, rf_ul_ne (by omega), hg1]; show f4.2 46 (k + 1) = _; rw [l4]
      have a4 : g3.1 47 (k + 1) = f.1 47 (k + 1) := by rw [hg3, hg2]; show g1.1 47 (k + 1) = _; rw [hg1, rf_ui_ne (by omega)]; exact o4 47 _ (by omega) (by omega) (by omega)
      have a5 : g4.1 48 (k + 1) = f.1 48 (k + 1) := by rw [hg4, rf_ui_ne (by omega), hg3, hg2]; show g1.1 48 (k + 1) = _; rw [hg1, rf_ui_ne (by omega)]; exact o4 48 _ (by omega) (by omega) (by omega)
      rw [a5, hg4, a4, hg3, a3, hg2, a2, hg1, a1, hf4, hf3, hf2]
      rfl
    rw [e]
    refine hJ _ _ _ _ (r_fg_k hn16 r (k + 1) _ (R_fg1 f k) hk1 (by rw [R_fg1_o (by omega)]; exact hn) (by omega) h)
theorem r_forget {sv : Int32} (hs : sv.toInt = (s : Int)) (hn : (f.1 40 0).toInt = (n : Int)) (hsn : s < n) (hn16 : n ≤ 16) : rfc th σ0 m (d + 2) 259 [.ref 0, .int sv] f (fun r f' => r = none ∧ f' = R_forget f n s) := by
  refine rf_go dt_259 20 [(2, [0, 1, 2])] dt_259_k (by decide +kernel) rfl ?_
  intro C J hC hJ
  conv => whnf
  refine hJ _ _ _ _ (r_fg_k hn16 (n - 1 - s) s _ f hs hn (by omega) ⟨rfl, ?_⟩)
  unfold R_forget
  rw [R_fgs_o (by omega)]
/-- the SESSIONS, their list and the ACCOUNTS -/
theorem RelC.ses (hR : RelC th B b xl σ f A G T) (hch : chg W σ σ' T T') (hW : ∀ a, W a → a = B + 8 ∨ ∃ t, dy B σ T a t ∧ (t = 74 ∨ t = 8 ∨ (3000 ≤ t ∧ t < 3016))) (hf : ∀ q j, ¬ (40 ≤ q ∧ q ≤ 48) → q < 65 → q ≠ 0 → q ≠ 2 → f'.1 q j = f.1 q j) (hl : ∀ j, f'.2 53 j = f.2 53 j) (hA : ∀ q i, ¬ (q = 8 ∨ q = 81 ∨ q = 82 ∨ q = 83 ∨ (q = 70 ∧ i = 4)) → A' q i = A q i) (ha : rl_a th B σ' f' A' T') (hs : rl_s th B σ' f' A' T') : RelC th B b xl σ' f' A' G T' := by
  have hB := hR.1.2.2.2.2.1
  have lo : ∀ a, a < B + 102 → a ≠ B + 8 → ¬ W a := fun a h1 h2 h => by
    rcases hW a h with e | ⟨t, e, -⟩
    · exact h2 e
    · have := e.1; omega
  have hd : ∀ a t, dy B σ T a t → t ≠ 74 → t ≠ 8 → ¬ (3000 ≤ t ∧ t < 3016) → ¬ W a := fun a t h1 h2 h3 h4 h => by
    rcases hW a h with e | ⟨t', e, e2⟩
    · have := h1.1; omega
    · have e1 := e.2.2
      rw [h1.2.2] at e1
      omega
  have k0 : ∀ q j, q < 65 → q ≠ 0 → q ≠ 2 → ¬ (40 ≤ q ∧ q ≤ 48) → f'.1 q j = f.1 q j := fun q j z1 z2 z3 z4 => hf q j z4 z1 z2 z3
  obtain ⟨hx, hd', hC, hP, hQ, hk, -, -⟩ := hR
  refine ⟨hx.mv hch (fun a h => lo a (by omega) (by omega)) ⟨lo _ (by omega) (by omega), lo _ (by omega) (by omega), lo _ (by omega) (by omega), lo _ (by omega) (by omega)⟩ (fun a h => hd a _ h (by omega) (by omega) (by omega)) ?_ (fun q j q1 q2 => k0 q j (by omega) (by omega) (by omega) (by omega)) (hA 0 0 (by omega)), hd'.mv hch hB ⟨lo _ (by omega) (by omega), lo _ (by omega) (by omega), lo _ (by omega) (by omega)⟩ (fun a h => hd a _ h (by omega) (by omega) (by omega)) (fun q j hq => k0 q j (by omega) (by omega) (by omega) (by omega)) (hA 4 0 (by omega)), fun c hc => (hC c hc).mv hc hch hB ⟨lo _ (by omega) (by omega), lo _ (by omega) (by omega), lo _ (by omega) (by omega)⟩ (fun a t h ht => hd a t h (by omega) (by omega) (by omega)) (fun q hq => k0 q _ (by simp only [List.mem_cons, List.not_mem_nil, or_false] at hq; omega) (by simp only [List.mem_cons, List.not_mem_nil, or_false] at hq; omega) (by simp only [List.mem_cons, List.not_mem_nil, or_false] at hq; omega) (by simp only [List.mem_cons, List.not_mem_nil, or_false] at hq; omega)) (fun j _ => k0 29 _ (by omega) (by omega) (by omega) (by omega)) (fun j _ => k0 31 _ (by omega) (by omega) (by omega) (by omega)) ⟨hA 51 c (by omega), hA 52 c (by omega), fun i => hA 6 i (by omega)⟩ rfl, hP.mv hch hB (lo _ (by omega) (by omega)) (fun a t h ht => hd a t h (by omega) (by omega) (by omega)) (fun q j q1 q2 => k0 q j (by omega) (by omega) (by omega) (by omega)) (fun q i hq => hA q i (by omega)) (fun _ => rfl), hQ.mv hch hB (lo _ (by omega) (by omega)) (fun a t h ht => hd a t h (by omega) (by omega) (by omega)) (fun q j hq => k0 q j (by simp only [List.mem_cons, List.not_mem_nil, or_false] at hq; omega) (by simp only [List.mem_cons, List.not_mem_nil, or_false] at hq; omega) (by simp only [List.mem_cons, List.not_mem_nil, or_false] at hq; omega) (by simp only [List.mem_cons, List.not_mem_nil, or_false] at hq; omega)) hl (fun q i hq => hA q i (by omega)), hk.mv hch hB (lo _ (by omega) (by omega)) (fun a t h ht => hd a t h (by omega) (by omega) (by omega)) (fun q j q1 q2 => k0 q j (by omega) (by omega) (by omega) (by omega)) (fun q i hq => hA q i (by omega)), ha, hs⟩
  rw [hch.1 B (by omega) (lo _ (by omega) (by omega)), hA 0 0 (by omega)]
  have := hx.2.2.2.2.2.1
  rw [this]
  unfold cx_e
  rw [k0 4 0 (by omega) (by omega) (by omega) (by omega), k0 1 0 (by omega) (by omega) (by omega) (by omega), k0 34 0 (by omega) (by omega) (by omega) (by omega)]
/-- a SESSION that stays, perhaps in another place -/
theorem rl_s1.sh {s' : Nat} (hr : rl_s1 B σ f A T s) (h : chg W σ σ' T T') (hw : ¬ W (A 8 s)) (ht : ∀ a, dy B σ T a 81 → ¬ W a) (hi : ∀ q, q = 44 ∨ q = 47 ∨ q = 48 → f'.1 q s' = f.1 q s) (hl : ∀ q, q = 45 ∨ q = 46 → f'.2 q s' = f.2 q s) (hrow : ∀ q j, q = 41 ∨ q = 42 ∨ q = 43 → j < 41 → f'.1 q (41 * s' + j) = f.1 q (41 * s + j) ∨ f'.1 q (41 * s' + j) = vp_nar .byte (f.1 q (41 * s + j))) (h7 : (f.1 7 0).toInt ≤ (f'.1 7 0).toInt) (h35 : (f.1 35 0).toInt ≤ (f'.1 35 0).toInt) (hA : ∀ q, q = 8 ∨ q = 81 ∨ q = 82 ∨ q = 83 → A' q s' = A q s) (hA10 : ∀ i, A' 10 i = A 10 i) (hA6 : ∀ i, A' 6 i = A 6 i) : rl_s1 B σ' f' A' T' s' := by
  obtain ⟨r1, r2, r3, r4, r5, r6, r7⟩ := hr
  have row : ∀ q Q, (q = 41 ∨ q = 42 ∨ q = 43) → (∃ n : Nat, (f.1 q (41 * s)).toInt = (n : Int) ∧ n ≤ 40 ∧ ro_at B σ T (A Q s) n (fun j => f.1 q (41 * s + 1 + j))) → A' Q s' = A Q s → ∃ n : Nat, (f'.1 q (41 * s')).toInt = (n : Int) ∧ n ≤ 40 ∧ ro_at B σ' T' (A' Q s') n (fun j => f'.1 q (41 * s' + 1 + j)) := by
    rintro q Q hq ⟨n, n1, n2, n3⟩ eA
    refine ⟨n, ?_, n2, ?_⟩
    · have := hrow q 0 hq (by omega)
      rw [Nat.add_zero, Nat.add_zero] at this
      rcases this with e | e
      · rw [e]; exact n1
      · rw [e, nar_s n1 (by omega)]; exact n1
    · rw [eA]
      have n4 := h.ro ht n3
      obtain ⟨n5, hh, n6, n7⟩ := n4
      refine ⟨n5, hh, n6, fun j hj => ?_⟩
      obtain ⟨z1, z2⟩ := n7 j hj
      have z1 : hh j = f.1 q (41 * s + 1 + j) := z1
      refine ⟨?_, z2⟩
      have := hrow q (j + 1) hq (by omega)
      rw [show 41 * s' + (j + 1) = 41 * s' + 1 + j by omega, show 41 * s + (j + 1) = 41 * s + 1 + j by omega, ← z1] at this
      rcases this with e | e
      · exact e.symm
      · rw [z2] at e; exact e.symm
  refine ⟨by rw [hA 8 (by omega)]; exact h.mv r1, ?_, ?_, ?_, row 41 81 (by omega) r5 (hA 81 (by omega)), row 42 82 (by omega) r6 (hA 82 (by omega)), row 43 83 (by omega) r7 (hA 83 (by omega))⟩
  · rw [hA 8 (by omega), h.eqv r1 hw, r2]
    unfold cs_e cp_ref
    rw [hA 81 (by omega), hA 82 (by omega), hA 83 (by omega), hi 44 (by omega), hi 47 (by omega), hi 48 (by omega), hl 45 (by omega), hl 46 (by omega), hA10, hA6]
  · rw [hi 44 (by omega)]
    obtain ⟨i, i1, i2⟩ := r3
    exact ⟨i, i1, by omega⟩
  · rw [hi 47 (by omega)]
    obtain ⟨i, i1, i2⟩ := r4
    exact ⟨i, i1, by omega⟩
end JxForget
